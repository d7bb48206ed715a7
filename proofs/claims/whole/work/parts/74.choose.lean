/-! the best of several rows, the first of equals -/
def Bet (top lo : Nat → Int) (most : Int) (i b : Nat) : Prop := (most = 0 ∧ top i * lo b < top b * lo i) ∨ (most = 1 ∧ top b * lo i < top i * lo b)
noncomputable def stepB (top lo : Nat → Int) (most : Int) (i : Nat) : Option Nat → Option Nat
  | none => some i
  | some b => @ite _ (Bet top lo most i b) (Classical.propDecidable _) (some i) (some b)
noncomputable def bst (C : Nat → Prop) (top lo : Nat → Int) (most : Int) : Nat → Option Nat
  | 0 => none
  | i + 1 => @ite _ (C i) (Classical.propDecidable _) (stepB top lo most i (bst C top lo most i)) (bst C top lo most i)
theorem bst_y {C : Nat → Prop} {top lo : Nat → Int} {most : Int} {i : Nat} (h : C i) : bst C top lo most (i + 1) = stepB top lo most i (bst C top lo most i) := by
  show @ite _ (C i) (Classical.propDecidable _) _ _ = _
  rw [if_pos h]
theorem bst_n {C : Nat → Prop} {top lo : Nat → Int} {most : Int} {i : Nat} (h : ¬ C i) : bst C top lo most (i + 1) = bst C top lo most i := by
  show @ite _ (C i) (Classical.propDecidable _) _ _ = _
  rw [if_neg h]
theorem bst_lt {C : Nat → Prop} {top lo : Nat → Int} {most : Int} : ∀ {k b : Nat}, bst C top lo most k = some b → b < k ∧ C b
  | 0, b, h => by cases h
  | k + 1, b, h => by
    by_cases c : C k
    · rw [bst_y c] at h
      rcases e : bst C top lo most k with _ | b'
      · rw [e] at h
        cases h
        exact ⟨by omega, c⟩
      · rw [e] at h
        have ih := bst_lt e
        change @ite _ (Bet top lo most k b') (Classical.propDecidable _) (some k) (some b') = some b at h
        by_cases q : Bet top lo most k b'
        · rw [if_pos q] at h; cases h; exact ⟨by omega, c⟩
        · rw [if_neg q] at h; cases h; exact ⟨by omega, ih.2⟩
    · rw [bst_n c] at h
      have ih := bst_lt h
      exact ⟨by omega, ih.2⟩
def Small (top lo : Nat → Int) (i : Nat) : Prop := 0 ≤ top i ∧ top i < 9223372036854775808 ∧ 0 < lo i ∧ lo i < 9223372036854775808
def CSt (M : jM) (g n : Int) (top lo : Nat → Int) : Option Nat → Prop
  | none => M 50 2 = 0
  | some b => M 50 2 = 1 ∧ Ln M 51 (dg g n b) n ∧ M 50 3 = top b ∧ M 50 4 = lo b
theorem CSt.fr {M M' : jM} {g n : Int} {top lo : Nat → Int} (e : ∀ a b, a = 50 ∨ a = 51 → M' a b = M a b) : ∀ {st : Option Nat}, CSt M g n top lo st → CSt M' g n top lo st
  | none, h => by
    show M' 50 2 = 0
    rw [e _ _ (Or.inl rfl)]; exact h
  | some b, ⟨h1, h2, h3, h4⟩ => ⟨by rw [e _ _ (Or.inl rfl)]; exact h1, Ln.fr h2 (e _ _ (Or.inr rfl)) (e _ _ (Or.inr rfl)) (fun _ _ _ => rfl), by rw [e _ _ (Or.inl rfl)]; exact h3, by rw [e _ _ (Or.inl rfl)]; exact h4⟩
theorem jp_50_0 : jpt 50 0 = 51 := rfl
theorem jp_50_1 : jpt 50 1 = 52 := rfl
theorem s_consider {M : jM} {g n most : Int} {top lo : Nat → Int} {st : Option Nat} {i : Nat} (hm : most = 0 ∨ most = 1) (hc : CSt M g n top lo st) (ht : Ln M 52 (dg g n i) n) (hi : Small top lo i) (hs : ∀ b, st = some b → Small top lo b) : Ret (f_X1_consider M 50 (top i) (lo i) most) (fun M' => (∀ a b, a ≠ 50 → a ≠ 51 → M' a b = M a b) ∧ CSt M' g n top lo (stepB top lo most i st)) := by
  have upd : Ret (f_X1_consider_51 M 50 (top i) (lo i)) (fun M' => (∀ a b, a ≠ 50 → a ≠ 51 → M' a b = M a b) ∧ CSt M' g n top lo (some i)) := by
    unfold f_X1_consider_51 f_X3_copy
    rw [jp_50_0, jp_50_1]
    refine Ret.l (Ret.b (Ret.l (Ret.l (Ret.s (Ret.l (Ret.l (Ret.s ⟨fun a b q1 q2 => ?_, ?_, ?_, ?_, ?_⟩)))))))
    · rw [sto_ne (by omega), sto_ne (by omega), sto_ne (by omega), sto_ne (by omega), sto_ne (by omega)]
    · rw [sto_ne (by omega), sto_ne (by omega), sto_ne (by omega), sto_ne (by omega), sto_eq rfl rfl]
    · refine Ln.fr (M := sto (sto M 51 0 (M 52 0)) 51 1 (M 52 1)) (d := dg g n i) ⟨ht.1, ht.2.1, ?_, ?_, ht.2.2.2.2⟩ ?_ ?_ (fun _ _ _ => rfl)
      · rw [sto_ne (by omega), sto_eq rfl rfl]; exact ht.2.2.1
      · rw [sto_eq rfl rfl]; exact ht.2.2.2.1
      · rw [sto_ne (by omega), sto_ne (by omega), sto_ne (by omega), sto_eq rfl rfl, sto_ne (by omega), sto_ne (by omega), sto_eq rfl rfl]
      · rw [sto_ne (by omega), sto_ne (by omega), sto_eq rfl rfl, sto_eq rfl rfl, sto_ne (by omega), sto_ne (by omega)]
    · rw [sto_ne (by omega), sto_eq rfl rfl]
    · rw [sto_eq rfl rfl]
  unfold f_X1_consider f_X1_consider_24
  rcases st with _ | b
  · have h0 : M 50 2 = 0 := hc
    rw [h0]
    exact Ret.t w32_0 (Ret.t w32_0 upd)
  · obtain ⟨h1, h2, h3, h4⟩ := id hc
    obtain ⟨i1, i2, i3, i4⟩ := hi
    obtain ⟨s1, s2, s3, s4⟩ := hs b rfl
    rw [h1, h3, h4]
    refine Ret.f w32_1n (Ret.bb (s_compareI i1 i2 i4 s1 s2 s4 i3 s3) (fun v hv => Ret.f w32_1n ?_))
    have v01 : v = 1 ∨ v = 0 ∨ v = -1 := by
      rcases hv with q | q | q
      · exact Or.inl q.1
      · exact Or.inr (Or.inl q.1)
      · exact Or.inr (Or.inr q.1)
    rw [w32_id (x := v) (by omega) (by omega)]
    have keep : ¬ Bet top lo most i b → Ret (some M) (fun M' => (∀ a b, a ≠ 50 → a ≠ 51 → M' a b = M a b) ∧ CSt M' g n top lo (stepB top lo most i (some b))) := fun q => Ret.s ⟨fun _ _ _ _ => rfl, by
      show CSt M g n top lo (@ite _ (Bet top lo most i b) (Classical.propDecidable _) (some i) (some b))
      rw [if_neg q]; exact hc⟩
    have up2 : Bet top lo most i b → Ret (f_X1_consider_51 M 50 (top i) (lo i)) (fun M' => (∀ a b, a ≠ 50 → a ≠ 51 → M' a b = M a b) ∧ CSt M' g n top lo (stepB top lo most i (some b))) := fun q => by
      have e : stepB top lo most i (some b) = some i := by
        show @ite _ (Bet top lo most i b) (Classical.propDecidable _) (some i) (some b) = _
        rw [if_pos q]
      rw [e]; exact upd
    rcases hm with rfl | rfl
    · refine Ret.t w32_0 (Ret.i (fun c => keep ?_) (fun c => up2 ?_))
      · rintro (⟨_, q⟩ | ⟨q, _⟩)
        · rcases hv with z | z | z <;> omega
        · omega
      · refine Or.inl ⟨rfl, ?_⟩
        rcases hv with z | z | z <;> omega
    · refine Ret.f w32_1n (Ret.i (fun c => keep ?_) (fun c => up2 ?_))
      · rintro (⟨q, _⟩ | ⟨_, q⟩)
        · omega
        · rcases hv with z | z | z <;> omega
      · refine Or.inr ⟨rfl, ?_⟩
        rcases hv with z | z | z <;> omega
/-- what choosing leaves -/
def ExC (M M' : jM) : Prop := ∀ a b, a ≠ 49 → a ≠ 50 → a ≠ 51 → a ≠ 52 → M' a b = M a b
theorem ExC.fr {M0 M M' : jM} (f : Fr M0 M) (h : ExC M M') : Fr M0 M' := fun a b k => (h a b (by unfold kp at k; omega) (by unfold kp at k; omega) (by unfold kp at k; omega) (by unfold kp at k; omega)).trans (f a b k)
theorem ExC.pt {M0 M M' : jM} (f : Pt M0 M) (h : ExC M M') : Pt M0 M' := f.tr ⟨h _ _ (by decide) (by decide) (by decide) (by decide), h _ _ (by decide) (by decide) (by decide) (by decide), h _ _ (by decide) (by decide) (by decide) (by decide), h _ _ (by decide) (by decide) (by decide) (by decide)⟩
theorem ExC.tr {M M1 M2 : jM} (h : ExC M M1) (h2 : ExC M1 M2) : ExC M M2 := fun a b q1 q2 q3 q4 => (h2 a b q1 q2 q3 q4).trans (h a b q1 q2 q3 q4)
theorem ExC.wt {M M' : jM} {g : Int} {w : Int → Int} {al : Int} (h : ExC M M') (hw : SWt M g w al) : SWt M' g w al := ⟨by rw [h _ _ (by decide) (by decide) (by decide) (by decide)]; exact hw.1, by rw [h _ _ (by decide) (by decide) (by decide) (by decide)]; exact hw.2.1, fun s s0 s1 => by rw [h _ _ (by decide) (by decide) (by decide) (by decide)]; exact hw.2.2 s s0 s1⟩
/-- the loop's state: i rows are looked at -/
def ChI (M : jM) (g n : Int) (C : Nat → Prop) (top lo : Nat → Int) (most : Int) (S : jM × Int × Int) : Prop := ∃ i : Nat, S.2.2 = (i : Int) ∧ ((S.2.1 = 1 ∧ i < g.toNat ^ n.toNat ∧ Ln S.1 52 (dg g n i) n) ∨ (S.2.1 = 0 ∧ i = g.toNat ^ n.toNat)) ∧ CSt S.1 g n top lo (bst C top lo most i) ∧ ExC M S.1
theorem s_next {M M2 : jM} {g n most : Int} {C : Nat → Prop} {top lo : Nat → Int} {i : Nat} {X : Type} {Q : X → Prop} (g0 : 2 ≤ g) (g1 : g ≤ 3) (n0 : 1 ≤ n) (n1 : n ≤ 4) (hi : i < g.toNat ^ n.toNat) (ht : Ln M2 52 (dg g n i) n) (hc : CSt M2 g n top lo (bst C top lo most (i + 1))) (he : ExC M M2) {gg : Int} (hg : gg = g) : Ret ((f_X3_stepOn M2 52 gg).bind fun r5 => (some (Sum.inl (r5.2, r5.1, (i : Int) + 1)) : Option ((jM × Int × Int) ⊕ X))) (fun r => (∀ t, r = .inl t → (ChI M g n C top lo most t ∧ (82 - t.2.2).toNat < (82 - (i : Int)).toNat)) ∧ (∀ x, r = .inr x → Q x)) := by
  have h81 := pw_rng g0 g1 n0 n1
  rw [hg]
  refine Ret.bb (s_stepOn ht n0 n1 g0 g1 hi (fun _ _ _ => rfl)) ?_
  rintro ⟨r, M3⟩ ⟨e3, hr⟩
  dsimp only at e3 hr ⊢
  have he3 : ExC M M3 := he.tr (fun a b _ _ _ q4 => e3 a b (by omega))
  have hc3 : CSt M3 g n top lo (bst C top lo most (i + 1)) := hc.fr (fun a b q => e3 a b (by omega))
  refine Rl ⟨⟨i + 1, rfl, ?_, hc3, he3⟩, by show (82 - ((i : Int) + 1)).toNat < (82 - (i : Int)).toNat; omega⟩
  rcases hr with ⟨q1, q2, q3⟩ | ⟨q1, q2⟩
  · exact Or.inl ⟨q1, q2, q3⟩
  · exact Or.inr ⟨q1, q2⟩
theorem dg_0 {g n : Int} : dg g n 0 = fun _ => 0 := by
  funext j
  unfold dg dgN
  rw [Nat.zero_div, Nat.zero_mod]
  rfl
theorem pk4_0 : ∀ n : Nat, pk4 (fun _ => 0) n = 0
  | 0 => rfl
  | n + 1 => by show 4 * pk4 (fun _ => 0) n + 0 = 0; rw [pk4_0 n]; rfl
theorem Ln.zeros {M : jM} {t n : Int} (n0 : 0 ≤ n) (n1 : n ≤ 24) (h0 : M t 0 = n) (h1 : M t 1 = 0) : Ln M t (fun _ => 0) n := ⟨n0, n1, h0, by rw [h1, pk4_0], fun _ _ _ => ⟨Int.le_refl 0, by show (0 : Int) ≤ 2; decide⟩⟩
theorem s_begin {M : jM} {g n most : Int} {C : Nat → Prop} {top lo : Nat → Int} (g0 : 2 ≤ g) (g1 : g ≤ 3) (n0 : 1 ≤ n) (n1 : n ≤ 4) : Ret (f_X1_begin M 50 n) (fun M' => ChI M g n C top lo most (M', 1, 0)) := by
  have h81 := pw_rng g0 g1 n0 n1
  unfold f_X1_begin f_X3_zeros
  rw [jp_50_1]
  refine Ret.b (Ret.l (Ret.l (Ret.s (Ret.l (Ret.s ⟨0, rfl, Or.inl ⟨rfl, h81.1, ?_⟩, ?_, fun a b q1 q2 q3 q4 => ?_⟩)))))
  · dsimp only
    rw [dg_0]
    exact Ln.zeros (by omega) (by omega) (by rw [sto_ne (by omega), sto_ne (by omega), sto_eq rfl rfl]) (by rw [sto_ne (by omega), sto_eq rfl rfl])
  · show sto (sto (sto M 52 0 n) 52 1 0) 50 2 0 50 2 = 0
    exact sto_eq rfl rfl
  · dsimp only
    rw [sto_ne (by omega), sto_ne (by omega), sto_ne (by omega)]
noncomputable def topW (w : Int → Int) (al g n : Int) (i : Nat) : Int := lapW w al (dg g n i) n (dg g n i) n.toNat
def loW (w : Int → Int) (g n : Int) (i : Nat) : Int := prodW w (dg g n i) n.toNat
theorem smallW {w : Int → Int} {g al n : Int} (hB : WtB g w al) (n0 : 1 ≤ n) (n1 : n ≤ 4) (i : Nat) : Small (topW w al g n) (loW w g n) i := by
  have hd := fun j (_ : 0 ≤ j) (_ : j < n) => (⟨(dg_rng hB.1 hB.2.1 j).1, (dg_rng hB.1 hB.2.1 j).2.1⟩ : 0 ≤ dg g n i j ∧ dg g n i j ≤ 2)
  obtain ⟨a1, a2, a3, a4⟩ := lap_bd hB (x := dg g n i) (n := n) (y := dg g n i) (m := n) (by omega) hd
  have hp := (LawD.fine (d := dg g n i) (n := n) hB (fun j _ _ => (dg_rng hB.1 hB.2.1 j).2.2) hd).pos
  unfold Small topW loW
  omega
theorem s_considerW {M : jM} {g n most : Int} {w : Int → Int} {al : Int} {st : Option Nat} {i : Nat} (hB : WtB g w al) (hw : SWt M g w al) (n0 : 1 ≤ n) (n1 : n ≤ 4) (hm : most = 0 ∨ most = 1) (hc : CSt M g n (topW w al g n) (loW w g n) st) (ht : Ln M 52 (dg g n i) n) : Ret (f_X1_considerWait M 50 47 most) (fun M' => (∀ a b, a ≠ 50 → a ≠ 51 → M' a b = M a b) ∧ CSt M' g n (topW w al g n) (loW w g n) (stepB (topW w al g n) (loW w g n) most i st)) := by
  unfold f_X1_considerWait
  rw [jp_50_1]
  refine Ret.bb (s_lap ht ht hw hB) (fun v1 e1 => Ret.bb (s_product ht hw hB) (fun v2 e2 => ?_))
  have e1 : v1 = topW w al g n i := e1
  have e2 : v2 = loW w g n i := e2
  rw [e1, e2]
  exact Ret.bb (s_consider hm hc ht (smallW hB n0 n1 i) (fun b _ => smallW hB n0 n1 b)) (fun M' h => Ret.s h)
/-- the shortest or the longest wait of all rows -/
theorem s_byWait {M : jM} {g n most : Int} {w : Int → Int} {al : Int} (hB : WtB g w al) (hw : SWt M g w al) (n0 : 1 ≤ n) (n1 : n ≤ 4) (hm : most = 0 ∨ most = 1) : Ret (f_X1_findByWait M 50 47 n most) (fun M' => ExC M M' ∧ CSt M' g n (topW w al g n) (loW w g n) (bst (fun _ => True) (topW w al g n) (loW w g n) most (g.toNat ^ n.toNat))) := by
  have g0 := hB.1
  have g1 := hB.2.1
  have h81 := pw_rng g0 g1 n0 n1
  unfold f_X1_findByWait
  refine Ret.bb (s_begin (C := fun _ => True) (top := topW w al g n) (lo := loW w g n) (most := most) g0 g1 n0 n1) (fun M1 h1 => ?_)
  refine Ret.bb (P := fun M' => ExC M M' ∧ CSt M' g n (topW w al g n) (loW w g n) (bst (fun _ => True) (topW w al g n) (loW w g n) most (g.toNat ^ n.toNat))) ?_ (fun M' h => Ret.s h)
  refine Ret.it (ChI M g n (fun _ => True) (topW w al g n) (loW w g n) most) (fun S => (82 - S.2.2).toNat) ?_ 5000 (M1, 1, 0) h1 (by show (82 - 0 : Int).toNat < 5000; decide)
  rintro ⟨M2, more, k⟩ ⟨i, hk, hmo, hc, he⟩
  dsimp only at hk hmo hc he
  subst hk
  unfold f_X1_findByWait_L11
  dsimp +instances only
  rw [w32_id (x := (i : Int)) (by omega) (by omega), w32_id (x := more) (by omega) (by omega), jp_50_1]
  have fin : i = g.toNat ^ n.toNat → ExC M M2 ∧ CSt M2 g n (topW w al g n) (loW w g n) (bst (fun _ => True) (topW w al g n) (loW w g n) most (g.toNat ^ n.toNat)) := fun q => ⟨he, by rw [← q]; exact hc⟩
  refine Ret.i (fun c => Rr (fin (by omega))) (fun c => Ret.i (fun c2 => Rr (fin (by omega))) (fun c2 => ?_))
  rcases hmo with ⟨q1, q2, q3⟩ | ⟨q1, q2⟩
  · refine Ret.bb (s_considerW hB (he.wt hw) n0 n1 hm hc q3) (fun M3 h3 => ?_)
    obtain ⟨e3, c3⟩ := h3
    have hc3 : CSt M3 g n (topW w al g n) (loW w g n) (bst (fun _ => True) (topW w al g n) (loW w g n) most (i + 1)) := by
      rw [bst_y trivial]; exact c3
    have he3 : ExC M M3 := he.tr (fun a b _ p2 p3 _ => e3 a b p2 p3)
    exact s_next g0 g1 n0 n1 q2 (Ln.fr q3 (e3 _ _ (by decide) (by decide)) (e3 _ _ (by decide) (by decide)) (fun _ _ _ => rfl)) hc3 he3 ((he3.wt hw).1)
  · omega
/-! against a row -/
noncomputable def topB (w : Int → Int) (al g n : Int) (d : Int → Int) (z : Int) (i : Nat) : Int := proW w al (dg g n i) n d z
noncomputable def loB (w : Int → Int) (al g n : Int) (d : Int → Int) (z : Int) (i : Nat) : Int := proW w al (dg g n i) n d z + proW w al d z (dg g n i) n
def CB (g n : Int) (d : Int → Int) (z : Int) (i : Nat) : Prop := Apart (dg g n i) n d z
def CW (w : Int → Int) (al g n : Int) (d : Int → Int) (z : Int) (i : Nat) : Prop := Apart (dg g n i) n d z ∧ proW w al d z (dg g n i) n ≤ proW w al (dg g n i) n d z
/-- the row played against -/
def AgR (g : Int) (d : Int → Int) (z : Int) : Prop := 1 ≤ z ∧ z ≤ 6 ∧ LawD g d z ∧ ∀ j, 0 ≤ j → j < z → 0 ≤ d j ∧ d j ≤ 2
theorem smallB {w : Int → Int} {g al n : Int} {d : Int → Int} {z : Int} (hB : WtB g w al) (hR : AgR g d z) (n0 : 1 ≤ n) (n1 : n ≤ 4) {i : Nat} (hA : CB g n d z i) : 0 < proW w al (dg g n i) n d z ∧ proW w al (dg g n i) n d z ≤ 400000000000000 ∧ 0 < proW w al d z (dg g n i) n ∧ proW w al d z (dg g n i) n ≤ 400000000000000 := by
  obtain ⟨z0, z1, hl, hz⟩ := hR
  have hd := fun j (_ : 0 ≤ j) (_ : j < n) => (⟨(dg_rng hB.1 hB.2.1 j).1, (dg_rng hB.1 hB.2.1 j).2.1⟩ : 0 ≤ dg g n i j ∧ dg g n i j ≤ 2)
  have fa := LawD.fine (d := dg g n i) (n := n) hB (fun j _ _ => (dg_rng hB.1 hB.2.1 j).2.2) hd
  have fb := LawD.fine hB hl hz
  exact ⟨proW_pos hB n0 z0 fa fb hA, (pro_bd hB (by omega) z1 hd hz).2, proW_pos hB z0 n0 fb fa ⟨hA.2, hA.1⟩, (pro_bd hB z1 (by omega) hz hd).2⟩
theorem smallB' {w : Int → Int} {g al n : Int} {d : Int → Int} {z : Int} (hB : WtB g w al) (hR : AgR g d z) (n0 : 1 ≤ n) (n1 : n ≤ 4) {i : Nat} (hA : CB g n d z i) : Small (topB w al g n d z) (loB w al g n d z) i := by
  have := smallB hB hR n0 n1 hA
  unfold Small topB loB
  omega
theorem s_best {M : jM} {g n : Int} {w : Int → Int} {al : Int} {d : Int → Int} {z t : Int} (hB : WtB g w al) (hw : SWt M g w al) (n0 : 1 ≤ n) (n1 : n ≤ 4) (hR : AgR g d z) (ht : Ln M t d z) (ht2 : t ≤ 42) : Ret (f_X1_findBest M 50 47 49 t n) (fun x => ExC M x.2 ∧ CSt x.2 g n (topB w al g n d z) (loB w al g n d z) (bst (CB g n d z) (topB w al g n d z) (loB w al g n d z) 1 (g.toNat ^ n.toNat)) ∧ (x.1 = if bst (CB g n d z) (topB w al g n d z) (loB w al g n d z) 1 (g.toNat ^ n.toNat) = none then 0 else 1)) := by
  have g0 := hB.1
  have g1 := hB.2.1
  have h81 := pw_rng g0 g1 n0 n1
  unfold f_X1_findBest
  refine Ret.bb (s_begin (C := CB g n d z) (top := topB w al g n d z) (lo := loB w al g n d z) (most := 1) g0 g1 n0 n1) (fun M1 h1 => ?_)
  refine Ret.bb (P := fun M' => ExC M M' ∧ CSt M' g n (topB w al g n d z) (loB w al g n d z) (bst (CB g n d z) (topB w al g n d z) (loB w al g n d z) 1 (g.toNat ^ n.toNat))) ?_ (fun M' h => ?_)
  · refine Ret.it (ChI M g n (CB g n d z) (topB w al g n d z) (loB w al g n d z) 1) (fun S => (82 - S.2.2).toNat) ?_ 5000 (M1, 1, 0) h1 (by show (82 - 0 : Int).toNat < 5000; decide)
    rintro ⟨M2, more, k⟩ ⟨i, hk, hmo, hc, he⟩
    dsimp only at hk hmo hc he
    subst hk
    unfold f_X1_findBest_L12 f_X1_findBest_58
    dsimp +instances only
    rw [w32_id (x := (i : Int)) (by omega) (by omega), w32_id (x := more) (by omega) (by omega), jp_50_1]
    have fin : i = g.toNat ^ n.toNat → ExC M M2 ∧ CSt M2 g n (topB w al g n d z) (loB w al g n d z) (bst (CB g n d z) (topB w al g n d z) (loB w al g n d z) 1 (g.toNat ^ n.toNat)) := fun q => ⟨he, by rw [← q]; exact hc⟩
    refine Ret.i (fun c => Rr (fin (by omega))) (fun c => Ret.i (fun c2 => Rr (fin (by omega))) (fun c2 => ?_))
    rcases hmo with ⟨q1, q2, q3⟩ | ⟨q1, q2⟩
    · have ht' : Ln M2 t d z := Ln.fr ht (he _ _ (by omega) (by omega) (by omega) (by omega)) (he _ _ (by omega) (by omega) (by omega) (by omega)) (fun _ _ _ => rfl)
      have hw2 := he.wt hw
      refine Ret.bb (s_isApart q3 ht' n0 hR.1) (fun v hv => ?_)
      rw [w32_id (x := v) (by omega) (by omega)]
      refine Ret.i (fun c3 => ?_) (fun c3 => ?_)
      · have hc3 : CSt M2 g n (topB w al g n d z) (loB w al g n d z) (bst (CB g n d z) (topB w al g n d z) (loB w al g n d z) 1 (i + 1)) := by
          rw [bst_n (fun q => by have := hv.2.mpr q; omega)]; exact hc
        exact s_next g0 g1 n0 n1 q2 q3 hc3 he hw2.1
      · have hA : CB g n d z i := hv.2.mp (by omega)
        refine Ret.bb (s_measure q3 ht' hw2 hB) (fun M3 h3 => ?_)
        obtain ⟨e3, d0, d1, d2, d3⟩ := h3
        have d0 : M3 49 0 = topB w al g n d z i := d0
        have d2 : M3 49 2 = loB w al g n d z i := d2
        rw [d0, d2]
        have hq3 : Ln M3 52 (dg g n i) n := Ln.fr q3 (e3 _ _ (by decide)) (e3 _ _ (by decide)) (fun _ _ _ => rfl)
        refine Ret.bb (s_consider (Or.inr rfl) (hc.fr (fun a b q => e3 a b (by omega))) hq3 (smallB' hB hR n0 n1 hA) (fun b hb => smallB' hB hR n0 n1 (bst_lt hb).2)) (fun M4 h4 => ?_)
        obtain ⟨e4, c4⟩ := h4
        have he4 : ExC M M4 := he.tr (fun a b p1 p2 p3 _ => (e4 a b p2 p3).trans (e3 a b p1))
        have hc4 : CSt M4 g n (topB w al g n d z) (loB w al g n d z) (bst (CB g n d z) (topB w al g n d z) (loB w al g n d z) 1 (i + 1)) := by
          rw [bst_y hA]; exact c4
        exact s_next g0 g1 n0 n1 q2 (Ln.fr hq3 (e4 _ _ (by decide) (by decide)) (e4 _ _ (by decide) (by decide)) (fun _ _ _ => rfl)) hc4 he4 ((he4.wt hw).1)
    · omega
  · obtain ⟨he, hc⟩ := h
    rcases e : bst (CB g n d z) (topB w al g n d z) (loB w al g n d z) 1 (g.toNat ^ n.toNat) with _ | b
    · rw [e] at hc
      have hc0 : M' 50 2 = 0 := hc
      exact Ret.g (Or.inl hc0) (Ret.s ⟨he, hc, by show M' 50 2 = _; rw [hc0, if_pos rfl]⟩)
    · rw [e] at hc
      exact Ret.g (Or.inr hc.1) (Ret.s ⟨he, hc, by show M' 50 2 = _; rw [hc.1, if_neg (by intro q; cases q)]⟩)
theorem s_slow {M : jM} {g n : Int} {w : Int → Int} {al : Int} {d : Int → Int} {z t : Int} (hB : WtB g w al) (hw : SWt M g w al) (n0 : 1 ≤ n) (n1 : n ≤ 4) (hR : AgR g d z) (ht : Ln M t d z) (ht2 : t ≤ 42) : Ret (f_X1_findSlowBest M 50 47 49 t n) (fun x => ExC M x.2 ∧ CSt x.2 g n (topW w al g n) (loW w g n) (bst (CW w al g n d z) (topW w al g n) (loW w g n) 1 (g.toNat ^ n.toNat)) ∧ (x.1 = if bst (CW w al g n d z) (topW w al g n) (loW w g n) 1 (g.toNat ^ n.toNat) = none then 0 else 1)) := by
  have g0 := hB.1
  have g1 := hB.2.1
  have h81 := pw_rng g0 g1 n0 n1
  unfold f_X1_findSlowBest
  refine Ret.bb (s_begin (C := CW w al g n d z) (top := topW w al g n) (lo := loW w g n) (most := 1) g0 g1 n0 n1) (fun M1 h1 => ?_)
  refine Ret.bb (P := fun M' => ExC M M' ∧ CSt M' g n (topW w al g n) (loW w g n) (bst (CW w al g n d z) (topW w al g n) (loW w g n) 1 (g.toNat ^ n.toNat))) ?_ (fun M' h => ?_)
  · refine Ret.it (ChI M g n (CW w al g n d z) (topW w al g n) (loW w g n) 1) (fun S => (82 - S.2.2).toNat) ?_ 5000 (M1, 1, 0) h1 (by show (82 - 0 : Int).toNat < 5000; decide)
    rintro ⟨M2, more, k⟩ ⟨i, hk, hmo, hc, he⟩
    dsimp only at hk hmo hc he
    subst hk
    unfold f_X1_findSlowBest_L12 f_X1_findSlowBest_63
    dsimp +instances only
    rw [w32_id (x := (i : Int)) (by omega) (by omega), w32_id (x := more) (by omega) (by omega), jp_50_1]
    have fin : i = g.toNat ^ n.toNat → ExC M M2 ∧ CSt M2 g n (topW w al g n) (loW w g n) (bst (CW w al g n d z) (topW w al g n) (loW w g n) 1 (g.toNat ^ n.toNat)) := fun q => ⟨he, by rw [← q]; exact hc⟩
    refine Ret.i (fun c => Rr (fin (by omega))) (fun c => Ret.i (fun c2 => Rr (fin (by omega))) (fun c2 => ?_))
    rcases hmo with ⟨q1, q2, q3⟩ | ⟨q1, q2⟩
    · have ht' : Ln M2 t d z := Ln.fr ht (he _ _ (by omega) (by omega) (by omega) (by omega)) (he _ _ (by omega) (by omega) (by omega) (by omega)) (fun _ _ _ => rfl)
      have hw2 := he.wt hw
      refine Ret.bb (s_isApart q3 ht' n0 hR.1) (fun v hv => ?_)
      rw [w32_id (x := v) (by omega) (by omega)]
      refine Ret.i (fun c3 => ?_) (fun c3 => ?_)
      · have hc3 : CSt M2 g n (topW w al g n) (loW w g n) (bst (CW w al g n d z) (topW w al g n) (loW w g n) 1 (i + 1)) := by
          rw [bst_n (fun q => by have := hv.2.mpr q.1; omega)]; exact hc
        exact s_next g0 g1 n0 n1 q2 q3 hc3 he hw2.1
      · have hA : CB g n d z i := hv.2.mp (by omega)
        have sm := smallB hB hR n0 n1 hA
        refine Ret.bb (s_measure q3 ht' hw2 hB) (fun M3 h3 => ?_)
        obtain ⟨e3, d0, d1, d2, d3⟩ := h3
        rw [d0, d1, w64_id (by omega) (by omega), w64_id (by omega) (by omega)]
        have he3 : ExC M M3 := he.tr (fun a b p1 p2 p3 _ => e3 a b p1)
        have hq3 : Ln M3 52 (dg g n i) n := Ln.fr q3 (e3 _ _ (by decide)) (e3 _ _ (by decide)) (fun _ _ _ => rfl)
        have hc3 := hc.fr (M' := M3) (fun a b q => e3 a b (by omega))
        refine Ret.i (fun c4 => ?_) (fun c4 => ?_)
        · exact s_next g0 g1 n0 n1 q2 hq3 (by rw [bst_n (fun q => by have := q.2; omega)]; exact hc3) he3 ((he3.wt hw).1)
        · refine Ret.bb (s_considerW hB (he3.wt hw) n0 n1 (Or.inr rfl) hc3 hq3) (fun M4 h4 => ?_)
          obtain ⟨e4, c4'⟩ := h4
          have he4 : ExC M M4 := he3.tr (fun a b p1 p2 p3 _ => e4 a b p2 p3)
          exact s_next g0 g1 n0 n1 q2 (Ln.fr hq3 (e4 _ _ (by decide) (by decide)) (e4 _ _ (by decide) (by decide)) (fun _ _ _ => rfl)) (by rw [bst_y (C := CW w al g n d z) ⟨hA, by omega⟩]; exact c4') he4 ((he4.wt hw).1)
    · omega
  · obtain ⟨he, hc⟩ := h
    rcases e : bst (CW w al g n d z) (topW w al g n) (loW w g n) 1 (g.toNat ^ n.toNat) with _ | b
    · rw [e] at hc
      have hc0 : M' 50 2 = 0 := hc
      exact Ret.g (Or.inl hc0) (Ret.s ⟨he, hc, by show M' 50 2 = _; rw [hc0, if_pos rfl]⟩)
    · rw [e] at hc
      exact Ret.g (Or.inr hc.1) (Ret.s ⟨he, hc, by show M' 50 2 = _; rw [hc.1, if_neg (by intro q; cases q)]⟩)
