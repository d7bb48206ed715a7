/-! the reference's choosing -/
def RSt (M : jM) (g n : Int) (top lo : Nat → Int) (any best of : Int) : Option Nat → Prop
  | none => any = 0
  | some b => any = 1 ∧ best = top b ∧ of = lo b ∧ RRow M 6 (dg g n b) n
theorem RSt.fr {M M' : jM} {g n : Int} {top lo : Nat → Int} {any best of : Int} (e : ∀ b, (46 ≤ b ∧ b < 52) ∨ b = 64 → M' 63 b = M 63 b) : ∀ {st : Option Nat}, RSt M g n top lo any best of st → RSt M' g n top lo any best of st
  | none, h => h
  | some b, ⟨h1, h2, h3, h4⟩ => ⟨h1, h2, h3, h4.fr (fun b q1 q2 => e b (by omega))⟩
def RchI (M0 : jM) (n : Int) (C : Nat → Prop) (top lo : Nat → Int) (most : Int) (S : jM × Int × Int × Int × Int) : Prop := ∃ i : Nat, S.2.2.2.2 = (i : Int) ∧ i ≤ (M0 3 0).toNat ^ n.toNat ∧ Fr M0 S.1 ∧ Pt M0 S.1 ∧ RWt S.1 (M0 3 0) (wOf M0) (aOf M0) ∧ RSt S.1 (M0 3 0) n top lo S.2.1 S.2.2.1 S.2.2.2.1 (bst C top lo most i)
theorem LawD.dg {g n : Int} {i : Nat} (g0 : 2 ≤ g) (g1 : g ≤ 3) : LawD g (dg g n i) n := fun j _ _ => (dg_rng g0 g1 j).2.2
theorem ExP.wt {M M' : jM} {g : Int} {w : Int → Int} {al : Int} (h : ExP M M') (hw : RWt M g w al) : RWt M' g w al := hw.fr (h _ _ (by omega)) (fun s => h _ _ (by omega))
theorem ExW.wt {M M' : jM} {g : Int} {w : Int → Int} {al : Int} (h : ExW M M') (hw : RWt M g w al) : RWt M' g w al := hw.fr (h _ _ (by omega)) (fun s => h _ _ (by omega))
/-- the reference's odds of the row on its way against another -/
theorem r_oddsW {M0 M : jM} (h : jInv M0) (f : Fr M0 M) {n : Int} {i : Nat} {r : Int} {d : Int → Int} {z : Int} (hw : RRow M 7 (dg (M0 3 0) n i) n) (hr : RRow M r d z) (hl : LawD (M0 3 0) d z) : Ret (f_X10_looksForOdds M 62 7 r) (fun M' => Ex5 M M' ∧ RWt M' (M0 3 0) (wOf M0) (aOf M0) ∧ M' 62 13 = proW (wOf M0) (aOf M0) (dg (M0 3 0) n i) n d z ∧ M' 62 14 = proW (wOf M0) (aOf M0) d z (dg (M0 3 0) n i) n) := by
  obtain ⟨g0, g1, -⟩ := h.st
  have k := r_odds h f.f8 (h.z8 f) (by decide) (by decide) hw hr (LawD.dg g0 g1) hl
  rw [wO_0, aO_0] at k
  exact k
theorem stepB_some {top lo : Nat → Int} {most : Int} {i b : Nat} (q : Bet top lo most i b) : stepB top lo most i (some b) = some i := by
  show @ite _ (Bet top lo most i b) (Classical.propDecidable _) (some i) (some b) = _
  rw [if_pos q]
theorem stepB_keep {top lo : Nat → Int} {most : Int} {i b : Nat} (q : ¬ Bet top lo most i b) : stepB top lo most i (some b) = some b := by
  show @ite _ (Bet top lo most i b) (Classical.propDecidable _) (some i) (some b) = _
  rw [if_neg q]
set_option maxHeartbeats 1000000 in
theorem r_picksBest {M0 M : jM} (h : jInv M0) (f : Fr M0 M) (p : Pt M0 M) {n r : Int} (n0 : 1 ≤ n) (n1 : n ≤ 4) (hr : isRw M0 r) (hl : LawD (M0 3 0) (rowd M0 r) (rowz M0 r)) : Ret (f_X10_picksBest M 62 r n) (fun x => Fr M0 x.2 ∧ Pt M0 x.2 ∧ ∃ best of, RSt x.2 (M0 3 0) n (topB (wOf M0) (aOf M0) (M0 3 0) n (rowd M0 r) (rowz M0 r)) (loB (wOf M0) (aOf M0) (M0 3 0) n (rowd M0 r) (rowz M0 r)) x.1 best of (bst (CB (M0 3 0) n (rowd M0 r) (rowz M0 r)) (topB (wOf M0) (aOf M0) (M0 3 0) n (rowd M0 r) (rowz M0 r)) (loB (wOf M0) (aOf M0) (M0 3 0) n (rowd M0 r) (rowz M0 r)) 1 ((M0 3 0).toNat ^ n.toNat))) := by
  obtain ⟨g0, g1, -⟩ := h.st
  have h81 := pw_rng g0 g1 n0 n1
  have hR : AgR (M0 3 0) (rowd M0 r) (rowz M0 r) := ⟨(rowz_rng h hr).1, (rowz_rng h hr).2, hl, rowd_rng h hr⟩
  obtain ⟨g, hg⟩ : ∃ g, g = M0 3 0 := ⟨_, rfl⟩
  obtain ⟨top, htop⟩ : ∃ top, top = topB (wOf M0) (aOf M0) (M0 3 0) n (rowd M0 r) (rowz M0 r) := ⟨_, rfl⟩
  obtain ⟨lo, hlo⟩ : ∃ lo, lo = loB (wOf M0) (aOf M0) (M0 3 0) n (rowd M0 r) (rowz M0 r) := ⟨_, rfl⟩
  have sm : ∀ i, CB (M0 3 0) n (rowd M0 r) (rowz M0 r) i → Small top lo i := fun i q => by rw [htop, hlo]; exact smallB' h.wb hR n0 n1 q
  rw [← htop, ← hlo]
  unfold f_X10_picksBest
  refine Ret.bb (P := fun x : jM × Int => Fr M0 x.1 ∧ Pt M0 x.1 ∧ ∃ best of, RSt x.1 (M0 3 0) n top lo x.2 best of (bst (CB (M0 3 0) n (rowd M0 r) (rowz M0 r)) top lo 1 ((M0 3 0).toNat ^ n.toNat))) ?_ (fun x hx => ?_)
  · refine Ret.it (fun S : jM × Int × Int × Int × Int => ∃ i : Nat, S.2.2.2.2 = (i : Int) ∧ i ≤ (M0 3 0).toNat ^ n.toNat ∧ Fr M0 S.1 ∧ Pt M0 S.1 ∧ RSt S.1 (M0 3 0) n top lo S.2.1 S.2.2.1 S.2.2.2.1 (bst (CB (M0 3 0) n (rowd M0 r) (rowz M0 r)) top lo 1 i)) (fun S => (82 - S.2.2.2.2).toNat) ?_ 5000 (M, 0, 0, 1, 0) ⟨0, rfl, by omega, f, p, rfl⟩ (by show (82 - 0 : Int).toNat < 5000; decide)
    rintro ⟨M1, any, best, of, k⟩ ⟨i, hk, hiG, f1, p1, hs⟩
    dsimp only at hk hiG f1 p1 hs
    subst hk
    unfold f_X10_picksBest_L11 f_X10_picksBest_72 f_X10_picksBest_95
    dsimp +instances only
    refine Ret.bb (r_rowsOf h f1 n0 n1) (fun v hv => ?_)
    rw [hv, w32_id (x := ((((M0 3 0).toNat ^ n.toNat : Nat)) : Int)) (by omega) (by omega), w32_id (x := (i : Int)) (by omega) (by omega)]
    refine Ret.i (fun c => Rr ⟨f1, p1, best, of, ?_⟩) (fun c => ?_)
    · have : i = (M0 3 0).toNat ^ n.toNat := by omega
      rw [← this]; exact hs
    have hi : i < (M0 3 0).toNat ^ n.toNat := by omega
    refine Ret.bb (r_comes h f1 n0 n1 hi) (fun M2 h2 => ?_)
    obtain ⟨e2, w2⟩ := h2
    have f2 := e2.fr f1
    have p2 := e2.pt p1
    have hs2 : RSt M2 (M0 3 0) n top lo any best of (bst (CB (M0 3 0) n (rowd M0 r) (rowz M0 r)) top lo 1 i) := hs.fr (fun b q => e2 _ _ (by omega))
    have hr2 := h.rr f2 hr.1 hr.2
    have mu : (82 - ((i : Int) + 1)).toNat < (82 - (i : Int)).toNat := by omega
    refine Ret.bb (r_apart w2 hr2) (fun u hu => ?_)
    rw [w32_id (x := u) (by omega) (by omega)]
    refine Ret.i (fun c2 => Rl ⟨⟨i + 1, rfl, by omega, f2, p2, ?_⟩, mu⟩) (fun c2 => ?_)
    · rw [bst_n (fun q => by have := hu.2.mpr q; omega)]; exact hs2
    have hA : CB (M0 3 0) n (rowd M0 r) (rowz M0 r) i := hu.2.mp (by omega)
    refine Ret.bb (r_oddsW h f2 w2 hr2 hl) (fun M3 h3 => ?_)
    obtain ⟨e3, w3, d0, d1⟩ := h3
    have f3 := e3.fr f2
    have p3 := e3.pt p2
    have hs3 : RSt M3 (M0 3 0) n top lo any best of (bst (CB (M0 3 0) n (rowd M0 r) (rowz M0 r)) top lo 1 i) := hs2.fr (fun b q => e3 _ _ (by decide) (by decide) (by decide) (by omega))
    have hw3 := e3.row w2
    have d0 : M3 62 13 = top i := by rw [htop]; exact d0
    have d2 : M3 62 13 + M3 62 14 = lo i := by rw [d0, d1, htop, hlo]; rfl
    rw [d2, d0]
    have take : stepB top lo 1 i (bst (CB (M0 3 0) n (rowd M0 r) (rowz M0 r)) top lo 1 i) = some i → Ret ((f_X10_picks M3 62).bind fun r8 => (some (Sum.inl (r8, 1, top i, lo i, (i : Int) + 1)) : Option ((jM × Int × Int × Int × Int) ⊕ (jM × Int)))) (fun r' => (∀ t, r' = .inl t → ((∃ i : Nat, t.2.2.2.2 = (i : Int) ∧ i ≤ (M0 3 0).toNat ^ n.toNat ∧ Fr M0 t.1 ∧ Pt M0 t.1 ∧ RSt t.1 (M0 3 0) n top lo t.2.1 t.2.2.1 t.2.2.2.1 (bst (CB (M0 3 0) n (rowd M0 r) (rowz M0 r)) top lo 1 i)) ∧ (82 - t.2.2.2.2).toNat < (82 - (i : Int)).toNat)) ∧ (∀ x, r' = .inr x → Fr M0 x.1 ∧ Pt M0 x.1 ∧ ∃ best of, RSt x.1 (M0 3 0) n top lo x.2 best of (bst (CB (M0 3 0) n (rowd M0 r) (rowz M0 r)) top lo 1 ((M0 3 0).toNat ^ n.toNat)))) := by
      intro q
      refine Ret.bb (r_picks hw3) (fun M4 h4 => ?_)
      obtain ⟨e4, w4⟩ := h4
      refine Rl ⟨⟨i + 1, rfl, by omega, e4.fr f3, e4.pt p3, ?_⟩, mu⟩
      rw [bst_y hA, q]
      exact ⟨rfl, rfl, rfl, w4⟩
    rcases e : bst (CB (M0 3 0) n (rowd M0 r) (rowz M0 r)) top lo 1 i with _ | b
    · rw [e] at hs3 take
      have hs0 : any = 0 := hs3
      rw [hs0]
      exact Ret.t w32_0 (take rfl)
    · rw [e] at hs3 take
      obtain ⟨a1, a2, a3, a4⟩ := id hs3
      obtain ⟨s1, s2, s3, s4⟩ := sm b (bst_lt e).2
      obtain ⟨i1, i2, i3, i4⟩ := sm i hA
      rw [a1, a2, a3]
      refine Ret.f w32_1n (Ret.bb (r_isLessI s1 s2 s4 i1 i2 i4 s3 i3) (fun v hv => ?_))
      rw [w32_id (x := v) (by omega) (by omega)]
      refine Ret.i (fun c3 => Rl ⟨⟨i + 1, rfl, by omega, f3, p3, ?_⟩, mu⟩) (fun c3 => take ?_)
      · rw [bst_y hA, e, stepB_keep (by
          rintro (⟨q, _⟩ | ⟨_, q⟩)
          · omega
          · rcases hv with z | z <;> omega)]
        exact ⟨rfl, rfl, rfl, a4⟩
      · exact stepB_some (Or.inr ⟨rfl, by rcases hv with z | z <;> omega⟩)
  · obtain ⟨fx, px, best, of, hs⟩ := hx
    rcases e : bst (CB (M0 3 0) n (rowd M0 r) (rowz M0 r)) top lo 1 ((M0 3 0).toNat ^ n.toNat) with _ | b
    · rw [e] at hs
      have hs0 : x.2 = 0 := hs
      exact Ret.g (Or.inl hs0) (Ret.s ⟨fx, px, best, of, hs⟩)
    · rw [e] at hs
      exact Ret.g (Or.inr hs.1) (Ret.s ⟨fx, px, best, of, hs⟩)
/-- one row looked at for its wait -/
theorem r_wait86 {M0 M : jM} (h : jInv M0) (f : Fr M0 M) (p : Pt M0 M) (w : RWt M (M0 3 0) (wOf M0) (aOf M0)) {n : Int} (n0 : 1 ≤ n) (n1 : n ≤ 4) {i : Nat} (hi : i < (M0 3 0).toNat ^ n.toNat) (hw : RRow M 7 (dg (M0 3 0) n i) n) {C : Nat → Prop} {most any best of may l3 : Int} (hmost : most = 0 ∨ most = 1) (hs : RSt M (M0 3 0) n (topW (wOf M0) (aOf M0) (M0 3 0) n) (loW (wOf M0) (M0 3 0) n) any best of (bst C (topW (wOf M0) (aOf M0) (M0 3 0) n) (loW (wOf M0) (M0 3 0) n) most i)) (hmay : (may = 0 ∧ ¬ C i) ∨ (may = 1 ∧ C i)) {Q : jM × Int → Prop} : Ret (f_X10_picksByWait_86 M 62 n most l3 any best of i may) (fun r => (∀ t, r = .inl t → (RchI M0 n C (topW (wOf M0) (aOf M0) (M0 3 0) n) (loW (wOf M0) (M0 3 0) n) most t ∧ (82 - t.2.2.2.2).toNat < (82 - (i : Int)).toNat)) ∧ (∀ x, r = .inr x → Q x)) := by
  obtain ⟨g0, g1, -⟩ := h.st
  have h81 := pw_rng g0 g1 n0 n1
  have mu : (82 - ((i : Int) + 1)).toNat < (82 - (i : Int)).toNat := by omega
  unfold f_X10_picksByWait_86 f_X10_picksByWait_150 f_X10_picksByWait_165
  refine Ret.bb (r_lapOf hw hw (LawD.dg g0 g1) w h.wb) (fun v1 e1 => Ret.bb (r_wFrom0 hw (LawD.dg g0 g1) w h.wb) (fun v2 e2 => ?_))
  have e1 : v1 = topW (wOf M0) (aOf M0) (M0 3 0) n i := e1
  have e2 : v2 = loW (wOf M0) (M0 3 0) n i := e2
  have sm := smallW h.wb n0 n1
  obtain ⟨top, htop⟩ : ∃ top, top = topW (wOf M0) (aOf M0) (M0 3 0) n := ⟨_, rfl⟩
  obtain ⟨lo, hlo⟩ : ∃ lo, lo = loW (wOf M0) (M0 3 0) n := ⟨_, rfl⟩
  rw [← htop] at e1 hs sm ⊢
  rw [← hlo] at e2 hs sm ⊢
  rw [e1, e2]
  have take : C i → stepB top lo most i (bst C top lo most i) = some i → Ret ((f_X10_picks M 62).bind fun r11 => (some (Sum.inl (r11, 1, top i, lo i, (i : Int) + 1)) : Option ((jM × Int × Int × Int × Int) ⊕ (jM × Int)))) (fun r => (∀ t, r = .inl t → (RchI M0 n C top lo most t ∧ (82 - t.2.2.2.2).toNat < (82 - (i : Int)).toNat)) ∧ (∀ x, r = .inr x → Q x)) := by
    intro hC q
    refine Ret.bb (r_picks hw) (fun M4 h4 => ?_)
    obtain ⟨e4, w4⟩ := h4
    refine Rl ⟨⟨i + 1, rfl, by omega, e4.fr f, e4.pt p, e4.wt w, ?_⟩, mu⟩
    rw [bst_y hC, q]
    exact ⟨rfl, rfl, rfl, w4⟩
  rcases hmay with ⟨rfl, hC⟩ | ⟨rfl, hC⟩
  · refine Ret.t w32_0 (Rl ⟨⟨i + 1, rfl, by omega, f, p, w, ?_⟩, mu⟩)
    rw [bst_n hC]; exact hs
  · refine Ret.f w32_1n ?_
    have take := take hC
    rcases e : bst C top lo most i with _ | b
    · rw [e] at hs take
      have hs0 : any = 0 := hs
      rw [hs0]
      exact Ret.t w32_0 (take rfl)
    · rw [e] at hs take
      obtain ⟨a1, a2, a3, a4⟩ := id hs
      obtain ⟨s1, s2, s3, s4⟩ := sm b
      obtain ⟨i1, i2, i3, i4⟩ := sm i
      rw [a1, a2, a3]
      refine Ret.f w32_1n ?_
      have keep : ¬ Bet top lo most i b → RchI M0 n C top lo most (M, 1, top b, lo b, (i : Int) + 1) := fun q => ⟨i + 1, rfl, by omega, f, p, w, by
        rw [bst_y hC, e, stepB_keep q]
        exact ⟨rfl, rfl, rfl, a4⟩⟩
      rcases hmost with rfl | rfl
      · refine Ret.t w32_0 (Ret.bb (r_isLessI i1 i2 i4 s1 s2 s4 i3 s3) (fun v hv => ?_))
        rw [w32_id (x := v) (by omega) (by omega)]
        refine Ret.i (fun c3 => Rl ⟨keep ?_, mu⟩) (fun c3 => take (stepB_some (Or.inl ⟨rfl, by rcases hv with z | z <;> omega⟩)))
        rintro (⟨_, q⟩ | ⟨q, _⟩)
        · rcases hv with z | z <;> omega
        · omega
      · refine Ret.f w32_1n (Ret.bb (r_isLessI s1 s2 s4 i1 i2 i4 s3 i3) (fun v hv => ?_))
        rw [w32_id (x := v) (by omega) (by omega)]
        refine Ret.i (fun c3 => Rl ⟨keep ?_, mu⟩) (fun c3 => take (stepB_some (Or.inr ⟨rfl, by rcases hv with z | z <;> omega⟩)))
        rintro (⟨q, _⟩ | ⟨_, q⟩)
        · omega
        · rcases hv with z | z <;> omega
theorem r_byWait {M0 M : jM} (h : jInv M0) (f : Fr M0 M) (p : Pt M0 M) {n most ag : Int} (n0 : 1 ≤ n) (n1 : n ≤ 4) (hmost : most = 0 ∨ most = 1) {C : Nat → Prop} (hag : (ag = -1 ∧ C = fun _ => True) ∨ (isRw M0 ag ∧ LawD (M0 3 0) (rowd M0 ag) (rowz M0 ag) ∧ C = CW (wOf M0) (aOf M0) (M0 3 0) n (rowd M0 ag) (rowz M0 ag))) : Ret (f_X10_picksByWait M 62 n most ag) (fun x => Fr M0 x.2 ∧ Pt M0 x.2 ∧ ∃ best of, RSt x.2 (M0 3 0) n (topW (wOf M0) (aOf M0) (M0 3 0) n) (loW (wOf M0) (M0 3 0) n) x.1 best of (bst C (topW (wOf M0) (aOf M0) (M0 3 0) n) (loW (wOf M0) (M0 3 0) n) most ((M0 3 0).toNat ^ n.toNat))) := by
  obtain ⟨g0, g1, -⟩ := h.st
  have h81 := pw_rng g0 g1 n0 n1
  unfold f_X10_picksByWait
  refine Ret.bb (r_looks0 h f) (fun M1 h1 => ?_)
  obtain ⟨e1, w1⟩ := h1
  refine Ret.bb (P := fun x : jM × Int => Fr M0 x.1 ∧ Pt M0 x.1 ∧ ∃ best of, RSt x.1 (M0 3 0) n (topW (wOf M0) (aOf M0) (M0 3 0) n) (loW (wOf M0) (M0 3 0) n) x.2 best of (bst C (topW (wOf M0) (aOf M0) (M0 3 0) n) (loW (wOf M0) (M0 3 0) n) most ((M0 3 0).toNat ^ n.toNat))) ?_ (fun x hx => ?_)
  · refine Ret.it (RchI M0 n C (topW (wOf M0) (aOf M0) (M0 3 0) n) (loW (wOf M0) (M0 3 0) n) most) (fun S => (82 - S.2.2.2.2).toNat) ?_ 5000 (M1, 0, 0, 1, 0) ⟨0, rfl, by omega, e1.fr f, e1.pt p, w1, rfl⟩ (by show (82 - 0 : Int).toNat < 5000; decide)
    rintro ⟨M1, any, best, of, k⟩ ⟨i, hk, hiG, f1, p1, w1, hs⟩
    dsimp only at hk hiG f1 p1 w1 hs
    subst hk
    unfold f_X10_picksByWait_L16 f_X10_picksByWait_43 f_X10_picksByWait_84
    dsimp +instances only
    refine Ret.bb (r_rowsOf h f1 n0 n1) (fun v hv => ?_)
    rw [hv, w32_id (x := ((((M0 3 0).toNat ^ n.toNat : Nat)) : Int)) (by omega) (by omega), w32_id (x := (i : Int)) (by omega) (by omega)]
    refine Ret.i (fun c => Rr ⟨f1, p1, best, of, ?_⟩) (fun c => ?_)
    · have : i = (M0 3 0).toNat ^ n.toNat := by omega
      rw [← this]; exact hs
    have hi : i < (M0 3 0).toNat ^ n.toNat := by omega
    refine Ret.bb (r_comes h f1 n0 n1 hi) (fun M2 h2 => ?_)
    obtain ⟨e2, rw2⟩ := h2
    have f2 := e2.fr f1
    have p2 := e2.pt p1
    have w2 := e2.wt w1
    have hs2 : RSt M2 (M0 3 0) n (topW (wOf M0) (aOf M0) (M0 3 0) n) (loW (wOf M0) (M0 3 0) n) any best of (bst C (topW (wOf M0) (aOf M0) (M0 3 0) n) (loW (wOf M0) (M0 3 0) n) most i) := hs.fr (fun b q => e2 _ _ (by omega))
    rcases hag with ⟨ha, hC⟩ | ⟨hr, hl, hC⟩
    · rw [ha, w32_id (x := -1) (by decide) (by decide)]
      refine Ret.t rfl (Ret.f w32_1n ?_)
      exact r_wait86 h f2 p2 w2 n0 n1 hi rw2 hmost hs2 (Or.inr ⟨rfl, by rw [hC]; trivial⟩)
    · have hq := h.1.2.2.2.1.2.2.1
      have hr0 := hr.1
      have hr1 : ag < M0 63 0 := hr.2
      rw [w32_id (x := ag) (by omega) (by omega)]
      have hr2 := h.rr f2 hr.1 hr.2
      have hR : AgR (M0 3 0) (rowd M0 ag) (rowz M0 ag) := ⟨(rowz_rng h hr).1, (rowz_rng h hr).2, hl, rowd_rng h hr⟩
      refine Ret.f (by omega) (Ret.t w32_0 (Ret.bb (r_apart rw2 hr2) (fun u hu => ?_)))
      rw [w32_id (x := u) (by omega) (by omega)]
      refine Ret.i (fun c2 => ?_) (fun c2 => ?_)
      · exact r_wait86 h f2 p2 w2 n0 n1 hi rw2 hmost hs2 (Or.inl ⟨rfl, by rw [hC]; exact fun q => by have := hu.2.mpr q.1; omega⟩)
      · have hA : CB (M0 3 0) n (rowd M0 ag) (rowz M0 ag) i := hu.2.mp (by omega)
        have sm := smallB h.wb hR n0 n1 hA
        refine Ret.bb (r_oddsW h f2 rw2 hr2 hl) (fun M3 h3 => ?_)
        obtain ⟨e3, w3, d0, d1⟩ := h3
        have hs3 : RSt M3 (M0 3 0) n (topW (wOf M0) (aOf M0) (M0 3 0) n) (loW (wOf M0) (M0 3 0) n) any best of (bst C (topW (wOf M0) (aOf M0) (M0 3 0) n) (loW (wOf M0) (M0 3 0) n) most i) := hs2.fr (fun b q => e3 _ _ (by decide) (by decide) (by decide) (by omega))
        rw [d0, d1, w64_id (by omega) (by omega), w64_id (by omega) (by omega)]
        refine Ret.i (fun c3 => ?_) (fun c3 => ?_)
        · exact r_wait86 h (e3.fr f2) (e3.pt p2) w3 n0 n1 hi (e3.row rw2) hmost hs3 (Or.inl ⟨rfl, by rw [hC]; exact fun q => by have := q.2; omega⟩)
        · exact r_wait86 h (e3.fr f2) (e3.pt p2) w3 n0 n1 hi (e3.row rw2) hmost hs3 (Or.inr ⟨rfl, by rw [hC]; exact ⟨hA, by omega⟩⟩)
  · obtain ⟨fx, px, best, of, hs⟩ := hx
    rcases e : bst C (topW (wOf M0) (aOf M0) (M0 3 0) n) (loW (wOf M0) (M0 3 0) n) most ((M0 3 0).toNat ^ n.toNat) with _ | b
    · rw [e] at hs
      have hs0 : x.2 = 0 := hs
      exact Ret.g (Or.inl hs0) (Ret.s ⟨fx, px, best, of, hs⟩)
    · rw [e] at hs
      exact Ret.g (Or.inr hs.1) (Ret.s ⟨fx, px, best, of, hs⟩)
