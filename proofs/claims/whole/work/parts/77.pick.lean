/-! what a player picks -/
noncomputable def waitRow (M : jM) (n most : Int) : Int → Int := dg (M 3 0) n ((bst (fun _ => True) (topW (wOf M) (aOf M) (M 3 0) n) (loW (wOf M) (M 3 0) n) most ((M 3 0).toNat ^ n.toNat)).getD 0)
def besideD (g : Int) (d : Int → Int) (z : Int) : Int → Int := fun j => if j = z - 1 then (if d (z - 1) + 1 < g then d (z - 1) + 1 else 0) else d j
def pickN (M : jM) (p : Int) : Int := M 63 (100 + p) % 4 + 1
noncomputable def bstB (M : jM) (n r : Int) : Option Nat := bst (CB (M 3 0) n (rowd M r) (rowz M r)) (topB (wOf M) (aOf M) (M 3 0) n (rowd M r) (rowz M r)) (loB (wOf M) (aOf M) (M 3 0) n (rowd M r) (rowz M r)) 1 ((M 3 0).toNat ^ n.toNat)
noncomputable def bstW (M : jM) (n r : Int) : Option Nat := bst (CW (wOf M) (aOf M) (M 3 0) n (rowd M r) (rowz M r)) (topW (wOf M) (aOf M) (M 3 0) n) (loW (wOf M) (M 3 0) n) 1 ((M 3 0).toNat ^ n.toNat)
noncomputable def orWait (M : jM) (n most : Int) : Option Nat → Int → Int
  | none => waitRow M n most
  | some b => dg (M 3 0) n b
noncomputable def pickD (M : jM) (p r : Int) : Int → Int :=
  if M 63 (96 + p) = 1 then waitRow M (pickN M p) 0
  else if M 63 (96 + p) = 2 then waitRow M (pickN M p) 1
  else if M 63 (96 + p) = 3 then besideD (M 3 0) (rowd M r) (rowz M r)
  else if M 63 (96 + p) = 4 then orWait M (pickN M p) 0 (bstB M (pickN M p) r)
  else if M 63 (96 + p) = 5 then orWait M (pickN M p) 1 (bstW M (pickN M p) r)
  else if M 63 (96 + p) = 6 then (if M 63 (128 + p) ≤ 0 then besideD (M 3 0) (rowd M r) (rowz M r) else fun j => M 63 (104 + 6 * p + j))
  else fun _ => 0
def pickZ (M : jM) (p r : Int) : Int :=
  if M 63 (96 + p) = 3 then rowz M r else if M 63 (96 + p) = 6 then (if M 63 (128 + p) ≤ 0 then rowz M r else M 63 (128 + p)) else pickN M p
theorem bst_true {top lo : Nat → Int} {most : Int} {k : Nat} (h : 0 < k) : ∃ b, bst (fun _ => True) top lo most k = some b := by
  obtain ⟨q, rfl⟩ : ∃ q, k = q + 1 := ⟨k - 1, by omega⟩
  rw [bst_y trivial]
  rcases bst (fun _ => True) top lo most q with _ | b
  · exact ⟨q, rfl⟩
  · by_cases c : Bet top lo most q b
    · exact ⟨q, stepB_some c⟩
    · exact ⟨b, stepB_keep c⟩
theorem jp_16 {p : Int} (h0 : 0 ≤ p) (h1 : p < 4) : jpt 16 p = 17 + p := by
  have key : ∀ k : Nat, k < 4 → jpt 16 (k : Int) = 17 + (k : Int) := by decide +kernel
  have := key p.toNat (by omega)
  rw [Int.toNat_of_nonneg h0] at this
  exact this
theorem kd_own {p : Int} (h0 : 0 ≤ p) (h1 : p < 4) : jkd (17 + p) = (3, 0) := by
  have key : ∀ k : Nat, k < 4 → jkd (17 + (k : Int)) = (3, 0) := by decide +kernel
  have := key p.toNat (by omega)
  rw [Int.toNat_of_nonneg h0] at this
  exact this
/-- the class's wait row -/
theorem s_waitRow {M0 M : jM} (h : jInv M0) (w : SWt M (M0 3 0) (wOf M0) (aOf M0)) {n most : Int} (n0 : 1 ≤ n) (n1 : n ≤ 4) (hm : most = 0 ∨ most = 1) : Ret (f_X1_findByWait M 50 47 n most) (fun M' => ExC M M' ∧ Ln M' 51 (waitRow M0 n most) n) := by
  have h81 := pw_rng h.wb.1 h.wb.2.1 n0 n1
  refine Ret.m (s_byWait h.wb w n0 n1 hm) (fun M' ⟨e, c⟩ => ⟨e, ?_⟩)
  obtain ⟨b, hb⟩ := bst_true (top := topW (wOf M0) (aOf M0) (M0 3 0) n) (lo := loW (wOf M0) (M0 3 0) n) (most := most) h81.1
  unfold waitRow
  rw [hb] at c ⊢
  exact c.2.1
theorem r_waitRow {M0 M : jM} (h : jInv M0) (f : Fr M0 M) (p : Pt M0 M) {n most : Int} (n0 : 1 ≤ n) (n1 : n ≤ 4) (hm : most = 0 ∨ most = 1) : Ret (f_X10_picksByWait M 62 n most (-1)) (fun x => Fr M0 x.2 ∧ Pt M0 x.2 ∧ RRow x.2 6 (waitRow M0 n most) n) := by
  have h81 := pw_rng h.wb.1 h.wb.2.1 n0 n1
  refine Ret.m (r_byWait h f p n0 n1 hm (C := fun _ => True) (Or.inl ⟨rfl, rfl⟩)) ?_
  rintro x ⟨fx, px, best, of, hx⟩
  refine ⟨fx, px, ?_⟩
  obtain ⟨b, hb⟩ := bst_true (top := topW (wOf M0) (aOf M0) (M0 3 0) n) (lo := loW (wOf M0) (M0 3 0) n) (most := most) h81.1
  unfold waitRow
  rw [hb] at hx ⊢
  exact hx.2.2.2
theorem beside_rng {g : Int} {d : Int → Int} {z : Int} (g1 : g ≤ 3) (hd : ∀ j, 0 ≤ j → j < z → 0 ≤ d j ∧ d j ≤ 2) (j : Int) (j0 : 0 ≤ j) (j1 : j < z) : 0 ≤ besideD g d z j ∧ besideD g d z j ≤ 2 := by
  unfold besideD
  split
  · have := hd (z - 1) (by omega) (by omega)
    split <;> omega
  · exact hd j j0 j1
theorem s_beside {M : jM} {t : Int} {d : Int → Int} {z g : Int} (hl : Ln M t d z) (ht : t ≤ 42) (z0 : 1 ≤ z) (hg : M 47 0 = g) (g0 : 2 ≤ g) (g1 : g ≤ 3) : Ret (f_X1_findBeside M 50 47 t) (fun M' => ExC M M' ∧ Ln M' 51 (besideD g d z) z) := by
  have hz := hl.2.1
  unfold f_X1_findBeside f_X1_findBeside_38 f_X3_copy
  rw [jp_50_0, hl.2.2.1, s_signAt hl (by omega) (by omega), if_pos ⟨by omega, by omega⟩]
  refine Ret.b ⟨_, rfl, Ret.b (Ret.l (Ret.l (Ret.s ?_)))⟩
  have e1 : ∀ a b, a ≠ 51 → sto (sto M 51 0 z) 51 1 (sto M 51 0 z t 1) a b = M a b := fun a b q => by rw [sto_ne (by omega), sto_ne (by omega)]
  have l1 : Ln (sto (sto M 51 0 z) 51 1 (sto M 51 0 z t 1)) 51 d z := ⟨hl.1, hl.2.1, by rw [sto_ne (by omega), sto_eq rfl rfl], by rw [sto_eq rfl rfl, sto_ne (by omega)]; exact hl.2.2.2.1, hl.2.2.2.2⟩
  generalize sto (sto M 51 0 z) 51 1 (sto M 51 0 z t 1) = M1 at e1 l1 ⊢
  obtain ⟨d0, d1⟩ := hl.2.2.2.2 (z - 1) (by omega) (by omega)
  rw [e1 47 0 (by decide), hg, w32_id (x := g) (by omega) (by omega), w32_id (x := d (z - 1) + 1) (by omega) (by omega)]
  have put : ∀ s, 0 ≤ s → s ≤ 2 → s = besideD g d z (z - 1) → Ret ((f_X3_putLast M1 51 s).bind fun r4 => some r4) (fun M' => ExC M M' ∧ Ln M' 51 (besideD g d z) z) := by
    intro s s0 s1 hs
    unfold f_X3_putLast
    rw [s_lastOnes l1 (by decide) z0]
    refine Ret.b (Ret.b ⟨_, rfl, Ret.l (Ret.s (Ret.s ⟨fun a b _ _ q _ => ?_, l1.1, l1.2.1, ?_, ?_, beside_rng g1 hl.2.2.2.2⟩))⟩)
    · rw [sto_ne (by omega)]; exact e1 a b q
    · rw [sto_ne (by omega)]; exact l1.2.2.1
    · have cg : pk4 (besideD g d z) z.toNat = pk4 (fun j => if j = z - 1 then s else d j) z.toNat := pk4_cong (fun j hj => by
        by_cases q : (j : Int) = z - 1
        · rw [if_pos q, hs, q]
        · rw [if_neg q]; unfold besideD; rw [if_neg q])
      rw [sto_eq rfl rfl, cg, pk4_upd (by omega) (by omega), l1.2.2.2.1, w32_id (x := s) (by omega) (by omega), show z.toNat - 1 - (z - 1).toNat = 0 by omega, Int.pow_zero, Int.mul_one]
      show pk4 d z.toNat - (4 * 0 + d (z - 1 + 0)) + s = _
      rw [Int.add_zero]
      omega
  refine Ret.i (fun c => put 0 (by decide) (by decide) ?_) (fun c => put _ (by omega) (by omega) ?_)
  · unfold besideD; rw [if_pos rfl, if_neg (by omega)]
  · unfold besideD; rw [if_pos rfl, if_pos (by omega)]
theorem r_beside {M0 M : jM} (h : jInv M0) (f : Fr M0 M) (p : Pt M0 M) {r : Int} (hr : isRw M0 r) (hl : LawD (M0 3 0) (rowd M0 r) (rowz M0 r)) : Ret (f_X10_picksNext M 62 r) (fun M' => Fr M0 M' ∧ Pt M0 M' ∧ RRow M' 6 (besideD (M0 3 0) (rowd M0 r) (rowz M0 r)) (rowz M0 r)) := by
  obtain ⟨g0, g1, -⟩ := h.st
  have hq := h.1.2.2.2.1.2.2.1
  have hr0 := hr.1
  have hr1 : r < M0 63 0 := hr.2
  obtain ⟨z0, z1⟩ := rowz_rng h hr
  have hd := rowd_rng h hr
  have rr := h.rr f hr.1 hr.2
  unfold f_X10_picksNext
  rw [jp_62_1, w32_id (x := 58 + r) (by omega) (by omega), rr.2.2.2.2.1]
  refine Ret.g ⟨by omega, by omega⟩ (Ret.bb (r_copies (fr := 10 + 6 * r) z0 z1 (by omega) (Or.inl (by omega)) (by omega) rr.2.2.2.2.2) (fun M1 h1 => ?_))
  obtain ⟨e1, w1⟩ := h1
  have f1 := e1.fr f
  have p1 := e1.pt p
  rw [(h.rr f1 hr.1 hr.2).2.2.2.2.1, w32_id (x := 46 + rowz M0 r - 1) (by omega) (by omega), r_signs h f1.f8]
  refine Ret.g ⟨by omega, by omega⟩ (Ret.g ⟨by omega, by omega⟩ (Ret.b ⟨_, rfl, ?_⟩))
  dsimp only
  have ed := (w1.2.2.2.2.2 (rowz M0 r - 1) (by omega) (by omega)).1
  have ez : (10 : Int) + 6 * 6 + (rowz M0 r - 1) = 46 + rowz M0 r - 1 := by omega
  rw [ez] at ed
  obtain ⟨d0, d1⟩ := hd (rowz M0 r - 1) (by omega) (by omega)
  have d2 := hl (rowz M0 r - 1) (by omega) (by omega)
  rw [ed, w32_id (x := M0 3 0) (by omega) (by omega), w32_id (x := rowd M0 r (rowz M0 r - 1) + 1) (by omega) (by omega), Int.tmod_eq_emod_of_nonneg (by omega)]
  refine Ret.g (by omega) (Ret.g ⟨by omega, by omega⟩ (Ret.l (Ret.s ⟨f1.sto (by unfold kp; omega), p1.sto (by omega) (by omega), by decide, by decide, z0, z1, ?_, fun j j0 j1 => ⟨?_, beside_rng g1 hd j j0 j1⟩⟩)))
  · rw [sto_ne (by omega)]; exact w1.2.2.2.2.1
  · unfold besideD
    by_cases q : j = rowz M0 r - 1
    · rw [if_pos q, sto_eq rfl (by omega)]
      by_cases c : rowd M0 r (rowz M0 r - 1) + 1 < M0 3 0
      · rw [if_pos c]; exact Int.emod_eq_of_lt (by omega) c
      · rw [if_neg c]
        have : rowd M0 r (rowz M0 r - 1) + 1 = M0 3 0 := by omega
        rw [this, Int.emod_self]
    · rw [if_neg q, sto_ne (by omega)]
      exact (w1.2.2.2.2.2 j j0 j1).1
