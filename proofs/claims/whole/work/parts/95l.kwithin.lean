/-! within, free -/
theorem jInv.a12 {M : jM} (h : jInv M) : aOf M ≤ 12 := by
  have a := wOf_4 h (s := 0) (by decide)
  have b := wOf_4 h (s := 1) (by decide)
  have c := wOf_4 h (s := 2) (by decide)
  unfold aOf
  omega
theorem p12_bd : ∀ t : Nat, t < 16 → (12 : Int) ^ t < 9223372036854775808 := by decide +kernel
theorem p3_bd : ∀ t : Nat, t < 31 → (3 : Int) ^ t < 9223372036854775808 := by decide +kernel
theorem RWt.f62 {M M' : jM} {g : Int} {w : Int → Int} {al : Int} (h : RWt M g w al) (e : ∀ a b, a ≠ 68 → a ≠ 69 → ¬ (a = 62 ∧ (b = 15 ∨ b = 16)) → M' a b = M a b) : RWt M' g w al := h.fr (e _ _ (by decide) (by decide) (by omega)) (fun s => e _ _ (by decide) (by decide) (by omega))
/-- the class's part leaves the pointers of the reference -/
theorem ptr_C {M M1 M2 M3 : jM} (h : jInv M) (e1 : ExS M M1) (e2 : CFr M1 M2) (e3 : ∀ a b, a ≠ 58 → a ≠ 59 → ¬ (a = 53 ∧ (b = 4 ∨ b = 5)) → M3 a b = M2 a b) : ((M2 53 4 = 58 ∧ M2 53 5 = 59) ∨ (M2 53 4 = 59 ∧ M2 53 5 = 58)) ∧ ((M3 62 15 = 68 ∧ M3 62 16 = 69) ∨ (M3 62 15 = 69 ∧ M3 62 16 = 68)) := by
  obtain ⟨p1, p2⟩ := h.2.2.2.2
  have c4 : M2 53 4 = M 53 4 := (e2 _ _ (by omega) (by decide) (by decide) (by decide) (by decide)).trans (e1 _ _ (by decide) (by decide))
  have c5 : M2 53 5 = M 53 5 := (e2 _ _ (by omega) (by decide) (by decide) (by decide) (by decide)).trans (e1 _ _ (by decide) (by decide))
  have d4 : M3 62 15 = M 62 15 := (e3 _ _ (by decide) (by decide) (by omega)).trans ((e2 _ _ (by omega) (by decide) (by decide) (by decide) (by decide)).trans (e1 _ _ (by decide) (by decide)))
  have d5 : M3 62 16 = M 62 16 := (e3 _ _ (by decide) (by decide) (by omega)).trans ((e2 _ _ (by omega) (by decide) (by decide) (by decide) (by decide)).trans (e1 _ _ (by decide) (by decide)))
  rw [c4, c5, d4, d5]
  exact ⟨p1, p2⟩
theorem k_within {M : jM} (h : jInv M) {r n p : Int} (a0 : -2147483648 ≤ r) (a1 : r < 2147483648) (n0 : -2147483648 ≤ n) (n1 : n < 2147483648) (p0 : -2147483648 ≤ p) (p1 : p < 2147483648) : Ret (f_X9_within M 0 r n p) (fun x => Ret (f_X10_within x.2 62 r n p) (fun y => w64 x.1 = w64 y.1 ∧ jInv y.2)) := by
  have hal := h.wb.al
  have hal2 := h.a12
  unfold f_X9_within
  refine Ret.bb (s_weigh h Fr.rfl) (fun M1 h1 => ?_)
  obtain ⟨e1, w1⟩ := h1
  have f1 := e1.fr Fr.rfl
  have q1 := e1.pt Pt.rfl
  have hi : jInv M1 := h.fp f1 q1
  rw [s_isPart M1 p0 p1, w32_id n0 n1]
  have no : ¬ (isRw M r ∧ LawD (M 3 0) (rowd M r) (rowz M r)) ∨ ¬ (0 ≤ n ∧ n ≤ 15) ∨ ¬ (p = 0 ∨ p = 1) → Ret (f_X10_within M1 62 r n p) (fun b => w64 (-9223372036854775808) = w64 b.1 ∧ jInv b.2) := by
    intro hn
    unfold f_X10_within
    rw [r_isRow' h f1.f8 a0 a1, r_isPart M1 p0 p1, r_in M1 n0 n1 (by decide) (by decide) (by decide) (by decide)]
    by_cases c : 0 ≤ r ∧ r < M 63 0
    · rw [if_pos c]
      refine Ret.b ⟨1, rfl, Ret.f w32_1n (Ret.bb (r_isLawful h f1.f8 (h.rr8 f1.f8 c.1 c.2)) (fun v hv => ?_))⟩
      rw [w32_id (x := v) (by omega) (by omega)]
      refine Ret.i (fun _ => Ret.s ⟨rfl, hi⟩) (fun c2 => ?_)
      by_cases cn : 0 ≤ n ∧ n ≤ 15
      · rw [if_pos cn, if_neg (by
          rcases hn with hn | hn | hn
          · exact absurd ⟨c, hv.2.mp (by omega)⟩ hn
          · exact absurd cn hn
          · exact hn)]
        exact Ret.b ⟨1, rfl, Ret.f w32_1n (Ret.b ⟨0, rfl, Ret.t w32_0 (Ret.s ⟨rfl, hi⟩)⟩)⟩
      · rw [if_neg cn]
        exact Ret.b ⟨0, rfl, Ret.t w32_0 (Ret.s ⟨rfl, hi⟩)⟩
    · rw [if_neg c]
      exact Ret.b ⟨0, rfl, Ret.t w32_0 (Ret.s ⟨rfl, hi⟩)⟩
  refine Ret.bb (s_lawfulRow h f1 w1 a0 a1) (fun v hv => Ret.g (kd_of h hv) ?_)
  rcases hv with ⟨rfl, hv⟩ | ⟨rfl, hr, hv⟩
  · exact Ret.t (by decide) (Ret.s (no (Or.inl hv)))
  · have hr0 := hr.1
    refine Ret.f (by omega) (Ret.i (fun cn => Ret.s (no (Or.inr (Or.inl (by omega))))) (fun cn => Ret.i (fun cn2 => Ret.s (no (Or.inr (Or.inl (by omega))))) (fun cn2 => ?_)))
    by_cases c : p = 0 ∨ p = 1
    · rw [if_pos c, jp_0_0, jp_0_5, jp_0_8]
      have hr6 := (LwR.rng h ⟨hr, hv⟩).2
      have hA : ∀ t : Nat, (t : Int) ≤ n → aOf M ^ t < 9223372036854775808 := fun t ht => Int.lt_of_le_of_lt (ipow_le (by omega) hal2 t) (p12_bd t (by omega))
      have hpos : 0 < aOf M ^ n.toNat := Int.pow_pos (by omega)
      have hV := Vv_bd (M := M) (w := wOf M) (al := aOf M) (ro := r) (c0 := 0) h.wb (by decide) (by decide) n.toNat []
      have hAn := hA n.toNat (by omega)
      refine Ret.b ⟨1, rfl, Ret.f w32_1n (Ret.bb (s_build h f1 w1.1) (fun M2 ⟨c2, nn, str, A⟩ => ?_))⟩
      have f2 := CFr.fr f1 c2
      have w2 : SWt M2 (M 3 0) (wOf M) (aOf M) := ⟨(c2 _ _ (by omega) (by decide) (by decide) (by decide) (by decide)).trans w1.1, (c2 _ _ (by omega) (by decide) (by decide) (by decide) (by decide)).trans w1.2.1, fun s s0 s1 => (c2 _ _ (by omega) (by decide) (by decide) (by decide) (by decide)).trans (w1.2.2 s s0 s1)⟩
      refine Ret.bb (s_winsOf h A (ptr_C h e1 c2 (fun _ _ _ _ _ => rfl)).1 h.wb w2 hr0 hr6 (by omega) (by omega) hA) (fun x ⟨I, hx⟩ => ?_)
      have e3 := I.2.2.1
      have f3 := I.fr f2
      have hp3 := (ptr_C h e1 c2 e3).2
      have hi3 : jInv x.2 := h.fr f3 ⟨I.ptr, hp3⟩
      rw [e3 47 1 (by decide) (by decide) (by omega), w2.2.1, w32_id (x := aOf M) (by omega) (by omega), hx]
      generalize x.2 = M3 at e3 f3 hp3 hi3 I ⊢
      have hC := I.ptr
      refine Ret.bb (s_power (by omega) (by omega)) (fun lo hlo => Ret.bb (s_fraction (by omega) (by omega) (by rw [hlo]; omega) (by rw [hlo]; omega) c) (fun z hz => Ret.s ?_))
      dsimp only
      unfold f_X10_within
      rw [r_isRow' h f3.f8 a0 a1, r_isPart M3 p0 p1, r_in M3 n0 n1 (by decide) (by decide) (by decide) (by decide), if_pos (show 0 ≤ r ∧ r < M 63 0 from hr), if_pos c, if_pos ⟨by omega, by omega⟩]
      refine Ret.b ⟨1, rfl, Ret.f w32_1n (Ret.bb (r_isLawful h f3.f8 (h.rr8 f3.f8 hr.1 hr.2)) (fun v2 hv2 => ?_))⟩
      have v21 := hv2.2.mpr hv
      subst v21
      refine Ret.f w32_1n (Ret.b ⟨1, rfl, Ret.f w32_1n (Ret.b ⟨1, rfl, Ret.f w32_1n (Ret.bb (r_begins (w := wOf M) (al := aOf M) (ro := r) (c0 := 0) (N := n) h f3 hp3 (by omega)) (fun M4 ⟨Mb, b1, b2, b3, J⟩ => ?_))⟩)⟩)
      have fb : Fr M Mb := fun a b k => (b1 a b (by unfold kp at k; omega) (by unfold kp at k; omega) (by unfold kp at k; omega) (by unfold kp at k; omega) (by unfold kp at k; omega)).trans (f3 a b k)
      refine Ret.bb (P := fun x : jM × Int × Int => IvR M Mb x.1 (wOf M) (aOf M) r 0 n n x.2.1 ∧ x.2.2 = aOf M ^ n.toNat) ?_ (fun x ⟨J2, hlow⟩ => ?_)
      · refine Ret.it (fun S : jM × Int × Int × Int => IvR M Mb S.1 (wOf M) (aOf M) r 0 n S.2.2.2 S.2.1 ∧ S.2.2.1 = aOf M ^ S.2.2.2.toNat) (fun S => (n - S.2.2.2).toNat) ?_ 5000 (M4, 0, 1, 0) ⟨J, (Int.pow_zero (aOf M)).symm⟩ (by show (n - 0).toNat < 5000; omega)
        rintro ⟨M5, up, lw, t⟩ ⟨J3, hl⟩
        dsimp only at J3 hl
        have t0 := J3.1
        have t1 := J3.2.1
        have b5 := b2.f62 J3.2.2.1
        unfold f_X10_within_L52
        dsimp +instances only
        rw [b5.1, w32_id (x := aOf M) (by omega) (by omega), w32_id (x := n) (by omega) (by omega), w32_id (x := t) (by omega) (by omega)]
        refine Ret.i (fun q => Rr ?_) (fun q => Ret.bb (r_step (l1 := r) (l2 := 1) h fb.f8 b3 h.wb (Or.inr ⟨rfl, b2⟩) (fun v _ _ => by rw [w32_id (x := r) (by omega) (by omega)]) hA J3 (by omega)) (fun x hx => Rl ⟨⟨hx.1, ?_⟩, by show (n - (t + 1)).toNat < (n - t).toNat; omega⟩))
        · have e2 : t = n := by omega
          rw [e2] at J3 hl
          exact ⟨J3, hl⟩
        · have b6 := b2.f62 hx.1.2.2.1
          dsimp only
          have et : (t + 1).toNat = t.toNat + 1 := by omega
          rw [b6.1, w32_id (x := aOf M) (by omega) (by omega), hl, et, Int.pow_succ]
      · have fx := J2.fr fb
        have hxp : RPtrs x.1 := ⟨by
          rw [J2.2.2.1 _ _ (by decide) (by decide) (by omega), J2.2.2.1 53 5 (by decide) (by decide) (by omega), b1 _ _ (by decide) (by decide) (by decide) (by decide) (by omega), b1 53 5 (by decide) (by decide) (by decide) (by decide) (by omega)]
          exact hC, J2.ptr⟩
        have hup : x.2.1 = Vv M (wOf M) (aOf M) r 0 n.toNat [] := by
          obtain ⟨-, -, -, pa, pb, -, -, -, -, -, -, hv⟩ := J2
          rw [Int.sub_self] at hv
          have q : sumW (fun j => x.1 pa j * Vv M (wOf M) (aOf M) r 0 (0 : Int).toNat (uc j.toNat)) 486 = 0 := sumW_0 (fun j _ _ => Int.mul_zero _)
          rw [q] at hv
          have q2 : aOf M ^ (0 : Int).toNat = 1 := Int.pow_zero _
          rw [q2] at hv
          omega
        rw [hup, hlow]
        refine Ret.bb (r_lowest (by omega) (by omega) hpos (by omega) c) (fun y hy => Ret.s ⟨?_, h.fr fx hxp⟩)
        dsimp only
        rw [hz, hy, hlo]
    · rw [if_neg c]
      exact Ret.b ⟨0, rfl, Ret.t w32_0 (Ret.s (no (Or.inr (Or.inr c))))⟩
def w1g (g : Int) (s : Int) : Int := if 0 ≤ s ∧ s < g then 1 else 0
theorem w1g_wb {g : Int} (g0 : 2 ≤ g) (g1 : g ≤ 3) : WtB g (w1g g) g := by
  refine ⟨g0, g1, fun s s0 s1 => ?_, fun s s0 => ?_, ?_⟩
  · unfold w1g
    rw [if_pos ⟨s0, s1⟩]
    decide
  · unfold w1g
    rw [if_neg (by omega)]
  · by_cases e : g = 2
    · rw [e]
      decide
    · rw [show g = 3 by omega]
      decide
theorem k_free {M : jM} (h : jInv M) {n : Int} (n0 : -2147483648 ≤ n) (n1 : n < 2147483648) : Ret (f_X9_free M 0 n) (fun x => Ret (f_X10_free x.2 62 n) (fun y => w64 x.1 = w64 y.1 ∧ jInv y.2)) := by
  obtain ⟨g0, g1, -⟩ := h.st
  have no : ¬ (0 ≤ n ∧ n ≤ 30) → Ret (f_X10_free M 62 n) (fun b => w64 (-9223372036854775808) = w64 b.1 ∧ jInv b.2) := by
    intro hn
    unfold f_X10_free
    rw [r_in M n0 n1 (by decide) (by decide) (by decide) (by decide), if_neg hn]
    exact Ret.b ⟨0, rfl, Ret.t w32_0 (Ret.s ⟨rfl, h⟩)⟩
  unfold f_X9_free
  rw [w32_id n0 n1]
  refine Ret.i (fun cn => Ret.s (no (by omega))) (fun cn => Ret.i (fun cn2 => ?_) (fun cn2 => Ret.s (no (by omega))))
  refine Ret.bb (s_weigh h Fr.rfl) (fun M1 h1 => ?_)
  obtain ⟨e1, w1⟩ := h1
  have f1 := e1.fr Fr.rfl
  have hB := w1g_wb g0 g1
  have hA : ∀ t : Nat, (t : Int) ≤ n → (M 3 0) ^ t < 9223372036854775808 := fun t ht => Int.lt_of_le_of_lt (ipow_le (by omega) g1 t) (p3_bd t (by omega))
  have hw : ∀ s, 0 ≤ s → s < M 3 0 → w1g (M 3 0) s = 1 := fun s s0 s1 => by
    unfold w1g
    rw [if_pos ⟨s0, s1⟩]
  rw [jp_0_0, jp_0_5, jp_0_8]
  refine Ret.bb (s_build h f1 w1.1) (fun M2 ⟨c2, nn, str, A⟩ => ?_)
  have f2 := CFr.fr f1 c2
  refine Ret.bb (s_rowsWithNone h A (ptr_C h e1 c2 (fun _ _ _ _ _ => rfl)).1 hB hw (by omega) (by omega) hA) (fun x ⟨I, hx⟩ => Ret.s ?_)
  have e3 := I.2.2.1
  have f3 := I.fr f2
  have hp3 := (ptr_C h e1 c2 e3).2
  have hC := I.ptr
  dsimp only
  rw [hx]
  generalize x.2 = M3 at e3 f3 hp3 hC I ⊢
  unfold f_X10_free
  rw [r_in M3 n0 n1 (by decide) (by decide) (by decide) (by decide), if_pos ⟨by omega, by omega⟩]
  refine Ret.b ⟨1, rfl, Ret.f w32_1n (Ret.bb (r_begins (w := w1g (M 3 0)) (al := M 3 0) (ro := -1) (c0 := 1) (N := n) h f3 hp3 (by omega)) (fun M4 ⟨Mb, b1, b2, b3, J⟩ => ?_))⟩
  have fb : Fr M Mb := fun a b k => (b1 a b (by unfold kp at k; omega) (by unfold kp at k; omega) (by unfold kp at k; omega) (by unfold kp at k; omega) (by unfold kp at k; omega)).trans (f3 a b k)
  have wm : w32 (-1) = -1 := w32_id (by decide) (by decide)
  refine Ret.bb (P := fun x : jM => IvR M Mb x (w1g (M 3 0)) (M 3 0) (-1) 1 n n 0) ?_ (fun x J2 => ?_)
  · refine Ret.it (fun S : jM × Int => IvR M Mb S.1 (w1g (M 3 0)) (M 3 0) (-1) 1 n S.2 0) (fun S => (n - S.2).toNat) ?_ 5000 (M4, 0) J (by show (n - 0).toNat < 5000; omega)
    rintro ⟨M5, t⟩ J3
    dsimp only at J3
    have t0 := J3.1
    have t1 := J3.2.1
    unfold f_X10_free_L20
    dsimp +instances only
    rw [w32_id (x := n) (by omega) (by omega), w32_id (x := t) (by omega) (by omega)]
    refine Ret.i (fun q => Rr ?_) (fun q => Ret.bb (r_step (l1 := -1) (l2 := 0) h fb.f8 b3 hB (Or.inl ⟨rfl, hw⟩) (fun v _ _ => by rw [wm]) hA J3 (by omega)) (fun x hx => Rl ⟨?_, by show (n - (t + 1)).toNat < (n - t).toNat; omega⟩))
    · have e2 : t = n := by omega
      rw [e2] at J3
      exact J3
    · have z := hx.2 rfl
      rw [Int.zero_mul] at z
      exact z
  · have fx := J2.fr fb
    have hxp : RPtrs x := ⟨by
      rw [J2.2.2.1 _ _ (by decide) (by decide) (by omega), J2.2.2.1 53 5 (by decide) (by decide) (by omega), b1 _ _ (by decide) (by decide) (by decide) (by decide) (by omega), b1 53 5 (by decide) (by decide) (by decide) (by decide) (by omega)]
      exact hC, J2.ptr⟩
    obtain ⟨-, -, -, pa, pb, ha, hb, hab, -, -, -, hv⟩ := J2
    have ka : jkd pa = (12, 486) := by rcases hab with ⟨q, -⟩ | ⟨q, -⟩ <;> rw [q] <;> rfl
    rw [Int.sub_self, Int.zero_mul, Int.zero_add] at hv
    refine Ret.bb (P := fun v => v = sumW (fun j => x pa j * 1) 486) ?_ (fun v ev => Ret.s ⟨?_, h.fr fx hxp⟩)
    · refine Ret.it (fun S : Int × Int => 0 ≤ S.2 ∧ S.2 ≤ 486 ∧ S.1 = sumW (fun j => x pa j * 1) S.2.toNat) (fun S => (486 - S.2).toNat) ?_ 5000 (0, 0) ⟨Int.le_refl _, by show (0 : Int) ≤ 486; decide, rfl⟩ (by show (486 - 0 : Int).toNat < 5000; decide)
      rintro ⟨v, k⟩ ⟨k0, k1, ev⟩
      dsimp only at k0 k1 ev
      unfold f_X10_free_L43
      dsimp +instances only
      rw [ha, w32_id (x := k) (by omega) (by omega)]
      refine Ret.i (fun q => Rr ?_) (fun q => Ret.g ka (Ret.g ⟨by omega, by omega⟩ (Rl ⟨⟨by show 0 ≤ k + 1; omega, by show k + 1 ≤ 486; omega, ?_⟩, by show (486 - (k + 1)).toNat < (486 - k).toNat; omega⟩)))
      · have e2 : k = 486 := by omega
        rw [ev, e2]
        rfl
      · dsimp only
        rw [sumW_n k0, ev, Int.mul_one]
    · dsimp only
      rw [ev]
      exact congrArg w64 hv.symm
