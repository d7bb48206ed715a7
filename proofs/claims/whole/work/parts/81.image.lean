/-! the image: all things laid aside, and taken again -/
theorem cp_ptr {t : Int} (ht : t = 1 ∨ t = 22) : jpt t 0 = t + 1 ∧ jpt t 2 = t + 2 ∧ jpt t 5 = t + 5 ∧ jpt t 6 = t + 6 ∧ jpt t 8 = t + 13 ∧ jpt t 9 = t + 14 ∧ jpt t 10 = t + 15 ∧ jpt t 12 = t + 20 ∧ jpt (t + 2) 4 = t + 3 ∧ jpt (t + 2) 5 = t + 4 := by
  rcases ht with rfl | rfl
  · exact ⟨rfl, rfl, rfl, rfl, rfl, rfl, rfl, rfl, rfl, rfl⟩
  · exact ⟨rfl, rfl, rfl, rfl, rfl, rfl, rfl, rfl, rfl, rfl⟩
theorem cp_row {t r : Int} (ht : t = 1 ∨ t = 22) (h0 : 0 ≤ r) (h1 : r < 6) : jpt (t + 6) r = t + 7 + r := by
  have key : ∀ k : Nat, k < 6 → jpt 7 (k : Int) = 8 + (k : Int) ∧ jpt 28 (k : Int) = 29 + (k : Int) := by decide +kernel
  have := key r.toNat (by omega)
  rw [Int.toNat_of_nonneg h0] at this
  rcases ht with rfl | rfl
  · show jpt 7 r = _; rw [this.1]; omega
  · show jpt 28 r = _; rw [this.2]; omega
theorem cp_own {t r : Int} (ht : t = 1 ∨ t = 22) (h0 : 0 ≤ r) (h1 : r < 4) : jpt (t + 15) r = t + 16 + r := by
  have key : ∀ k : Nat, k < 4 → jpt 16 (k : Int) = 17 + (k : Int) ∧ jpt 37 (k : Int) = 38 + (k : Int) := by decide +kernel
  have := key r.toNat (by omega)
  rw [Int.toNat_of_nonneg h0] at this
  rcases ht with rfl | rfl
  · show jpt 16 r = _; rw [this.1]; omega
  · show jpt 37 r = _; rw [this.2]; omega
theorem s_copyL {M : jM} {a b : Int} (hab : a ≠ b) : Ret (f_X3_copy M a b) (fun M' => (∀ x y, ¬ (x = a ∧ (y = 0 ∨ y = 1)) → M' x y = M x y) ∧ M' a 0 = M b 0 ∧ M' a 1 = M b 1) := by
  unfold f_X3_copy
  refine Ret.l (Ret.l (Ret.s ⟨fun x y q => by rw [sto_ne (by omega), sto_ne (by omega)], by rw [sto_ne (by omega), sto_eq rfl rfl], by rw [sto_eq rfl rfl, sto_ne (by omega)]⟩))
/-- what copying gives -/
def CpR (M M' : jM) (t f : Int) : Prop := (∀ a b, ¬ (t ≤ a ∧ a ≤ t + 20) → M' a b = M a b) ∧ M' t 1 = M f 1 ∧ (∀ i, 0 ≤ i → i < M f 1 → M' (t + 1) i = M (f + 1) i) ∧ (∀ j, 0 ≤ j → j < 4 → M' (t + 2) j = M (f + 2) j) ∧ (∀ i, 0 ≤ i → i < 10 → M' (t + 3) i = M (f + 3) i ∧ M' (t + 4) i = M (f + 4) i) ∧ M' t 3 = M f 3 ∧ M' t 4 = M f 4 ∧ (M' (t + 5) 0 = M (f + 5) 0 ∧ M' (t + 5) 1 = M (f + 5) 1) ∧ (∀ r, 0 ≤ r → r < 6 → M' (t + 7 + r) 0 = M (f + 7 + r) 0 ∧ M' (t + 7 + r) 1 = M (f + 7 + r) 1) ∧ M' t 7 = M f 7 ∧ (∀ p, 0 ≤ p → p < 4 → M' (t + 13) p = M (f + 13) p ∧ M' (t + 14) p = M (f + 14) p ∧ M' (t + 16 + p) 0 = M (f + 16 + p) 0 ∧ M' (t + 16 + p) 1 = M (f + 16 + p) 1) ∧ M' t 11 = M f 11 ∧ (M' (t + 20) 0 = M (f + 20) 0 ∧ M' (t + 20) 1 = M (f + 20) 1)
theorem cp_tape {M : jM} {t f : Int} (ht : (t = 1 ∧ f = 22) ∨ (t = 22 ∧ f = 1)) (b0 : 0 ≤ M f 1) (b1 : M f 1 ≤ 100) : Ret (iter (f_X8_copy_L2 M t f) 5000 (M, 0)) (fun M' => (∀ a b, a ≠ t + 1 → M' a b = M a b) ∧ ∀ i, 0 ≤ i → i < M f 1 → M' (t + 1) i = M (f + 1) i) := by
  have pt := cp_ptr (t := t) (by omega)
  have pf := cp_ptr (t := f) (by omega)
  refine Ret.it (fun S : jM × Int => 0 ≤ S.2 ∧ S.2 ≤ M f 1 ∧ (∀ a b, a ≠ t + 1 → S.1 a b = M a b) ∧ ∀ i, 0 ≤ i → i < S.2 → S.1 (t + 1) i = M (f + 1) i) (fun S => (M f 1 - S.2).toNat) ?_ 5000 (M, 0) ⟨by show (0 : Int) ≤ 0; decide, b0, fun _ _ _ => rfl, fun j j0 j1 => by have j1 : j < 0 := j1; omega⟩ (by show (M f 1 - 0).toNat < 5000; omega)
  rintro ⟨M1, k⟩ ⟨k0, k1, he, hk⟩
  dsimp only at k0 k1 he hk
  unfold f_X8_copy_L2
  dsimp +instances only
  rw [he f 1 (by omega), pt.1, pf.1, w32_id (x := M f 1) (by omega) (by omega), w32_id (x := k) (by omega) (by omega), he (f + 1) k (by omega)]
  refine Ret.i (fun c => Rr ⟨he, fun j j0 j1 => hk j j0 (by omega)⟩) (fun c => Ret.g ⟨k0, by omega⟩ (Ret.g ⟨k0, by omega⟩ (Ret.l (Rl ⟨⟨by show 0 ≤ k + 1; omega, by show k + 1 ≤ _; omega, fun x y q => ?_, fun j j0 j1 => ?_⟩, by show (M f 1 - (k + 1)).toNat < (M f 1 - k).toNat; omega⟩))))
  · dsimp only
    rw [sto_ne (by omega)]; exact he x y q
  · have j1 : j < k + 1 := j1
    dsimp only
    by_cases q : j = k
    · rw [q, sto_eq rfl rfl]
    · rw [sto_ne (by omega)]; exact hk j j0 (by omega)
theorem s_stallCopy {M : jM} {t f : Int} (t3 : jpt t 4 = t + 1) (t4 : jpt t 5 = t + 2) (f3 : jpt f 4 = f + 1) (f4 : jpt f 5 = f + 2) (ht : t + 2 < f ∨ f + 2 < t) : Ret (f_X7_copy M t f) (fun M' => (∀ a b, ¬ (t ≤ a ∧ a ≤ t + 2) → M' a b = M a b) ∧ (∀ j, 0 ≤ j → j < 4 → M' t j = M f j) ∧ ∀ i, 0 ≤ i → i < 10 → M' (t + 1) i = M (f + 1) i ∧ M' (t + 2) i = M (f + 2) i) := by
  unfold f_X7_copy
  refine Ret.l (Ret.l (Ret.l (Ret.l ?_)))
  have e : ∀ a b, a ≠ t → sto (sto (sto (sto M t 0 (M f 0)) t 1 (sto M t 0 (M f 0) f 1)) t 2 (sto (sto M t 0 (M f 0)) t 1 (sto M t 0 (M f 0) f 1) f 2)) t 3 (sto (sto (sto M t 0 (M f 0)) t 1 (sto M t 0 (M f 0) f 1)) t 2 (sto (sto M t 0 (M f 0)) t 1 (sto M t 0 (M f 0) f 1) f 2) f 3) a b = M a b := fun a b q => by rw [sto_ne (by omega), sto_ne (by omega), sto_ne (by omega), sto_ne (by omega)]
  have e1 : ∀ j, 0 ≤ j → j < 4 → sto (sto (sto (sto M t 0 (M f 0)) t 1 (sto M t 0 (M f 0) f 1)) t 2 (sto (sto M t 0 (M f 0)) t 1 (sto M t 0 (M f 0) f 1) f 2)) t 3 (sto (sto (sto M t 0 (M f 0)) t 1 (sto M t 0 (M f 0) f 1)) t 2 (sto (sto M t 0 (M f 0)) t 1 (sto M t 0 (M f 0) f 1) f 2) f 3) t j = M f j := fun j j0 j1 => by
    have : j = 0 ∨ j = 1 ∨ j = 2 ∨ j = 3 := by omega
    rcases this with rfl | rfl | rfl | rfl
    · rw [sto_ne (by omega), sto_ne (by omega), sto_ne (by omega), sto_eq rfl rfl]
    · rw [sto_ne (by omega), sto_ne (by omega), sto_eq rfl rfl, sto_ne (by omega)]
    · rw [sto_ne (by omega), sto_eq rfl rfl, sto_ne (by omega), sto_ne (by omega)]
    · rw [sto_eq rfl rfl, sto_ne (by omega), sto_ne (by omega), sto_ne (by omega)]
  generalize sto (sto (sto (sto M t 0 (M f 0)) t 1 (sto M t 0 (M f 0) f 1)) t 2 (sto (sto M t 0 (M f 0)) t 1 (sto M t 0 (M f 0) f 1) f 2)) t 3 (sto (sto (sto M t 0 (M f 0)) t 1 (sto M t 0 (M f 0) f 1)) t 2 (sto (sto M t 0 (M f 0)) t 1 (sto M t 0 (M f 0) f 1) f 2) f 3) = MA at e e1 ⊢
  refine Ret.bb (P := fun M' => (∀ a b, ¬ (a = t + 1 ∨ a = t + 2) → M' a b = MA a b) ∧ ∀ i, 0 ≤ i → i < 10 → M' (t + 1) i = M (f + 1) i ∧ M' (t + 2) i = M (f + 2) i) ?_ (fun M' h => Ret.s ⟨fun a b q => ?_, fun j j0 j1 => ?_, h.2⟩)
  · refine Ret.it (fun S : jM × Int => 0 ≤ S.2 ∧ S.2 ≤ 10 ∧ (∀ a b, ¬ (a = t + 1 ∨ a = t + 2) → S.1 a b = MA a b) ∧ ∀ i, 0 ≤ i → i < S.2 → S.1 (t + 1) i = M (f + 1) i ∧ S.1 (t + 2) i = M (f + 2) i) (fun S => (10 - S.2).toNat) ?_ 5000 (MA, 0) ⟨by show (0 : Int) ≤ 0; decide, by show (0 : Int) ≤ 10; decide, fun _ _ _ => rfl, fun j j0 j1 => by have j1 : j < 0 := j1; omega⟩ (by show (10 - 0 : Int).toNat < 5000; decide)
    rintro ⟨M1, k⟩ ⟨k0, k1, he, hk⟩
    dsimp only at k0 k1 he hk
    unfold f_X7_copy_L34
    dsimp +instances only
    rw [t3, t4, f3, f4, w32_id (x := k) (by omega) (by omega)]
    refine Ret.i (fun c => Rr ⟨he, fun j j0 j1 => hk j j0 (by omega)⟩) (fun c => Ret.g ⟨k0, by omega⟩ (Ret.g ⟨k0, by omega⟩ (Ret.l (Ret.g ⟨k0, by omega⟩ (Ret.g ⟨k0, by omega⟩ (Ret.l (Rl ⟨⟨by show 0 ≤ k + 1; omega, by show k + 1 ≤ _; omega, fun x y q => ?_, fun j j0 j1 => ?_⟩, by show (10 - (k + 1)).toNat < (10 - k).toNat; omega⟩)))))))
    · dsimp only
      rw [sto_ne (by omega), sto_ne (by omega)]; exact he x y q
    · have j1 : j < k + 1 := j1
      dsimp only
      by_cases q : j = k
      · rw [q]
        refine ⟨?_, ?_⟩
        · rw [sto_ne (by omega), sto_eq rfl rfl, he _ _ (by omega), e _ _ (by omega)]
        · rw [sto_eq rfl rfl, sto_ne (by omega), he _ _ (by omega), e _ _ (by omega)]
      · rw [sto_ne (by omega), sto_ne (by omega), sto_ne (by omega), sto_ne (by omega)]; exact hk j j0 (by omega)
  · rw [h.1 a b (by omega), e a b (by omega)]
  · rw [h.1 t j (by omega)]; exact e1 j j0 j1
theorem cp_rows {M : jM} {t f : Int} (ht : (t = 1 ∧ f = 22) ∨ (t = 22 ∧ f = 1)) : Ret (iter (f_X8_copy_L76 M t f) 5000 (M, 0)) (fun M' => (∀ a b, ¬ (t + 7 ≤ a ∧ a < t + 13) → M' a b = M a b) ∧ ∀ r, 0 ≤ r → r < 6 → M' (t + 7 + r) 0 = M (f + 7 + r) 0 ∧ M' (t + 7 + r) 1 = M (f + 7 + r) 1) := by
  have pt := cp_ptr (t := t) (by omega)
  have pf := cp_ptr (t := f) (by omega)
  refine Ret.it (fun S : jM × Int => 0 ≤ S.2 ∧ S.2 ≤ 6 ∧ (∀ a b, ¬ (t + 7 ≤ a ∧ a < t + 13) → S.1 a b = M a b) ∧ ∀ r, 0 ≤ r → r < S.2 → S.1 (t + 7 + r) 0 = M (f + 7 + r) 0 ∧ S.1 (t + 7 + r) 1 = M (f + 7 + r) 1) (fun S => (6 - S.2).toNat) ?_ 5000 (M, 0) ⟨by show (0 : Int) ≤ 0; decide, by show (0 : Int) ≤ 6; decide, fun _ _ _ => rfl, fun j j0 j1 => by have j1 : j < 0 := j1; omega⟩ (by show (6 - 0 : Int).toNat < 5000; decide)
  rintro ⟨M1, k⟩ ⟨k0, k1, he, hk⟩
  dsimp only at k0 k1 he hk
  unfold f_X8_copy_L76
  dsimp +instances only
  rw [pt.2.2.2.1, pf.2.2.2.1, w32_id (x := k) (by omega) (by omega)]
  refine Ret.i (fun c => Rr ⟨he, fun j j0 j1 => hk j j0 (by omega)⟩) (fun c => Ret.g ⟨k0, by omega⟩ (Ret.g ⟨k0, by omega⟩ ?_))
  rw [cp_row (by omega) k0 (by omega), cp_row (by omega) k0 (by omega)]
  refine Ret.bb (s_copyL (by omega)) (fun M2 ⟨x1, x2, x3⟩ => Rl ⟨⟨by show 0 ≤ k + 1; omega, by show k + 1 ≤ _; omega, fun a b q => ?_, fun r r0 r1 => ?_⟩, by show (6 - (k + 1)).toNat < (6 - k).toNat; omega⟩)
  · dsimp only
    rw [x1 a b (by omega)]; exact he a b q
  · have r1 : r < k + 1 := r1
    dsimp only
    by_cases q : r = k
    · rw [q, x2, x3, he _ _ (by omega), he _ _ (by omega)]
      exact ⟨rfl, rfl⟩
    · rw [x1 _ _ (by omega), x1 _ _ (by omega)]; exact hk r r0 (by omega)
theorem cp_plays {M : jM} {t f : Int} (ht : (t = 1 ∧ f = 22) ∨ (t = 22 ∧ f = 1)) : Ret (iter (f_X8_copy_L113 M t f) 5000 (M, 0)) (fun M' => (∀ a b, ¬ (a = t + 13 ∨ a = t + 14 ∨ (t + 16 ≤ a ∧ a < t + 20)) → M' a b = M a b) ∧ ∀ p, 0 ≤ p → p < 4 → M' (t + 13) p = M (f + 13) p ∧ M' (t + 14) p = M (f + 14) p ∧ M' (t + 16 + p) 0 = M (f + 16 + p) 0 ∧ M' (t + 16 + p) 1 = M (f + 16 + p) 1) := by
  obtain ⟨-, -, -, -, pt8, pt9, pt10, -⟩ := cp_ptr (t := t) (by omega)
  obtain ⟨-, -, -, -, pf8, pf9, pf10, -⟩ := cp_ptr (t := f) (by omega)
  refine Ret.it (fun S : jM × Int => 0 ≤ S.2 ∧ S.2 ≤ 4 ∧ (∀ a b, ¬ (a = t + 13 ∨ a = t + 14 ∨ (t + 16 ≤ a ∧ a < t + 20)) → S.1 a b = M a b) ∧ ∀ p, 0 ≤ p → p < S.2 → S.1 (t + 13) p = M (f + 13) p ∧ S.1 (t + 14) p = M (f + 14) p ∧ S.1 (t + 16 + p) 0 = M (f + 16 + p) 0 ∧ S.1 (t + 16 + p) 1 = M (f + 16 + p) 1) (fun S => (4 - S.2).toNat) ?_ 5000 (M, 0) ⟨by show (0 : Int) ≤ 0; decide, by show (0 : Int) ≤ 4; decide, fun _ _ _ => rfl, fun j j0 j1 => by have j1 : j < 0 := j1; omega⟩ (by show (4 - 0 : Int).toNat < 5000; decide)
  rintro ⟨M1, k⟩ ⟨k0, k1, he, hk⟩
  dsimp only at k0 k1 he hk
  unfold f_X8_copy_L113
  dsimp +instances only
  rw [pt8, pt9, pt10, pf8, pf9, pf10, w32_id (x := k) (by omega) (by omega)]
  refine Ret.i (fun c => Rr ⟨he, fun j j0 j1 => hk j j0 (by omega)⟩) (fun c => Ret.g ⟨k0, by omega⟩ (Ret.g ⟨k0, by omega⟩ (Ret.l (Ret.g ⟨k0, by omega⟩ (Ret.g ⟨k0, by omega⟩ (Ret.l (Ret.g ⟨k0, by omega⟩ (Ret.g ⟨k0, by omega⟩ ?_))))))))
  rw [cp_own (by omega) k0 (by omega), cp_own (by omega) k0 (by omega)]
  refine Ret.bb (s_copyL (by omega)) (fun M2 ⟨x1, x2, x3⟩ => Rl ⟨⟨by show 0 ≤ k + 1; omega, by show k + 1 ≤ _; omega, fun a b q => ?_, fun r r0 r1 => ?_⟩, by show (4 - (k + 1)).toNat < (4 - k).toNat; omega⟩)
  · dsimp only
    rw [x1 a b (by omega), sto_ne (by omega), sto_ne (by omega)]; exact he a b q
  · have r1 : r < k + 1 := r1
    dsimp only
    by_cases q : r = k
    · rw [q, x2, x3]
      refine ⟨?_, ?_, ?_, ?_⟩
      · rw [x1 _ _ (by omega), sto_ne (by omega), sto_eq rfl rfl, he _ _ (by omega)]
      · rw [x1 _ _ (by omega), sto_eq rfl rfl, sto_ne (by omega), he _ _ (by omega)]
      · rw [sto_ne (by omega), sto_ne (by omega), he _ _ (by omega)]
      · rw [sto_ne (by omega), sto_ne (by omega), he _ _ (by omega)]
    · rw [x1 _ _ (by omega), x1 _ _ (by omega), x1 _ _ (by omega), x1 _ _ (by omega), sto_ne (by omega), sto_ne (by omega), sto_ne (by omega), sto_ne (by omega), sto_ne (by omega), sto_ne (by omega), sto_ne (by omega), sto_ne (by omega)]; exact hk r r0 (by omega)
set_option maxHeartbeats 4000000 in
theorem s_copyT1 {M : jM} (b0 : 0 ≤ M 1 1) (b1 : M 1 1 ≤ 100) : Ret (f_X8_copy M 22 1) (fun M' => CpR M M' 22 1) := by
  obtain ⟨pt0, pt2, pt5, pt6, pt8, pt9, pt10, pt12, pt3, pt4⟩ := cp_ptr (t := 22) (by omega)
  obtain ⟨pf0, pf2, pf5, pf6, pf8, pf9, pf10, pf12, pf3, pf4⟩ := cp_ptr (t := 1) (by omega)
  unfold f_X8_copy
  rw [pt2, pt5, pt12, pf2, pf5, pf12]
  refine Ret.bb (cp_tape (t := 22) (f := 1) (by omega) b0 b1) (fun M1 ⟨a1, a2⟩ => Ret.l ?_)
  refine Ret.bb (s_stallCopy (t := 22 + 2) (f := 1 + 2) (by rw [pt3]; omega) (by rw [pt4]; omega) (by rw [pf3]; omega) (by rw [pf4]; omega) (by omega)) (fun M2 ⟨c1, c2, c3⟩ => Ret.l (Ret.l ?_))
  refine Ret.bb (s_copyL (by omega)) (fun M3 ⟨d1, d2, d3⟩ => ?_)
  refine Ret.bb (cp_rows (t := 22) (f := 1) (by omega)) (fun M4 ⟨g1, g2⟩ => Ret.l ?_)
  refine Ret.bb (cp_plays (t := 22) (f := 1) (by omega)) (fun M5 ⟨i1, i2⟩ => Ret.l ?_)
  refine Ret.bb (s_copyL (by omega)) (fun M6 ⟨k1, k2, k3⟩ => Ret.s ?_)
  -- everything but the target is as it was, at every stage
  have B1 : ∀ a b, ¬ (22 ≤ a ∧ a ≤ 22 + 20) → sto M1 22 1 (M1 1 1) a b = M a b := fun a b q => by rw [sto_ne (by omega)]; exact a1 a b (by omega)
  have C1 : ∀ a b, ¬ (22 ≤ a ∧ a ≤ 22 + 20) → M2 a b = M a b := fun a b q => by rw [c1 a b (by omega)]; exact B1 a b q
  have C2 : ∀ a b, ¬ (22 ≤ a ∧ a ≤ 22 + 20) → sto (sto M2 22 3 (M2 1 3)) 22 4 (sto M2 22 3 (M2 1 3) 1 4) a b = M a b := fun a b q => by rw [sto_ne (by omega), sto_ne (by omega)]; exact C1 a b q
  have D1 : ∀ a b, ¬ (22 ≤ a ∧ a ≤ 22 + 20) → M3 a b = M a b := fun a b q => by rw [d1 a b (by omega)]; exact C2 a b q
  have G1 : ∀ a b, ¬ (22 ≤ a ∧ a ≤ 22 + 20) → M4 a b = M a b := fun a b q => by rw [g1 a b (by omega)]; exact D1 a b q
  have G2 : ∀ a b, ¬ (22 ≤ a ∧ a ≤ 22 + 20) → sto M4 22 7 (M4 1 7) a b = M a b := fun a b q => by rw [sto_ne (by omega)]; exact G1 a b q
  have I1 : ∀ a b, ¬ (22 ≤ a ∧ a ≤ 22 + 20) → M5 a b = M a b := fun a b q => by rw [i1 a b (by omega)]; exact G2 a b q
  have I2 : ∀ a b, ¬ (22 ≤ a ∧ a ≤ 22 + 20) → sto M5 22 11 (M5 1 11) a b = M a b := fun a b q => by rw [sto_ne (by omega)]; exact I1 a b q
  refine ⟨fun a b q => by rw [k1 a b (by omega)]; exact I2 a b q, ?_, fun i i0 i1' => ?_, fun j j0 j1 => ?_, fun i i0 i1' => ?_, ?_, ?_, ⟨?_, ?_⟩, fun r r0 r1 => ?_, ?_, fun p p0 p1 => ?_, ?_, ?_, ?_⟩
  · rw [k1 _ _ (by omega), sto_ne (by omega), i1 _ _ (by omega), sto_ne (by omega), g1 _ _ (by omega), d1 _ _ (by omega), sto_ne (by omega), sto_ne (by omega), c1 _ _ (by omega), sto_eq rfl rfl]
    exact a1 _ _ (by omega)
  · rw [k1 _ _ (by omega), sto_ne (by omega), i1 _ _ (by omega), sto_ne (by omega), g1 _ _ (by omega), d1 _ _ (by omega), sto_ne (by omega), sto_ne (by omega), c1 _ _ (by omega), sto_ne (by omega)]
    exact a2 i i0 i1'
  · rw [k1 _ _ (by omega), sto_ne (by omega), i1 _ _ (by omega), sto_ne (by omega), g1 _ _ (by omega), d1 _ _ (by omega), sto_ne (by omega), sto_ne (by omega), c2 j j0 j1]
    exact B1 _ _ (by omega)
  · have z := c3 i i0 i1'
    have z1 : M2 (22 + 3) i = sto M1 22 1 (M1 1 1) (1 + 3) i := by
      have := z.1
      rw [show (22 : Int) + 2 + 1 = 22 + 3 by omega, show (1 : Int) + 2 + 1 = 1 + 3 by omega] at this
      exact this
    have z2 : M2 (22 + 4) i = sto M1 22 1 (M1 1 1) (1 + 4) i := by
      have := z.2
      rw [show (22 : Int) + 2 + 2 = 22 + 4 by omega, show (1 : Int) + 2 + 2 = 1 + 4 by omega] at this
      exact this
    refine ⟨?_, ?_⟩
    · rw [k1 _ _ (by omega), sto_ne (by omega), i1 _ _ (by omega), sto_ne (by omega), g1 _ _ (by omega), d1 _ _ (by omega), sto_ne (by omega), sto_ne (by omega), z1]
      exact B1 _ _ (by omega)
    · rw [k1 _ _ (by omega), sto_ne (by omega), i1 _ _ (by omega), sto_ne (by omega), g1 _ _ (by omega), d1 _ _ (by omega), sto_ne (by omega), sto_ne (by omega), z2]
      exact B1 _ _ (by omega)
  · rw [k1 _ _ (by omega), sto_ne (by omega), i1 _ _ (by omega), sto_ne (by omega), g1 _ _ (by omega), d1 _ _ (by omega), sto_ne (by omega), sto_eq rfl rfl]
    exact C1 _ _ (by omega)
  · rw [k1 _ _ (by omega), sto_ne (by omega), i1 _ _ (by omega), sto_ne (by omega), g1 _ _ (by omega), d1 _ _ (by omega), sto_eq rfl rfl, sto_ne (by omega)]
    exact C1 _ _ (by omega)
  · rw [k1 _ _ (by omega), sto_ne (by omega), i1 _ _ (by omega), sto_ne (by omega), g1 _ _ (by omega), d2]
    exact C2 _ _ (by omega)
  · rw [k1 _ _ (by omega), sto_ne (by omega), i1 _ _ (by omega), sto_ne (by omega), g1 _ _ (by omega), d3]
    exact C2 _ _ (by omega)
  · obtain ⟨z1, z2⟩ := g2 r r0 r1
    refine ⟨?_, ?_⟩
    · rw [k1 _ _ (by omega), sto_ne (by omega), i1 _ _ (by omega), sto_ne (by omega), z1]
      exact D1 _ _ (by omega)
    · rw [k1 _ _ (by omega), sto_ne (by omega), i1 _ _ (by omega), sto_ne (by omega), z2]
      exact D1 _ _ (by omega)
  · rw [k1 _ _ (by omega), sto_ne (by omega), i1 _ _ (by omega), sto_eq rfl rfl]
    exact G1 _ _ (by omega)
  · obtain ⟨z1, z2, z3, z4⟩ := i2 p p0 p1
    refine ⟨?_, ?_, ?_, ?_⟩
    · rw [k1 _ _ (by omega), sto_ne (by omega), z1]; exact G2 _ _ (by omega)
    · rw [k1 _ _ (by omega), sto_ne (by omega), z2]; exact G2 _ _ (by omega)
    · rw [k1 _ _ (by omega), sto_ne (by omega), z3]; exact G2 _ _ (by omega)
    · rw [k1 _ _ (by omega), sto_ne (by omega), z4]; exact G2 _ _ (by omega)
  · rw [k1 _ _ (by omega), sto_eq rfl rfl]
    exact I1 _ _ (by omega)
  · rw [k2]; exact I2 _ _ (by omega)
  · rw [k3]; exact I2 _ _ (by omega)
set_option maxHeartbeats 4000000 in
theorem s_copyT2 {M : jM} (b0 : 0 ≤ M 22 1) (b1 : M 22 1 ≤ 100) : Ret (f_X8_copy M 1 22) (fun M' => CpR M M' 1 22) := by
  obtain ⟨pt0, pt2, pt5, pt6, pt8, pt9, pt10, pt12, pt3, pt4⟩ := cp_ptr (t := 1) (by omega)
  obtain ⟨pf0, pf2, pf5, pf6, pf8, pf9, pf10, pf12, pf3, pf4⟩ := cp_ptr (t := 22) (by omega)
  unfold f_X8_copy
  rw [pt2, pt5, pt12, pf2, pf5, pf12]
  refine Ret.bb (cp_tape (t := 1) (f := 22) (by omega) b0 b1) (fun M1 ⟨a1, a2⟩ => Ret.l ?_)
  refine Ret.bb (s_stallCopy (t := 1 + 2) (f := 22 + 2) (by rw [pt3]; omega) (by rw [pt4]; omega) (by rw [pf3]; omega) (by rw [pf4]; omega) (by omega)) (fun M2 ⟨c1, c2, c3⟩ => Ret.l (Ret.l ?_))
  refine Ret.bb (s_copyL (by omega)) (fun M3 ⟨d1, d2, d3⟩ => ?_)
  refine Ret.bb (cp_rows (t := 1) (f := 22) (by omega)) (fun M4 ⟨g1, g2⟩ => Ret.l ?_)
  refine Ret.bb (cp_plays (t := 1) (f := 22) (by omega)) (fun M5 ⟨i1, i2⟩ => Ret.l ?_)
  refine Ret.bb (s_copyL (by omega)) (fun M6 ⟨k1, k2, k3⟩ => Ret.s ?_)
  -- everything but the target is as it was, at every stage
  have B1 : ∀ a b, ¬ (1 ≤ a ∧ a ≤ 1 + 20) → sto M1 1 1 (M1 22 1) a b = M a b := fun a b q => by rw [sto_ne (by omega)]; exact a1 a b (by omega)
  have C1 : ∀ a b, ¬ (1 ≤ a ∧ a ≤ 1 + 20) → M2 a b = M a b := fun a b q => by rw [c1 a b (by omega)]; exact B1 a b q
  have C2 : ∀ a b, ¬ (1 ≤ a ∧ a ≤ 1 + 20) → sto (sto M2 1 3 (M2 22 3)) 1 4 (sto M2 1 3 (M2 22 3) 22 4) a b = M a b := fun a b q => by rw [sto_ne (by omega), sto_ne (by omega)]; exact C1 a b q
  have D1 : ∀ a b, ¬ (1 ≤ a ∧ a ≤ 1 + 20) → M3 a b = M a b := fun a b q => by rw [d1 a b (by omega)]; exact C2 a b q
  have G1 : ∀ a b, ¬ (1 ≤ a ∧ a ≤ 1 + 20) → M4 a b = M a b := fun a b q => by rw [g1 a b (by omega)]; exact D1 a b q
  have G2 : ∀ a b, ¬ (1 ≤ a ∧ a ≤ 1 + 20) → sto M4 1 7 (M4 22 7) a b = M a b := fun a b q => by rw [sto_ne (by omega)]; exact G1 a b q
  have I1 : ∀ a b, ¬ (1 ≤ a ∧ a ≤ 1 + 20) → M5 a b = M a b := fun a b q => by rw [i1 a b (by omega)]; exact G2 a b q
  have I2 : ∀ a b, ¬ (1 ≤ a ∧ a ≤ 1 + 20) → sto M5 1 11 (M5 22 11) a b = M a b := fun a b q => by rw [sto_ne (by omega)]; exact I1 a b q
  refine ⟨fun a b q => by rw [k1 a b (by omega)]; exact I2 a b q, ?_, fun i i0 i1' => ?_, fun j j0 j1 => ?_, fun i i0 i1' => ?_, ?_, ?_, ⟨?_, ?_⟩, fun r r0 r1 => ?_, ?_, fun p p0 p1 => ?_, ?_, ?_, ?_⟩
  · rw [k1 _ _ (by omega), sto_ne (by omega), i1 _ _ (by omega), sto_ne (by omega), g1 _ _ (by omega), d1 _ _ (by omega), sto_ne (by omega), sto_ne (by omega), c1 _ _ (by omega), sto_eq rfl rfl]
    exact a1 _ _ (by omega)
  · rw [k1 _ _ (by omega), sto_ne (by omega), i1 _ _ (by omega), sto_ne (by omega), g1 _ _ (by omega), d1 _ _ (by omega), sto_ne (by omega), sto_ne (by omega), c1 _ _ (by omega), sto_ne (by omega)]
    exact a2 i i0 i1'
  · rw [k1 _ _ (by omega), sto_ne (by omega), i1 _ _ (by omega), sto_ne (by omega), g1 _ _ (by omega), d1 _ _ (by omega), sto_ne (by omega), sto_ne (by omega), c2 j j0 j1]
    exact B1 _ _ (by omega)
  · have z := c3 i i0 i1'
    have z1 : M2 (1 + 3) i = sto M1 1 1 (M1 22 1) (22 + 3) i := by
      have := z.1
      rw [show (1 : Int) + 2 + 1 = 1 + 3 by omega, show (22 : Int) + 2 + 1 = 22 + 3 by omega] at this
      exact this
    have z2 : M2 (1 + 4) i = sto M1 1 1 (M1 22 1) (22 + 4) i := by
      have := z.2
      rw [show (1 : Int) + 2 + 2 = 1 + 4 by omega, show (22 : Int) + 2 + 2 = 22 + 4 by omega] at this
      exact this
    refine ⟨?_, ?_⟩
    · rw [k1 _ _ (by omega), sto_ne (by omega), i1 _ _ (by omega), sto_ne (by omega), g1 _ _ (by omega), d1 _ _ (by omega), sto_ne (by omega), sto_ne (by omega), z1]
      exact B1 _ _ (by omega)
    · rw [k1 _ _ (by omega), sto_ne (by omega), i1 _ _ (by omega), sto_ne (by omega), g1 _ _ (by omega), d1 _ _ (by omega), sto_ne (by omega), sto_ne (by omega), z2]
      exact B1 _ _ (by omega)
  · rw [k1 _ _ (by omega), sto_ne (by omega), i1 _ _ (by omega), sto_ne (by omega), g1 _ _ (by omega), d1 _ _ (by omega), sto_ne (by omega), sto_eq rfl rfl]
    exact C1 _ _ (by omega)
  · rw [k1 _ _ (by omega), sto_ne (by omega), i1 _ _ (by omega), sto_ne (by omega), g1 _ _ (by omega), d1 _ _ (by omega), sto_eq rfl rfl, sto_ne (by omega)]
    exact C1 _ _ (by omega)
  · rw [k1 _ _ (by omega), sto_ne (by omega), i1 _ _ (by omega), sto_ne (by omega), g1 _ _ (by omega), d2]
    exact C2 _ _ (by omega)
  · rw [k1 _ _ (by omega), sto_ne (by omega), i1 _ _ (by omega), sto_ne (by omega), g1 _ _ (by omega), d3]
    exact C2 _ _ (by omega)
  · obtain ⟨z1, z2⟩ := g2 r r0 r1
    refine ⟨?_, ?_⟩
    · rw [k1 _ _ (by omega), sto_ne (by omega), i1 _ _ (by omega), sto_ne (by omega), z1]
      exact D1 _ _ (by omega)
    · rw [k1 _ _ (by omega), sto_ne (by omega), i1 _ _ (by omega), sto_ne (by omega), z2]
      exact D1 _ _ (by omega)
  · rw [k1 _ _ (by omega), sto_ne (by omega), i1 _ _ (by omega), sto_eq rfl rfl]
    exact G1 _ _ (by omega)
  · obtain ⟨z1, z2, z3, z4⟩ := i2 p p0 p1
    refine ⟨?_, ?_, ?_, ?_⟩
    · rw [k1 _ _ (by omega), sto_ne (by omega), z1]; exact G2 _ _ (by omega)
    · rw [k1 _ _ (by omega), sto_ne (by omega), z2]; exact G2 _ _ (by omega)
    · rw [k1 _ _ (by omega), sto_ne (by omega), z3]; exact G2 _ _ (by omega)
    · rw [k1 _ _ (by omega), sto_ne (by omega), z4]; exact G2 _ _ (by omega)
  · rw [k1 _ _ (by omega), sto_eq rfl rfl]
    exact I1 _ _ (by omega)
  · rw [k2]; exact I2 _ _ (by omega)
  · rw [k3]; exact I2 _ _ (by omega)
theorem s_copyT {M : jM} {t f : Int} (ht : (t = 1 ∧ f = 22) ∨ (t = 22 ∧ f = 1)) (b0 : 0 ≤ M f 1) (b1 : M f 1 ≤ 100) : Ret (f_X8_copy M t f) (fun M' => CpR M M' t f) := by
  rcases ht with ⟨rfl, rfl⟩ | ⟨rfl, rfl⟩
  · exact s_copyT2 b0 b1
  · exact s_copyT1 b0 b1
