theorem jp_7 {r : Int} (h0 : 0 ≤ r) (h1 : r < 6) : jpt 7 r = 8 + r := by
  have key : ∀ k : Nat, k < 6 → jpt 7 (k : Int) = 8 + (k : Int) := by decide +kernel
  have := key r.toNat (by omega)
  rw [Int.toNat_of_nonneg h0] at this
  exact this
theorem kd_row {r : Int} (h0 : 0 ≤ r) (h1 : r < 6) : jkd (8 + r) = (3, 0) := by
  have key : ∀ k : Nat, k < 6 → jkd (8 + (k : Int)) = (3, 0) := by decide +kernel
  have := key r.toNat (by omega)
  rw [Int.toNat_of_nonneg h0] at this
  exact this
/-- both sides look a row up -/
theorem s_rowAt {M : jM} (h : RRows M 1 63) {r : Int} (n0 : -2147483648 ≤ r) (n1 : r < 2147483648) : f_X8_rowAt M 1 r = some (if 0 ≤ r ∧ r < M 63 0 then 8 + r else -1) := by
  obtain ⟨a, b, c, -⟩ := h
  unfold f_X8_rowAt f_X8_rowAt_12
  rw [w32_id n0 n1, a, w32_id (x := M 63 0) (by omega) (by omega), jp_1_6]
  by_cases h1 : r < 0
  · rw [if_pos h1, if_neg (by omega)]
  · rw [if_neg h1]
    by_cases h2 : r < M 63 0
    · rw [if_pos h2, if_pos ⟨by omega, h2⟩, jp_7 (by omega) (by omega)]
      unfold grd
      rw [if_pos ⟨by omega, by omega⟩]
    · rw [if_neg h2, if_neg (by omega)]
theorem r_isRow {M : jM} (h : RRows M 1 63) {r : Int} (n0 : -2147483648 ≤ r) (n1 : r < 2147483648) : f_X10_isRow M 62 r = some (if 0 ≤ r ∧ r < M 63 0 then 1 else 0) := by
  obtain ⟨a, b, c, -⟩ := h
  unfold f_X10_isRow
  rw [jp_62_1, r_in M n0 n1 (by decide) (by decide) (by omega) (by omega)]
  show grd _ _ = _
  unfold grd
  by_cases h1 : 0 ≤ r ∧ r < M 63 0
  · rw [if_pos h1, if_pos (show 0 ≤ r ∧ r ≤ M 63 0 - 1 by omega), if_pos (Or.inr rfl)]
  · rw [if_neg h1, if_neg (show ¬ (0 ≤ r ∧ r ≤ M 63 0 - 1) by omega), if_pos (Or.inl rfl)]
theorem k_of {M : jM} (h : jInv M) {r k : Int} (n0 : -2147483648 ≤ r) (n1 : r < 2147483648) (k0 : -2147483648 ≤ k) (k1 : k < 2147483648) : Ret (f_X9_of M 0 r k) (fun a => Ret (f_X10_of M 62 r k) (fun b => w32 a = w32 b)) := by
  have hR := h.1.2.2.2.1
  unfold f_X9_of f_X10_of
  rw [jp_0_0, jp_62_1, s_rowAt hR n0 n1, r_isRow hR n0 n1]
  by_cases c : 0 ≤ r ∧ r < M 63 0
  · rw [if_pos c, if_pos c]
    obtain ⟨q1, q2, q3, q4⟩ := hR
    obtain ⟨g1, g2, g3⟩ := q4 r c.1 c.2
    have hl : RelLn M (8 + r) 63 (10 + 6 * r) (M 63 (58 + r)) := by
      have e : (1 : Int) + 7 + r = 8 + r := by omega
      rw [← e]; exact g1
    refine Ret.b ⟨8 + r, rfl, Ret.g (Or.inr (kd_row c.1 (by omega))) ?_⟩
    unfold f_X9_partOfRow
    rw [w32_id k0 k1, w32_id (x := 58 + r) (by omega) (by omega), hl.2.2.1, s_signAt hl k0 k1]
    have tail : ∀ v : Int, (k = -1 ∧ v = M 63 (58 + r)) ∨ (k ≠ -1 ∧ v = (if 0 ≤ k ∧ k < M 63 (58 + r) then M 63 (10 + 6 * r + k) else -1)) → Ret ((some (1 : Int)).bind fun r1 => (if w32 r1 = 0 then some (-1) else grd (0 ≤ 58 + r ∧ 58 + r < 952) ((f_X10_in M k (-1) (M 63 (58 + r) - 1)).bind fun r4 => (if w32 r4 = 0 then some (-1) else (if k = (-1) then grd (0 ≤ 58 + r ∧ 58 + r < 952) (some (M 63 (58 + r))) else grd (0 ≤ w32 ((10 + (6 * r)) + k) ∧ w32 ((10 + (6 * r)) + k) < 952) (some (M 63 (w32 ((10 + (6 * r)) + k))))))))) (fun b => w32 v = w32 b) := by
      intro v hv
      refine Ret.b ⟨1, rfl, Ret.f w32_1n (Ret.g ⟨by omega, by omega⟩ ?_)⟩
      rw [r_in M k0 k1 (by decide) (by decide) (by omega) (by omega)]
      by_cases c2 : -1 ≤ k ∧ k ≤ M 63 (58 + r) - 1
      · rw [if_pos c2]
        refine Ret.b ⟨1, rfl, Ret.f w32_1n (Ret.i (fun c3 => Ret.g ⟨by omega, by omega⟩ (Ret.s ?_)) (fun c3 => ?_))⟩
        · rcases hv with ⟨_, hv⟩ | ⟨hv, _⟩
          · rw [hv]
          · exact absurd c3 hv
        · rw [w32_id (x := 10 + 6 * r + k) (by omega) (by omega)]
          refine Ret.g ⟨by omega, by omega⟩ (Ret.s ?_)
          rcases hv with ⟨hv, _⟩ | ⟨_, hv⟩
          · exact absurd hv c3
          · rw [hv, if_pos ⟨by omega, by omega⟩]
      · rw [if_neg c2]
        refine Ret.b ⟨0, rfl, Ret.t w32_0 (Ret.s ?_)⟩
        rcases hv with ⟨hv, _⟩ | ⟨_, hv⟩
        · omega
        · rw [hv, if_neg (by omega)]
    refine Ret.b (Ret.f (by omega) (Ret.i (fun c3 => Ret.s (Ret.s (tail _ (Or.inl ⟨c3, rfl⟩)))) (fun c3 => Ret.b ⟨_, rfl, Ret.s (Ret.s (tail _ (Or.inr ⟨c3, rfl⟩)))⟩)))
  · rw [if_neg c, if_neg c]
    refine Ret.b ⟨-1, rfl, Ret.g (Or.inl (by decide)) ?_⟩
    unfold f_X9_partOfRow
    exact Ret.b (Ret.t (by decide) (Ret.s (Ret.s (Ret.b ⟨0, rfl, Ret.t w32_0 (Ret.s rfl)⟩))))
