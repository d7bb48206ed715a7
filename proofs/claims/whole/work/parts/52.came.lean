theorem r_came {M : jM} (hT : RThrown M 1 63) (hR : RRows M 1 63) {r : Int} (r0 : 0 ≤ r) (r1 : r < M 63 0) : Ret (f_X10_cameBehind M 62 r) (FirstEnd (fun i => M 63 (72 + i)) (M 63 4) (fun j => M 63 (10 + 6 * r + j)) (M 63 (58 + r))) := by
  obtain ⟨q1, q2, q3, q4⟩ := hR
  obtain ⟨g1, g2, g3⟩ := q4 r r0 r1
  have hn0 := hT.1
  have hn := hT.2.1
  unfold f_X10_cameBehind
  refine Ret.bb (P := fun x : Unit ⊕ Int => (x = .inl () ∧ ∀ t, M 63 (58 + r) ≤ t → t ≤ M 63 4 → ¬ EndsW (fun i => M 63 (72 + i)) t (fun j => M 63 (10 + 6 * r + j)) (M 63 (58 + r))) ∨ ∃ v, x = .inr v ∧ M 63 (58 + r) ≤ v ∧ v ≤ M 63 4 ∧ EndsW (fun i => M 63 (72 + i)) v (fun j => M 63 (10 + 6 * r + j)) (M 63 (58 + r)) ∧ ∀ t, M 63 (58 + r) ≤ t → t < v → ¬ EndsW (fun i => M 63 (72 + i)) t (fun j => M 63 (10 + 6 * r + j)) (M 63 (58 + r))) ?_ ?_
  · refine Ret.it (fun t : Int => 1 ≤ t ∧ t ≤ 25 ∧ ∀ t', M 63 (58 + r) ≤ t' → t' < t → ¬ EndsW (fun i => M 63 (72 + i)) t' (fun j => M 63 (10 + 6 * r + j)) (M 63 (58 + r))) (fun t => (26 - t).toNat) ?_ 5000 1 ⟨by omega, by omega, fun t' h1 h2 => by omega⟩ (by decide)
    intro t ⟨t0, t1, ht⟩
    unfold f_X10_cameBehind_L2
    rw [jp_62_1, w32_id (x := M 63 4) (by omega) (by omega), w32_id (x := t) (by omega) (by omega), w32_id (x := 58 + r) (by omega) (by omega)]
    refine Ret.i (fun c => Rr (Or.inl ⟨rfl, fun t' h1 h2 => ht t' h1 (by omega)⟩)) (fun c => Ret.g ⟨by omega, by omega⟩ ?_)
    obtain ⟨v, e1, e2, e3⟩ := r_endsWith (M := M) (fr := 72) (sz := t) (row := r) (k := M 63 (58 + r)) (by omega) (by omega) (by omega) (by omega) (by omega) (by omega) r0 (by omega) (fun i i0 i1 => hT.2.2.2.2 i i0 (by omega)) (fun j j0 j1 => g1.2.2.2.2 j j0 j1)
    refine Ret.b ⟨v, e1, ?_⟩
    dsimp only
    rw [w32_id (x := v) (by omega) (by omega)]
    refine Ret.i (fun c2 => Rl ⟨⟨by omega, by omega, fun t' h1 h2 => ?_⟩, by show (26 - (t + 1)).toNat < (26 - t).toNat; omega⟩) (fun c2 => Rr (Or.inr ⟨t, rfl, (e3.mp (by omega)).1, by omega, (e3.mp (by omega)).2, ht⟩))
    by_cases q : t' = t
    · intro z
      rw [q] at z h1
      have := e3.mpr ⟨h1, z⟩
      omega
    · exact ht t' h1 (by omega)
  · intro x hx
    rcases hx with ⟨rfl, h⟩ | ⟨v, rfl, h⟩
    · exact Ret.s (Or.inl ⟨rfl, h⟩)
    · exact Ret.s (Or.inr h)
theorem row_ln {M : jM} (hR : RRows M 1 63) {r : Int} (r0 : 0 ≤ r) (r1 : r < M 63 0) : RelLn M (8 + r) 63 (10 + 6 * r) (M 63 (58 + r)) ∧ 1 ≤ M 63 (58 + r) ∧ M 63 (58 + r) ≤ 6 := by
  obtain ⟨q1, q2, q3, q4⟩ := hR
  obtain ⟨g1, g2, g3⟩ := q4 r r0 r1
  have e : (1 : Int) + 7 + r = 8 + r := by omega
  rw [e] at g1
  exact ⟨g1, g2, g3⟩
theorem k_came {M : jM} (h : jInv M) {r : Int} (n0 : -2147483648 ≤ r) (n1 : r < 2147483648) : Ret (f_X9_came M 0 r) (fun a => Ret (f_X10_came M 62 r) (fun b => w32 a = w32 b)) := by
  have hR := h.1.2.2.2.1
  have hT := h.1.2.2.2.2.1
  unfold f_X9_came f_X10_came
  rw [jp_0_0, jp_1_12, s_rowAt hR n0 n1, r_isRow hR n0 n1]
  by_cases c : 0 ≤ r ∧ r < M 63 0
  · rw [if_pos c, if_pos c]
    obtain ⟨g1, g2, g3⟩ := row_ln hR c.1 c.2
    have hq := hR.2.2.1
    refine Ret.b ⟨8 + r, rfl, Ret.g (Or.inr (kd_row c.1 (by omega))) (Ret.f (by omega) (Ret.bb (s_firstEndOf (show Ln M 21 (fun i => M 63 (72 + i)) (M 63 4) from hT) g1 g2) (fun v hv => Ret.s ?_)))⟩
    refine Ret.b ⟨1, rfl, Ret.f w32_1n (Ret.bb (r_came hT hR c.1 c.2) (fun w hw => Ret.s ?_))⟩
    rw [hv.one hw]
  · rw [if_neg c, if_neg c]
    refine Ret.b ⟨-1, rfl, Ret.g (Or.inl (by decide)) (Ret.t (by decide) (Ret.s ?_))⟩
    exact Ret.b ⟨0, rfl, Ret.t w32_0 (Ret.s rfl)⟩
