noncomputable def cntE (P : Int → Prop) : Nat → Int
  | 0 => 0
  | n + 1 => cntE P n + @ite Int (P ((n : Int) + 1)) (Classical.propDecidable _) 1 0
theorem cntE_y {P : Int → Prop} {t : Int} (h0 : 1 ≤ t) (h : P t) : cntE P (t + 1 - 1).toNat = cntE P (t - 1).toNat + 1 := by
  have e : (t + 1 - 1).toNat = (t - 1).toNat + 1 := by omega
  rw [e]
  show cntE P (t - 1).toNat + @ite Int (P (((t - 1).toNat : Int) + 1)) (Classical.propDecidable _) 1 0 = _
  have e2 : (((t - 1).toNat : Nat) : Int) + 1 = t := by omega
  rw [e2, if_pos h]
theorem cntE_n {P : Int → Prop} {t : Int} (h0 : 1 ≤ t) (h : ¬ P t) : cntE P (t + 1 - 1).toNat = cntE P (t - 1).toNat := by
  have e : (t + 1 - 1).toNat = (t - 1).toNat + 1 := by omega
  rw [e]
  show cntE P (t - 1).toNat + @ite Int (P (((t - 1).toNat : Int) + 1)) (Classical.propDecidable _) 1 0 = _
  have e2 : (((t - 1).toNat : Nat) : Int) + 1 = t := by omega
  rw [e2, if_neg h, Int.add_zero]
theorem k_ends {M : jM} (h : jInv M) {r : Int} (n0 : -2147483648 ≤ r) (n1 : r < 2147483648) : Ret (f_X9_ends M 0 r) (fun a => Ret (f_X10_ends M 62 r) (fun b => w32 a = w32 b)) := by
  have hR := h.1.2.2.2.1
  have hT := h.1.2.2.2.2.1
  have hL : Ln M 21 (fun i => M 63 (72 + i)) (M 63 4) := hT
  have hn0 := hT.1
  have hn := hT.2.1
  unfold f_X9_ends f_X10_ends
  rw [jp_0_0, s_rowAt hR n0 n1, r_isRow hR n0 n1]
  by_cases c : 0 ≤ r ∧ r < M 63 0
  · rw [if_pos c, if_pos c]
    obtain ⟨g1, g2, g3⟩ := row_ln hR c.1 c.2
    have hq := hR.2.2.1
    refine Ret.b ⟨8 + r, rfl, Ret.g (Or.inr (kd_row c.1 (by omega))) (Ret.f (by omega) ?_)⟩
    refine Ret.bb (P := fun x => x = cntE (fun t => M 63 (58 + r) ≤ t ∧ EndsW (fun i => M 63 (72 + i)) t (fun j => M 63 (10 + 6 * r + j)) (M 63 (58 + r))) (M 63 4).toNat) ?_ (fun a ha => Ret.s (Ret.b ⟨1, rfl, Ret.f w32_1n (Ret.bb (P := fun x => x = cntE (fun t => M 63 (58 + r) ≤ t ∧ EndsW (fun i => M 63 (72 + i)) t (fun j => M 63 (10 + 6 * r + j)) (M 63 (58 + r))) (M 63 4).toNat) ?_ (fun b hb => Ret.s (by rw [ha, hb])))⟩))
    · refine Ret.it (fun S : Int × Int => 1 ≤ S.2 ∧ S.2 ≤ M 63 4 + 1 ∧ S.1 = cntE (fun t => M 63 (58 + r) ≤ t ∧ EndsW (fun i => M 63 (72 + i)) t (fun j => M 63 (10 + 6 * r + j)) (M 63 (58 + r))) (S.2 - 1).toNat) (fun S => (26 - S.2).toNat) ?_ 5000 (0, 1) ⟨by show (1 : Int) ≤ 1; omega, by show (1 : Int) ≤ _; omega, rfl⟩ (by decide)
      rintro ⟨a, t⟩ ⟨t0, t1, ha⟩
      dsimp only at t0 t1 ha
      unfold f_X9_ends_L20 f_X9_ends_54
      dsimp only
      rw [jp_0_0, jp_1_12, hL.2.2.1, w32_id (x := M 63 4) (by omega) (by omega), w32_id (x := t) (by omega) (by omega)]
      refine Ret.i (fun c2 => Rr (by rw [ha]; congr 1; omega)) (fun c2 => ?_)
      obtain ⟨v, e1, e2, e3⟩ := s_endsAt hL g1 (t := t) (by omega) (by omega)
      refine Ret.b ⟨v, e1, ?_⟩
      dsimp only
      rw [w32_id (x := v) (by omega) (by omega)]
      have mu : (26 - (t + 1)).toNat < (26 - t).toNat := by omega
      refine Ret.i (fun c3 => Rl ⟨⟨by show 1 ≤ t + 1; omega, by show t + 1 ≤ _; omega, ?_⟩, mu⟩) (fun c3 => Rl ⟨⟨by show 1 ≤ t + 1; omega, by show t + 1 ≤ _; omega, ?_⟩, mu⟩)
      · dsimp only
        rw [cntE_n t0 (fun z => by have := e3.mpr ⟨z.1, by omega, z.2⟩; omega)]; exact ha
      · dsimp only
        have z := e3.mp (by omega)
        rw [cntE_y t0 ⟨z.1, z.2.2⟩, ha]
    · refine Ret.it (fun S : Int × Int => 1 ≤ S.2 ∧ S.2 ≤ M 63 4 + 1 ∧ S.1 = cntE (fun t => M 63 (58 + r) ≤ t ∧ EndsW (fun i => M 63 (72 + i)) t (fun j => M 63 (10 + 6 * r + j)) (M 63 (58 + r))) (S.2 - 1).toNat) (fun S => (26 - S.2).toNat) ?_ 5000 (0, 1) ⟨by show (1 : Int) ≤ 1; omega, by show (1 : Int) ≤ _; omega, rfl⟩ (by decide)
      rintro ⟨a, t⟩ ⟨t0, t1, ha⟩
      dsimp only at t0 t1 ha
      unfold f_X10_ends_L14 f_X10_ends_50
      dsimp only
      rw [jp_62_1, w32_id (x := M 63 4) (by omega) (by omega), w32_id (x := t) (by omega) (by omega), w32_id (x := 58 + r) (by omega) (by omega)]
      refine Ret.i (fun c2 => Rr (by rw [ha]; congr 1; omega)) (fun c2 => Ret.g ⟨by omega, by omega⟩ ?_)
      obtain ⟨v, e1, e2, e3⟩ := r_endsWith (M := M) (fr := 72) (sz := t) (row := r) (k := M 63 (58 + r)) (by omega) (by omega) (by omega) (by omega) (by omega) (by omega) c.1 (by omega) (fun i i0 i1 => hT.2.2.2.2 i i0 (by omega)) (fun j j0 j1 => g1.2.2.2.2 j j0 j1)
      refine Ret.b ⟨v, e1, ?_⟩
      dsimp only
      rw [w32_id (x := v) (by omega) (by omega)]
      have mu : (26 - (t + 1)).toNat < (26 - t).toNat := by omega
      refine Ret.i (fun c3 => Rl ⟨⟨by show 1 ≤ t + 1; omega, by show t + 1 ≤ _; omega, ?_⟩, mu⟩) (fun c3 => Rl ⟨⟨by show 1 ≤ t + 1; omega, by show t + 1 ≤ _; omega, ?_⟩, mu⟩)
      · dsimp only
        rw [cntE_n t0 (fun z => by have := e3.mpr ⟨z.1, z.2⟩; omega)]; omega
      · dsimp only
        have z := e3.mp (by omega)
        rw [cntE_y t0 ⟨z.1, z.2⟩, ha]
  · rw [if_neg c, if_neg c]
    refine Ret.b ⟨-1, rfl, Ret.g (Or.inl (by decide)) (Ret.t (by decide) (Ret.s ?_))⟩
    exact Ret.b ⟨0, rfl, Ret.t w32_0 (Ret.s rfl)⟩
