theorem jp_0_0 : jpt 0 0 = 1 := rfl
theorem jp_0_1 : jpt 0 1 = 22 := rfl
theorem jp_0_3 : jpt 0 3 = 43 := rfl
theorem jp_0_4 : jpt 0 4 = 46 := rfl
theorem jp_0_5 : jpt 0 5 = 47 := rfl
theorem jp_0_6 : jpt 0 6 = 49 := rfl
theorem jp_0_7 : jpt 0 7 = 50 := rfl
theorem jp_0_8 : jpt 0 8 = 53 := rfl
theorem jp_0_9 : jpt 0 9 = 60 := rfl
theorem jp_1_0 : jpt 1 0 = 2 := rfl
theorem jp_1_2 : jpt 1 2 = 3 := rfl
theorem jp_1_5 : jpt 1 5 = 6 := rfl
theorem jp_1_6 : jpt 1 6 = 7 := rfl
theorem jp_1_8 : jpt 1 8 = 14 := rfl
theorem jp_1_9 : jpt 1 9 = 15 := rfl
theorem jp_1_10 : jpt 1 10 = 16 := rfl
theorem jp_1_12 : jpt 1 12 = 21 := rfl
theorem jp_60_0 : jpt 60 0 = 61 := rfl
theorem jp_62_1 : jpt 62 1 = 63 := rfl
theorem jp_62_2 : jpt 62 2 = 64 := rfl
theorem jp_62_18 : jpt 62 18 = 71 := rfl
theorem r_in (M : jM) {a b c : Int} (a0 : -2147483648 ≤ a) (a1 : a < 2147483648) (b0 : -2147483648 ≤ b) (b1 : b < 2147483648) (c0 : -2147483648 ≤ c) (c1 : c < 2147483648) : f_X10_in M a b c = some (if b ≤ a ∧ a ≤ c then 1 else 0) := by
  unfold f_X10_in
  rw [w32_id a0 a1, w32_id b0 b1, w32_id c0 c1]
  by_cases h1 : a < b
  · rw [if_pos h1, if_neg (by omega)]
  · rw [if_neg h1]
    by_cases h2 : c < a
    · rw [if_pos h2, if_neg (by omega)]
    · rw [if_neg h2, if_pos ⟨by omega, by omega⟩]
theorem k_day {M : jM} (h : jInv M) {n : Int} (n0 : -2147483648 ≤ n) (n1 : n < 2147483648) : Ret (f_X9_day M 0 n) (fun a => Ret (f_X10_day a.2 62 n) (fun b => w32 a.1 = w32 b.1 ∧ jInv b.2)) := by
  unfold f_X9_day
  rw [w32_id n0 n1, jp_0_0]
  have bad : ¬ (0 ≤ n ∧ n ≤ 9) → Ret (f_X10_day M 62 n) (fun b => w32 (-2) = w32 b.1 ∧ jInv b.2) := by
    intro c
    unfold f_X10_day
    rw [r_in M n0 n1 (by decide) (by decide) (by decide) (by decide), if_neg c]
    exact Ret.b ⟨0, rfl, Ret.t (w32_id (by decide) (by decide)) (Ret.s ⟨rfl, h⟩)⟩
  refine Ret.i (fun c => Ret.s (bad (by omega))) (fun c => Ret.i (fun c2 => Ret.l (Ret.s ?_)) (fun c2 => Ret.s (bad (by omega))))
  unfold f_X10_day
  rw [r_in _ n0 n1 (by decide) (by decide) (by decide) (by decide), if_pos ⟨by omega, by omega⟩, jp_62_1]
  refine Ret.b ⟨1, rfl, Ret.f (by rw [w32_id (by decide) (by decide)]; decide) (Ret.l (Ret.s ⟨?_, ?_⟩))⟩
  · show w32 (M 1 4) = w32 (sto M 1 4 n 63 7)
    rw [sto_ne (by omega), h.1.2.1.2.2.2.1]
  · have e : ∀ a b, ¬ (a = 63 ∧ b = 7) → ¬ (a = 1 ∧ b = 4) → sto (sto M 1 4 n) 63 7 n a b = M a b := fun a b h1 h2 => by rw [sto_ne h1, sto_ne h2]
    show jInv (sto (sto M 1 4 n) 63 7 n)
    generalize hM' : sto (sto M 1 4 n) 63 7 n = M' at e
    have e1 : M' 63 7 = n := by rw [← hM', sto_eq rfl rfl]
    have e2 : M' 1 4 = n := by rw [← hM', sto_ne (by omega), sto_eq rfl rfl]
    obtain ⟨⟨t1, t2, t3, t4, t5, t6, t7⟩, i1, i2, i3, i4⟩ := h
    refine ⟨⟨t1.fr (e _ _ (by omega) (by omega)) (e _ _ (by omega) (by omega)) (fun i _ _ => e _ _ (by omega) (by omega)) (fun i _ _ => e _ _ (by omega) (by omega)), ?_, t3.fr (e _ _ (by omega) (by omega)) (e _ _ (by omega) (by omega)) (e _ _ (by omega) (by omega)) (fun i _ _ => e _ _ (by omega) (by omega)), t4.fr (e _ _ (by omega) (by omega)) (e _ _ (by omega) (by omega)) (fun r _ _ j _ _ => e _ _ (by omega) (by omega)) (fun i _ _ => e _ _ (by omega) (by omega)) (fun i _ _ => e _ _ (by omega) (by omega)), t5.fr (e _ _ (by omega) (by omega)) (e _ _ (by omega) (by omega)) (e _ _ (by omega) (by omega)) (fun i _ _ => e _ _ (by omega) (by omega)), t6.fr (e _ _ (by omega) (by omega)) (e _ _ (by omega) (by omega)) (fun p _ _ => ⟨e _ _ (by omega) (by omega), e _ _ (by omega) (by omega), e _ _ (by omega) (by omega), e _ _ (by omega) (by omega)⟩) (fun i _ _ => e _ _ (by omega) (by omega)), t7.fr (fun j _ _ => e _ _ (by omega) (by omega)) (fun i _ _ => ⟨e _ _ (by omega) (by omega), e _ _ (by omega) (by omega)⟩) (e _ _ (by omega) (by omega)) (e _ _ (by omega) (by omega)) t2.2.2.1 (fun i _ _ => e _ _ (by omega) (by omega))⟩, ?_, ?_, ?_, ?_⟩
    · obtain ⟨q1, q2, q3, q4, q5, q6, q7⟩ := t2
      exact ⟨by rw [e _ _ (by omega) (by omega), e _ _ (by omega) (by omega)]; exact q1, by rw [e _ _ (by omega) (by omega)]; exact q2, by rw [e _ _ (by omega) (by omega)]; exact q3, by rw [e1, e2], by rw [e1]; omega, by rw [e1]; omega, by rw [e _ _ (by omega) (by omega)]; exact q7⟩
    · rw [e _ _ (by omega) (by omega), e _ _ (by omega) (by omega)]; exact i1
    · rw [e _ _ (by omega) (by omega)]
      exact i2.imp id (fun ⟨g1, g2⟩ => ⟨g1, g2.fr (fun a b _ _ => e _ _ (by omega) (by omega)) (fun b _ _ _ => e _ _ (by omega) (by omega))⟩)
    · obtain ⟨g1, g2, g3, g4⟩ := i3
      refine ⟨by rw [e _ _ (by omega) (by omega), e _ _ (by omega) (by omega)]; exact g1, by rw [e _ _ (by omega) (by omega)]; exact g2, by rw [e _ _ (by omega) (by omega)]; exact g3, fun i i0 i1 i2 => ?_⟩
      rw [e _ _ (by omega) (by omega)] at i1
      rw [e _ _ (by omega) (by omega), e _ _ (by omega) (by omega)]
      exact g4 i i0 i1 i2
    · unfold RPtrs at i4 ⊢
      rw [e _ _ (by omega) (by omega), e _ _ (by omega) (by omega), e _ _ (by omega) (by omega), e _ _ (by omega) (by omega)]
      exact i4
