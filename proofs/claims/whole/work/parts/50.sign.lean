set_option maxHeartbeats 1000000 in
theorem k_sign {M : jM} (h : jInv M) {n : Int} (n0 : -2147483648 ≤ n) (n1 : n < 2147483648) : Ret (f_X9_sign M 0 n) (fun a => Ret (f_X10_sign a.2 62 n) (fun b => w32 a.1 = w32 b.1 ∧ jInv b.2)) := by
  unfold f_X9_sign
  have hL : RelLn M 6 63 66 (M 63 3) := h.1.2.2.1.1
  have hm : M 63 3 ≤ 6 := h.1.2.2.1.2
  have hc0 : 0 ≤ M 63 3 := hL.1
  rw [w32_id n0 n1, jp_0_0, jp_1_5]
  have bad : n < -1 ∨ 3 ≤ n → Ret (f_X10_sign M 62 n) (fun b => w32 (-2) = w32 b.1 ∧ jInv b.2) := by
    intro c
    unfold f_X10_sign
    rw [r_in M n0 n1 (by decide) (by decide) (by decide) (by decide), w32_id n0 n1, if_neg (show ¬ n = -1 by omega), if_neg (show ¬ (0 ≤ n ∧ n ≤ 2) by omega)]
    exact Ret.b ⟨0, rfl, Ret.t w32_0 (Ret.s ⟨rfl, h⟩)⟩
  refine Ret.i (fun c => Ret.s (bad (by omega))) (fun c => Ret.i (fun c2 => ?_) (fun c2 => Ret.s (bad (by omega))))
  refine Ret.bb (s_lengthen hL (most := 6) (by omega) (by omega) (s := n) (by omega) (by omega)) ?_
  rintro ⟨r, M1⟩ ⟨e, hr⟩
  dsimp only at e hr
  refine Ret.s ?_
  dsimp only
  obtain ⟨t1, t2, t3, t4, t5, t6, t7⟩ := h.1
  unfold f_X10_sign
  have e3 : M1 63 3 = M 63 3 := e _ _ (by omega)
  rw [jp_62_1, w32_id n0 n1, e3, w32_id (x := M 63 3) (by omega) (by omega), w32_id (x := 66 + M 63 3) (by omega) (by omega)]
  rcases hr with ⟨r1, r2, r3, r4⟩ | ⟨r1, r2, r3, r4, r5⟩ | ⟨r1, r2, r3, r4⟩
  · refine Ret.t r1 (Ret.l (Ret.s ⟨by rw [r2], ?_⟩))
    dsimp only
    have f : ∀ a b, ¬ (a = 63 ∧ b = 3) → sto M1 63 3 0 a b = M1 a b := fun a b h1 => by rw [sto_ne h1]
    have f1 : sto M1 63 3 0 63 3 = 0 := by rw [sto_eq rfl rfl]
    generalize sto M1 63 3 0 = M2 at f f1 ⊢
    have g : ∀ a b, ¬ (a = 63 ∧ b = 3) → ¬ (a = 6 ∧ b = 0) → ¬ (a = 6 ∧ b = 1) → M2 a b = M a b := fun a b h1 h2 h3 => by rw [f a b h1, e a b (by omega)]
    have hz : RelLn M2 6 63 66 (M2 63 3) := by
      rw [f1]
      exact Ln.zero (by rw [f _ _ (by omega)]; exact r3) (by rw [f _ _ (by omega)]; exact r4)
    exact h.rest ⟨t1.fr (g _ _ (by omega) (by omega) (by omega)) (g _ _ (by omega) (by omega) (by omega)) (fun i _ _ => g _ _ (by omega) (by omega) (by omega)) (fun i _ _ => g _ _ (by omega) (by omega) (by omega)), t2.fr (g _ _ (by omega) (by omega) (by omega)) (g _ _ (by omega) (by omega) (by omega)) (g _ _ (by omega) (by omega) (by omega)) (g _ _ (by omega) (by omega) (by omega)) (g _ _ (by omega) (by omega) (by omega)), ⟨hz, by rw [f1]; omega⟩, t4.fr (g _ _ (by omega) (by omega) (by omega)) (g _ _ (by omega) (by omega) (by omega)) (fun r _ _ j _ _ => g _ _ (by omega) (by omega) (by omega)) (fun i _ _ => g _ _ (by omega) (by omega) (by omega)) (fun i _ _ => g _ _ (by omega) (by omega) (by omega)), t5.fr (g _ _ (by omega) (by omega) (by omega)) (g _ _ (by omega) (by omega) (by omega)) (g _ _ (by omega) (by omega) (by omega)) (fun i _ _ => g _ _ (by omega) (by omega) (by omega)), t6.fr (g _ _ (by omega) (by omega) (by omega)) (g _ _ (by omega) (by omega) (by omega)) (fun p _ _ => ⟨g _ _ (by omega) (by omega) (by omega), g _ _ (by omega) (by omega) (by omega), g _ _ (by omega) (by omega) (by omega), g _ _ (by omega) (by omega) (by omega)⟩) (fun i _ _ => g _ _ (by omega) (by omega) (by omega)), t7.fr (fun j _ _ => g _ _ (by omega) (by omega) (by omega)) (fun i _ _ => ⟨g _ _ (by omega) (by omega) (by omega), g _ _ (by omega) (by omega) (by omega)⟩) (g _ _ (by omega) (by omega) (by omega)) (g _ _ (by omega) (by omega) (by omega)) t2.2.2.1 (fun i _ _ => g _ _ (by omega) (by omega) (by omega))⟩ (g _ _ (by omega) (by omega) (by omega)) (fun a b _ _ => g _ _ (by omega) (by omega) (by omega)) (fun b => g _ _ (by omega) (by omega) (by omega)) (fun a b _ => g _ _ (by omega) (by omega) (by omega)) (fun b _ => g _ _ (by omega) (by omega) (by omega)) (g _ _ (by omega) (by omega) (by omega)) (g _ _ (by omega) (by omega) (by omega))
  · refine Ret.f (by omega) ?_
    rw [r_in _ n0 n1 (by decide) (by decide) (by decide) (by decide), if_pos ⟨by omega, by omega⟩]
    refine Ret.b ⟨1, rfl, Ret.f w32_1n (Ret.f (by omega) (Ret.g ⟨by omega, by omega⟩ (Ret.l (Ret.l (Ret.s ?_)))))⟩
    have f : ∀ a b, ¬ (a = 63 ∧ b = 3) → ¬ (a = 63 ∧ b = 66 + M 63 3) → sto (sto M1 63 (66 + M 63 3) n) 63 3 (sto M1 63 (66 + M 63 3) n 63 3 + 1) a b = M1 a b := fun a b h1 h2 => by rw [sto_ne h1, sto_ne h2]
    have f1 : sto (sto M1 63 (66 + M 63 3) n) 63 3 (sto M1 63 (66 + M 63 3) n 63 3 + 1) 63 3 = M 63 3 + 1 := by rw [sto_eq rfl rfl, sto_ne (by omega), e3]
    have f2 : sto (sto M1 63 (66 + M 63 3) n) 63 3 (sto M1 63 (66 + M 63 3) n 63 3 + 1) 63 (66 + M 63 3) = n := by rw [sto_ne (by omega), sto_eq rfl rfl]
    generalize sto (sto M1 63 (66 + M 63 3) n) 63 3 (sto M1 63 (66 + M 63 3) n 63 3 + 1) = M2 at f f1 f2 ⊢
    dsimp only
    have g0 : ∀ a b, ¬ (a = 63 ∧ (b = 3 ∨ b = 66 + M 63 3)) → ¬ (a = 6 ∧ b = 0) → ¬ (a = 6 ∧ b = 1) → M2 a b = M a b := fun a b h1 h2 h3 => by rw [f a b (by omega) (by omega), e a b (by omega)]
    have g : ∀ a b, ¬ (a = 63 ∧ (b = 3 ∨ (66 ≤ b ∧ b < 66 + 6))) → ¬ (a = 6 ∧ b = 0) → ¬ (a = 6 ∧ b = 1) → M2 a b = M a b := fun a b h1 h2 h3 => g0 a b (by omega) h2 h3
    refine ⟨by rw [r3, f1], ?_⟩
    have hz : RelLn M2 6 63 66 (M2 63 3) := by
      rw [f1]
      exact Ln.more hL (by omega) r1 (by omega) (by rw [f _ _ (by omega) (by omega)]; exact r4) (by rw [f _ _ (by omega) (by omega)]; exact r5) (fun i i0 i1 => g0 _ _ (by omega) (by omega) (by omega)) f2
    exact h.rest ⟨t1.fr (g _ _ (by omega) (by omega) (by omega)) (g _ _ (by omega) (by omega) (by omega)) (fun i _ _ => g _ _ (by omega) (by omega) (by omega)) (fun i _ _ => g _ _ (by omega) (by omega) (by omega)), t2.fr (g _ _ (by omega) (by omega) (by omega)) (g _ _ (by omega) (by omega) (by omega)) (g _ _ (by omega) (by omega) (by omega)) (g _ _ (by omega) (by omega) (by omega)) (g _ _ (by omega) (by omega) (by omega)), ⟨hz, by rw [f1]; omega⟩, t4.fr (g _ _ (by omega) (by omega) (by omega)) (g _ _ (by omega) (by omega) (by omega)) (fun r _ _ j _ _ => g _ _ (by omega) (by omega) (by omega)) (fun i _ _ => g _ _ (by omega) (by omega) (by omega)) (fun i _ _ => g _ _ (by omega) (by omega) (by omega)), t5.fr (g _ _ (by omega) (by omega) (by omega)) (g _ _ (by omega) (by omega) (by omega)) (g _ _ (by omega) (by omega) (by omega)) (fun i _ _ => g _ _ (by omega) (by omega) (by omega)), t6.fr (g _ _ (by omega) (by omega) (by omega)) (g _ _ (by omega) (by omega) (by omega)) (fun p _ _ => ⟨g _ _ (by omega) (by omega) (by omega), g _ _ (by omega) (by omega) (by omega), g _ _ (by omega) (by omega) (by omega), g _ _ (by omega) (by omega) (by omega)⟩) (fun i _ _ => g _ _ (by omega) (by omega) (by omega)), t7.fr (fun j _ _ => g _ _ (by omega) (by omega) (by omega)) (fun i _ _ => ⟨g _ _ (by omega) (by omega) (by omega), g _ _ (by omega) (by omega) (by omega)⟩) (g _ _ (by omega) (by omega) (by omega)) (g _ _ (by omega) (by omega) (by omega)) t2.2.2.1 (fun i _ _ => g _ _ (by omega) (by omega) (by omega))⟩ (g _ _ (by omega) (by omega) (by omega)) (fun a b _ _ => g _ _ (by omega) (by omega) (by omega)) (fun b => g _ _ (by omega) (by omega) (by omega)) (fun a b _ => g _ _ (by omega) (by omega) (by omega)) (fun b _ => g _ _ (by omega) (by omega) (by omega)) (g _ _ (by omega) (by omega) (by omega)) (g _ _ (by omega) (by omega) (by omega))
  · rw [r4]
    refine Ret.f (by omega) ?_
    rw [r_in _ n0 n1 (by decide) (by decide) (by decide) (by decide), if_pos ⟨by omega, by omega⟩]
    exact Ret.b ⟨1, rfl, Ret.f w32_1n (Ret.t (by omega) (Ret.s ⟨by rw [r3], h⟩))⟩
set_option maxHeartbeats 1000000 in
theorem k_toss {M : jM} (h : jInv M) {n : Int} (n0 : -2147483648 ≤ n) (n1 : n < 2147483648) : Ret (f_X9_toss M 0 n) (fun a => Ret (f_X10_toss a.2 62 n) (fun b => w32 a.1 = w32 b.1 ∧ jInv b.2)) := by
  unfold f_X9_toss
  have hL : RelLn M 21 63 72 (M 63 4) := h.1.2.2.2.2.1
  have hm : M 63 4 ≤ 24 := hL.2.1
  have hc0 : 0 ≤ M 63 4 := hL.1
  rw [w32_id n0 n1, jp_0_0, jp_1_12]
  have bad : n < -1 ∨ 3 ≤ n → Ret (f_X10_toss M 62 n) (fun b => w32 (-2) = w32 b.1 ∧ jInv b.2) := by
    intro c
    unfold f_X10_toss
    rw [r_in M n0 n1 (by decide) (by decide) (by decide) (by decide), w32_id n0 n1, if_neg (show ¬ n = -1 by omega), if_neg (show ¬ (0 ≤ n ∧ n ≤ 2) by omega)]
    exact Ret.b ⟨0, rfl, Ret.t w32_0 (Ret.s ⟨rfl, h⟩)⟩
  refine Ret.i (fun c => Ret.s (bad (by omega))) (fun c => Ret.i (fun c2 => ?_) (fun c2 => Ret.s (bad (by omega))))
  refine Ret.bb (s_lengthen hL (most := 24) (by omega) (by omega) (s := n) (by omega) (by omega)) ?_
  rintro ⟨r, M1⟩ ⟨e, hr⟩
  dsimp only at e hr
  refine Ret.s ?_
  dsimp only
  obtain ⟨t1, t2, t3, t4, t5, t6, t7⟩ := h.1
  unfold f_X10_toss
  have e3 : M1 63 4 = M 63 4 := e _ _ (by omega)
  rw [jp_62_1, w32_id n0 n1, e3, w32_id (x := M 63 4) (by omega) (by omega), w32_id (x := 72 + M 63 4) (by omega) (by omega)]
  rcases hr with ⟨r1, r2, r3, r4⟩ | ⟨r1, r2, r3, r4, r5⟩ | ⟨r1, r2, r3, r4⟩
  · refine Ret.t r1 (Ret.l (Ret.s ⟨by rw [r2], ?_⟩))
    dsimp only
    have f : ∀ a b, ¬ (a = 63 ∧ b = 4) → sto M1 63 4 0 a b = M1 a b := fun a b h1 => by rw [sto_ne h1]
    have f1 : sto M1 63 4 0 63 4 = 0 := by rw [sto_eq rfl rfl]
    generalize sto M1 63 4 0 = M2 at f f1 ⊢
    have g : ∀ a b, ¬ (a = 63 ∧ b = 4) → ¬ (a = 21 ∧ b = 0) → ¬ (a = 21 ∧ b = 1) → M2 a b = M a b := fun a b h1 h2 h3 => by rw [f a b h1, e a b (by omega)]
    have hz : RelLn M2 21 63 72 (M2 63 4) := by
      rw [f1]
      exact Ln.zero (by rw [f _ _ (by omega)]; exact r3) (by rw [f _ _ (by omega)]; exact r4)
    exact h.rest ⟨t1.fr (g _ _ (by omega) (by omega) (by omega)) (g _ _ (by omega) (by omega) (by omega)) (fun i _ _ => g _ _ (by omega) (by omega) (by omega)) (fun i _ _ => g _ _ (by omega) (by omega) (by omega)), t2.fr (g _ _ (by omega) (by omega) (by omega)) (g _ _ (by omega) (by omega) (by omega)) (g _ _ (by omega) (by omega) (by omega)) (g _ _ (by omega) (by omega) (by omega)) (g _ _ (by omega) (by omega) (by omega)), t3.fr (g _ _ (by omega) (by omega) (by omega)) (g _ _ (by omega) (by omega) (by omega)) (g _ _ (by omega) (by omega) (by omega)) (fun i _ _ => g _ _ (by omega) (by omega) (by omega)), t4.fr (g _ _ (by omega) (by omega) (by omega)) (g _ _ (by omega) (by omega) (by omega)) (fun r _ _ j _ _ => g _ _ (by omega) (by omega) (by omega)) (fun i _ _ => g _ _ (by omega) (by omega) (by omega)) (fun i _ _ => g _ _ (by omega) (by omega) (by omega)), hz, t6.fr (g _ _ (by omega) (by omega) (by omega)) (g _ _ (by omega) (by omega) (by omega)) (fun p _ _ => ⟨g _ _ (by omega) (by omega) (by omega), g _ _ (by omega) (by omega) (by omega), g _ _ (by omega) (by omega) (by omega), g _ _ (by omega) (by omega) (by omega)⟩) (fun i _ _ => g _ _ (by omega) (by omega) (by omega)), t7.fr (fun j _ _ => g _ _ (by omega) (by omega) (by omega)) (fun i _ _ => ⟨g _ _ (by omega) (by omega) (by omega), g _ _ (by omega) (by omega) (by omega)⟩) (g _ _ (by omega) (by omega) (by omega)) (g _ _ (by omega) (by omega) (by omega)) t2.2.2.1 (fun i _ _ => g _ _ (by omega) (by omega) (by omega))⟩ (g _ _ (by omega) (by omega) (by omega)) (fun a b _ _ => g _ _ (by omega) (by omega) (by omega)) (fun b => g _ _ (by omega) (by omega) (by omega)) (fun a b _ => g _ _ (by omega) (by omega) (by omega)) (fun b _ => g _ _ (by omega) (by omega) (by omega)) (g _ _ (by omega) (by omega) (by omega)) (g _ _ (by omega) (by omega) (by omega))
  · refine Ret.f (by omega) ?_
    rw [r_in _ n0 n1 (by decide) (by decide) (by decide) (by decide), if_pos ⟨by omega, by omega⟩]
    refine Ret.b ⟨1, rfl, Ret.f w32_1n (Ret.f (by omega) (Ret.g ⟨by omega, by omega⟩ (Ret.l (Ret.l (Ret.s ?_)))))⟩
    have f : ∀ a b, ¬ (a = 63 ∧ b = 4) → ¬ (a = 63 ∧ b = 72 + M 63 4) → sto (sto M1 63 (72 + M 63 4) n) 63 4 (sto M1 63 (72 + M 63 4) n 63 4 + 1) a b = M1 a b := fun a b h1 h2 => by rw [sto_ne h1, sto_ne h2]
    have f1 : sto (sto M1 63 (72 + M 63 4) n) 63 4 (sto M1 63 (72 + M 63 4) n 63 4 + 1) 63 4 = M 63 4 + 1 := by rw [sto_eq rfl rfl, sto_ne (by omega), e3]
    have f2 : sto (sto M1 63 (72 + M 63 4) n) 63 4 (sto M1 63 (72 + M 63 4) n 63 4 + 1) 63 (72 + M 63 4) = n := by rw [sto_ne (by omega), sto_eq rfl rfl]
    generalize sto (sto M1 63 (72 + M 63 4) n) 63 4 (sto M1 63 (72 + M 63 4) n 63 4 + 1) = M2 at f f1 f2 ⊢
    dsimp only
    have g0 : ∀ a b, ¬ (a = 63 ∧ (b = 4 ∨ b = 72 + M 63 4)) → ¬ (a = 21 ∧ b = 0) → ¬ (a = 21 ∧ b = 1) → M2 a b = M a b := fun a b h1 h2 h3 => by rw [f a b (by omega) (by omega), e a b (by omega)]
    have g : ∀ a b, ¬ (a = 63 ∧ (b = 4 ∨ (72 ≤ b ∧ b < 72 + 24))) → ¬ (a = 21 ∧ b = 0) → ¬ (a = 21 ∧ b = 1) → M2 a b = M a b := fun a b h1 h2 h3 => g0 a b (by omega) h2 h3
    refine ⟨by rw [r3, f1], ?_⟩
    have hz : RelLn M2 21 63 72 (M2 63 4) := by
      rw [f1]
      exact Ln.more hL (by omega) r1 (by omega) (by rw [f _ _ (by omega) (by omega)]; exact r4) (by rw [f _ _ (by omega) (by omega)]; exact r5) (fun i i0 i1 => g0 _ _ (by omega) (by omega) (by omega)) f2
    exact h.rest ⟨t1.fr (g _ _ (by omega) (by omega) (by omega)) (g _ _ (by omega) (by omega) (by omega)) (fun i _ _ => g _ _ (by omega) (by omega) (by omega)) (fun i _ _ => g _ _ (by omega) (by omega) (by omega)), t2.fr (g _ _ (by omega) (by omega) (by omega)) (g _ _ (by omega) (by omega) (by omega)) (g _ _ (by omega) (by omega) (by omega)) (g _ _ (by omega) (by omega) (by omega)) (g _ _ (by omega) (by omega) (by omega)), t3.fr (g _ _ (by omega) (by omega) (by omega)) (g _ _ (by omega) (by omega) (by omega)) (g _ _ (by omega) (by omega) (by omega)) (fun i _ _ => g _ _ (by omega) (by omega) (by omega)), t4.fr (g _ _ (by omega) (by omega) (by omega)) (g _ _ (by omega) (by omega) (by omega)) (fun r _ _ j _ _ => g _ _ (by omega) (by omega) (by omega)) (fun i _ _ => g _ _ (by omega) (by omega) (by omega)) (fun i _ _ => g _ _ (by omega) (by omega) (by omega)), hz, t6.fr (g _ _ (by omega) (by omega) (by omega)) (g _ _ (by omega) (by omega) (by omega)) (fun p _ _ => ⟨g _ _ (by omega) (by omega) (by omega), g _ _ (by omega) (by omega) (by omega), g _ _ (by omega) (by omega) (by omega), g _ _ (by omega) (by omega) (by omega)⟩) (fun i _ _ => g _ _ (by omega) (by omega) (by omega)), t7.fr (fun j _ _ => g _ _ (by omega) (by omega) (by omega)) (fun i _ _ => ⟨g _ _ (by omega) (by omega) (by omega), g _ _ (by omega) (by omega) (by omega)⟩) (g _ _ (by omega) (by omega) (by omega)) (g _ _ (by omega) (by omega) (by omega)) t2.2.2.1 (fun i _ _ => g _ _ (by omega) (by omega) (by omega))⟩ (g _ _ (by omega) (by omega) (by omega)) (fun a b _ _ => g _ _ (by omega) (by omega) (by omega)) (fun b => g _ _ (by omega) (by omega) (by omega)) (fun a b _ => g _ _ (by omega) (by omega) (by omega)) (fun b _ => g _ _ (by omega) (by omega) (by omega)) (g _ _ (by omega) (by omega) (by omega)) (g _ _ (by omega) (by omega) (by omega))
  · rw [r4]
    refine Ret.f (by omega) ?_
    rw [r_in _ n0 n1 (by decide) (by decide) (by decide) (by decide), if_pos ⟨by omega, by omega⟩]
    exact Ret.b ⟨1, rfl, Ret.f w32_1n (Ret.t (by omega) (Ret.s ⟨by rw [r3], h⟩))⟩
