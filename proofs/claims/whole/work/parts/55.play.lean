theorem s_hasPlayer {M : jM} (h : RPlay M 1 63) {p : Int} (n0 : -2147483648 ≤ p) (n1 : p < 2147483648) : f_X8_hasPlayer M 1 p = some (if 0 ≤ p ∧ p < M 63 1 then 1 else 0) := by
  obtain ⟨a, b, c, -⟩ := h
  unfold f_X8_hasPlayer
  rw [w32_id n0 n1, a, w32_id (x := M 63 1) (by omega) (by omega)]
  by_cases h1 : p < 0
  · rw [if_pos h1, if_neg (by omega)]
  · rw [if_neg h1]
    by_cases h2 : M 63 1 ≤ p
    · rw [if_pos h2, if_neg (by omega)]
    · rw [if_neg h2, if_pos (by omega)]
theorem r_isPlayer {M : jM} (b : 0 ≤ M 63 1) (c : M 63 1 ≤ 4) {p : Int} (n0 : -2147483648 ≤ p) (n1 : p < 2147483648) : f_X10_isPlayer M 62 p = some (if 0 ≤ p ∧ p < M 63 1 then 1 else 0) := by
  unfold f_X10_isPlayer
  rw [jp_62_1, r_in M n0 n1 (by decide) (by decide) (by omega) (by omega)]
  show grd _ _ = _
  unfold grd
  by_cases h1 : 0 ≤ p ∧ p < M 63 1
  · rw [if_pos h1, if_pos (show 0 ≤ p ∧ p ≤ M 63 1 - 1 by omega), if_pos (Or.inr rfl)]
  · rw [if_neg h1, if_neg (show ¬ (0 ≤ p ∧ p ≤ M 63 1 - 1) by omega), if_pos (Or.inl rfl)]
theorem as_tab : ∀ K : Fin 7, ∀ k : Fin 7, (f_X10_isUnder jM0 (K.val : Int) (k.val : Int) = some 1 ∧ iter (f_X9_as_L36 jM0 0 0 (k.val : Int)) 5000 ((K.val : Int), 0) = some (Sum.inr ())) ∨ (f_X10_isUnder jM0 (K.val : Int) (k.val : Int) = some 0 ∧ iter (f_X9_as_L36 jM0 0 0 (k.val : Int)) 5000 ((K.val : Int), 0) = some (Sum.inl ())) := by decide +kernel
theorem as_tab' {M : jM} {p K k : Int} (K0 : 0 ≤ K) (K1 : K ≤ 6) (k0 : 0 ≤ k) (k1 : k ≤ 6) : (f_X10_isUnder M K k = some 1 ∧ iter (f_X9_as_L36 M 0 p k) 5000 (K, 0) = some (Sum.inr ())) ∨ (f_X10_isUnder M K k = some 0 ∧ iter (f_X9_as_L36 M 0 p k) 5000 (K, 0) = some (Sum.inl ())) := by
  have e1 : f_X10_isUnder M K k = f_X10_isUnder jM0 K k := rfl
  have e2 : f_X9_as_L36 M 0 p k = f_X9_as_L36 jM0 0 0 k := rfl
  have := as_tab ⟨K.toNat, by omega⟩ ⟨k.toNat, by omega⟩
  dsimp only at this
  rw [Int.toNat_of_nonneg K0, Int.toNat_of_nonneg k0] at this
  rw [e1, e2]
  exact this
theorem jp_8 : jpt (jpt 0 0) 8 = 14 := rfl
theorem jp_9 : jpt (jpt 0 0) 9 = 15 := rfl
theorem k_as {M : jM} (h : jInv M) {p k : Int} (n0 : -2147483648 ≤ p) (n1 : p < 2147483648) (k0 : -2147483648 ≤ k) (k1 : k < 2147483648) : Ret (f_X9_as M 0 p k) (fun a => Ret (f_X10_as M 62 p k) (fun b => w32 a = w32 b)) := by
  have hP := h.1.2.2.2.2.2.1
  obtain ⟨q1, q2, q3, q4, q5⟩ := id hP
  unfold f_X9_as f_X10_as
  rw [jp_8, jp_9, jp_0_0, jp_62_1, s_hasPlayer hP n0 n1, r_isPlayer q2 q3 n0 n1, w32_id k0 k1, w32_id n0 n1, r_in M k0 k1 (by decide) (by decide) (by decide) (by decide)]
  by_cases c : 0 ≤ p ∧ p < M 63 1
  · rw [if_pos c]
    refine Ret.b ⟨1, rfl, Ret.f w32_1n ?_⟩
    by_cases c2 : 0 ≤ k ∧ k ≤ 6
    · rw [if_pos c2]
      obtain ⟨g1, g2, g3, g4, g5, g6, g7⟩ := q4 p c.1 c.2
      refine Ret.f (by omega) (Ret.t (by omega) (Ret.g ⟨by omega, by omega⟩ ?_))
      have e1 : M 14 p = M 63 (96 + p) := g1
      have e2 : M 15 p = M 63 (100 + p) := g4
      rw [e1, e2, w32_id (x := 96 + p) (by omega) (by omega), w32_id (x := 100 + p) (by omega) (by omega)]
      rcases as_tab' (M := M) (p := p) g2 g3 c2.1 c2.2 with ⟨a1, a2⟩ | ⟨a1, a2⟩
      · rw [a2, a1]
        exact Ret.b ⟨_, rfl, Ret.g ⟨by omega, by omega⟩ (Ret.s (Ret.b ⟨_, rfl, Ret.f w32_1n (Ret.b ⟨1, rfl, Ret.f w32_1n (Ret.g ⟨by omega, by omega⟩ (Ret.b ⟨1, rfl, Ret.f w32_1n (Ret.g ⟨by omega, by omega⟩ (Ret.s rfl))⟩))⟩)⟩))⟩
      · rw [a2, a1]
        exact Ret.b ⟨_, rfl, Ret.s (Ret.b ⟨_, rfl, Ret.f w32_1n (Ret.b ⟨1, rfl, Ret.f w32_1n (Ret.g ⟨by omega, by omega⟩ (Ret.b ⟨0, rfl, Ret.t w32_0 (Ret.s rfl)⟩))⟩)⟩)⟩
    · rw [if_neg c2]
      exact Ret.i (fun c3 => Ret.s (Ret.b ⟨_, rfl, Ret.f w32_1n (Ret.b ⟨0, rfl, Ret.t w32_0 (Ret.s rfl)⟩)⟩)) (fun c3 => Ret.f (by omega) (Ret.s (Ret.b ⟨_, rfl, Ret.f w32_1n (Ret.b ⟨0, rfl, Ret.t w32_0 (Ret.s rfl)⟩)⟩)))
  · rw [if_neg c]
    exact Ret.b ⟨0, rfl, Ret.t w32_0 (Ret.s (Ret.b ⟨0, rfl, Ret.t w32_0 (Ret.s rfl)⟩))⟩

theorem k_player {M : jM} (h : jInv M) {n v : Int} (n0 : -2147483648 ≤ n) (n1 : n < 2147483648) (v0 : -2147483648 ≤ v) (v1 : v < 2147483648) : Ret (f_X9_player M 0 n v) (fun a => Ret (f_X10_player a.2 62 n v) (fun b => w32 a.1 = w32 b.1 ∧ jInv b.2)) := by
  have hP := h.1.2.2.2.2.2.1
  obtain ⟨q1, q2, q3, q4, q5⟩ := id hP
  unfold f_X9_player f_X8_addPlayer
  rw [jp_8, jp_9, jp_0_0, w32_id n0 n1, w32_id v0 v1, q1, w32_id (x := M 63 1) (by omega) (by omega)]
  have bad : ∀ w : Int, (¬ (0 ≤ n ∧ n ≤ 6) ∧ w = -1) ∨ ((0 ≤ n ∧ n ≤ 6) ∧ ¬ (0 ≤ v ∧ v ≤ 9) ∧ w = -2) ∨ ((0 ≤ n ∧ n ≤ 6) ∧ (0 ≤ v ∧ v ≤ 9) ∧ M 63 1 = 4 ∧ w = -4) → Ret (f_X10_player M 62 n v) (fun b => w32 w = w32 b.1 ∧ jInv b.2) := by
    intro w hw
    unfold f_X10_player
    rw [r_in M n0 n1 (by decide) (by decide) (by decide) (by decide), r_in M v0 v1 (by decide) (by decide) (by decide) (by decide), jp_62_1, w32_id (x := M 63 1) (by omega) (by omega)]
    rcases hw with ⟨c, rfl⟩ | ⟨c, c2, rfl⟩ | ⟨c, c2, c3, rfl⟩
    · rw [if_neg c]
      exact Ret.b ⟨0, rfl, Ret.t w32_0 (Ret.s ⟨rfl, h⟩)⟩
    · rw [if_pos c, if_neg c2]
      exact Ret.b ⟨1, rfl, Ret.f w32_1n (Ret.b ⟨0, rfl, Ret.t w32_0 (Ret.s ⟨rfl, h⟩)⟩)⟩
    · rw [if_pos c, if_pos c2]
      exact Ret.b ⟨1, rfl, Ret.f w32_1n (Ret.b ⟨1, rfl, Ret.f w32_1n (Ret.t c3 (Ret.s ⟨rfl, h⟩))⟩)⟩
  refine Ret.i (fun c => Ret.s (bad _ (Or.inl ⟨by omega, rfl⟩))) (fun c => Ret.i (fun c2 => Ret.i (fun c3 => Ret.s (bad _ (Or.inr (Or.inl ⟨by omega, by omega, rfl⟩)))) (fun c3 => Ret.i (fun c4 => ?_) (fun c4 => Ret.s (bad _ (Or.inr (Or.inl ⟨by omega, by omega, rfl⟩)))))) (fun c2 => Ret.s (bad _ (Or.inl ⟨by omega, rfl⟩))))
  refine Ret.b (Ret.i (fun c5 => Ret.g ⟨q2, c5⟩ (Ret.l (Ret.g ?_ (Ret.l (Ret.l (Ret.s ?_)))))) (fun c5 => Ret.s (Ret.t w32_0 (Ret.s ?_))))
  · rw [sto_ne (by omega), q1, w32_id (x := M 63 1) (by omega) (by omega)]
    exact ⟨q2, c5⟩
  · refine Ret.f w32_1n (Ret.s ?_)
    dsimp only
    have e0 : w32 (sto M 14 (M 63 1) n 1 11) = M 63 1 := by rw [sto_ne (by omega), q1, w32_id (x := M 63 1) (by omega) (by omega)]
    rw [e0]
    have e : ∀ a b, ¬ (a = 1 ∧ b = 11) → ¬ (a = 14 ∧ b = M 63 1) → ¬ (a = 15 ∧ b = M 63 1) → sto (sto (sto M 14 (M 63 1) n) 15 (M 63 1) v) 1 11 (sto (sto M 14 (M 63 1) n) 15 (M 63 1) v 1 11 + 1) a b = M a b := fun a b h1 h2 h3 => by rw [sto_ne h1, sto_ne h3, sto_ne h2]
    have e1 : sto (sto (sto M 14 (M 63 1) n) 15 (M 63 1) v) 1 11 (sto (sto M 14 (M 63 1) n) 15 (M 63 1) v 1 11 + 1) 1 11 = M 63 1 + 1 := by rw [sto_eq rfl rfl, sto_ne (by omega), sto_ne (by omega), q1]
    have e2 : sto (sto (sto M 14 (M 63 1) n) 15 (M 63 1) v) 1 11 (sto (sto M 14 (M 63 1) n) 15 (M 63 1) v 1 11 + 1) 14 (M 63 1) = n := by rw [sto_ne (by omega), sto_ne (by omega), sto_eq rfl rfl]
    have e3 : sto (sto (sto M 14 (M 63 1) n) 15 (M 63 1) v) 1 11 (sto (sto M 14 (M 63 1) n) 15 (M 63 1) v 1 11 + 1) 15 (M 63 1) = v := by rw [sto_ne (by omega), sto_eq rfl rfl]
    generalize sto (sto (sto M 14 (M 63 1) n) 15 (M 63 1) v) 1 11 (sto (sto M 14 (M 63 1) n) 15 (M 63 1) v 1 11 + 1) = M1 at e e1 e2 e3 ⊢
    unfold f_X10_player
    have e4 : M1 63 1 = M 63 1 := e _ _ (by omega) (by omega) (by omega)
    rw [r_in _ n0 n1 (by decide) (by decide) (by decide) (by decide), r_in _ v0 v1 (by decide) (by decide) (by decide) (by decide), if_pos ⟨by omega, by omega⟩, if_pos ⟨by omega, by omega⟩, jp_62_1, e4, w32_id (x := M 63 1) (by omega) (by omega), w32_id (x := 96 + M 63 1) (by omega) (by omega), w32_id (x := 100 + M 63 1) (by omega) (by omega), w32_id (x := 128 + M 63 1) (by omega) (by omega)]
    refine Ret.b ⟨1, rfl, Ret.f w32_1n (Ret.b ⟨1, rfl, Ret.f w32_1n (Ret.f (by omega) (Ret.g ⟨by omega, by omega⟩ (Ret.l (Ret.g ⟨by omega, by omega⟩ (Ret.l (Ret.g ⟨by omega, by omega⟩ (Ret.l (Ret.l (Ret.s ?_)))))))))⟩)⟩
    have f : ∀ a b, ¬ (a = 63 ∧ (b = 1 ∨ b = 96 + M 63 1 ∨ b = 100 + M 63 1 ∨ b = 128 + M 63 1)) → sto (sto (sto (sto M1 63 (96 + M 63 1) n) 63 (100 + M 63 1) v) 63 (128 + M 63 1) 0) 63 1 (sto (sto (sto M1 63 (96 + M 63 1) n) 63 (100 + M 63 1) v) 63 (128 + M 63 1) 0 63 1 + 1) a b = M1 a b := fun a b h1 => by rw [sto_ne (by omega), sto_ne (by omega), sto_ne (by omega), sto_ne (by omega)]
    have f1 : sto (sto (sto (sto M1 63 (96 + M 63 1) n) 63 (100 + M 63 1) v) 63 (128 + M 63 1) 0) 63 1 (sto (sto (sto M1 63 (96 + M 63 1) n) 63 (100 + M 63 1) v) 63 (128 + M 63 1) 0 63 1 + 1) 63 1 = M 63 1 + 1 := by rw [sto_eq rfl rfl, sto_ne (by omega), sto_ne (by omega), sto_ne (by omega), e4]
    have f2 : sto (sto (sto (sto M1 63 (96 + M 63 1) n) 63 (100 + M 63 1) v) 63 (128 + M 63 1) 0) 63 1 (sto (sto (sto M1 63 (96 + M 63 1) n) 63 (100 + M 63 1) v) 63 (128 + M 63 1) 0 63 1 + 1) 63 (96 + M 63 1) = n := by rw [sto_ne (by omega), sto_ne (by omega), sto_ne (by omega), sto_eq rfl rfl]
    have f3 : sto (sto (sto (sto M1 63 (96 + M 63 1) n) 63 (100 + M 63 1) v) 63 (128 + M 63 1) 0) 63 1 (sto (sto (sto M1 63 (96 + M 63 1) n) 63 (100 + M 63 1) v) 63 (128 + M 63 1) 0 63 1 + 1) 63 (100 + M 63 1) = v := by rw [sto_ne (by omega), sto_ne (by omega), sto_eq rfl rfl]
    have f4 : sto (sto (sto (sto M1 63 (96 + M 63 1) n) 63 (100 + M 63 1) v) 63 (128 + M 63 1) 0) 63 1 (sto (sto (sto M1 63 (96 + M 63 1) n) 63 (100 + M 63 1) v) 63 (128 + M 63 1) 0 63 1 + 1) 63 (128 + M 63 1) = 0 := by rw [sto_ne (by omega), sto_eq rfl rfl]
    generalize sto (sto (sto (sto M1 63 (96 + M 63 1) n) 63 (100 + M 63 1) v) 63 (128 + M 63 1) 0) 63 1 (sto (sto (sto M1 63 (96 + M 63 1) n) 63 (100 + M 63 1) v) 63 (128 + M 63 1) 0 63 1 + 1) = M2 at f f1 f2 f3 f4 ⊢
    dsimp only
    refine ⟨by rw [e1]; congr 1; omega, ?_⟩
    have g0 : ∀ a b, ¬ (a = 63 ∧ (b = 1 ∨ b = 96 + M 63 1 ∨ b = 100 + M 63 1 ∨ b = 128 + M 63 1)) → ¬ (a = 1 ∧ b = 11) → ¬ ((a = 14 ∨ a = 15) ∧ b = M 63 1) → M2 a b = M a b := fun a b h1 h2 h3 => by rw [f a b h1, e a b h2 (by omega) (by omega)]
    have g : ∀ a b, ¬ (a = 63 ∧ (b = 1 ∨ (96 ≤ b ∧ b < 132))) → ¬ (a = 1 ∧ b = 11) → ¬ (a = 14 ∨ a = 15) → M2 a b = M a b := fun a b h1 h2 h3 => g0 a b (by omega) h2 (by omega)
    obtain ⟨t1, t2, t3, t4, t5, t6, t7⟩ := h.1
    refine h.rest ⟨t1.fr (g _ _ (by omega) (by omega) (by omega)) (g _ _ (by omega) (by omega) (by omega)) (fun i _ _ => g _ _ (by omega) (by omega) (by omega)) (fun i _ _ => g _ _ (by omega) (by omega) (by omega)), t2.fr (g _ _ (by omega) (by omega) (by omega)) (g _ _ (by omega) (by omega) (by omega)) (g _ _ (by omega) (by omega) (by omega)) (g _ _ (by omega) (by omega) (by omega)) (g _ _ (by omega) (by omega) (by omega)), t3.fr (g _ _ (by omega) (by omega) (by omega)) (g _ _ (by omega) (by omega) (by omega)) (g _ _ (by omega) (by omega) (by omega)) (fun i _ _ => g _ _ (by omega) (by omega) (by omega)), t4.fr (g _ _ (by omega) (by omega) (by omega)) (g _ _ (by omega) (by omega) (by omega)) (fun r _ _ j _ _ => g _ _ (by omega) (by omega) (by omega)) (fun i _ _ => g _ _ (by omega) (by omega) (by omega)) (fun i _ _ => g _ _ (by omega) (by omega) (by omega)), t5.fr (g _ _ (by omega) (by omega) (by omega)) (g _ _ (by omega) (by omega) (by omega)) (g _ _ (by omega) (by omega) (by omega)) (fun i _ _ => g _ _ (by omega) (by omega) (by omega)), ?_, t7.fr (fun j _ _ => g _ _ (by omega) (by omega) (by omega)) (fun i _ _ => ⟨g _ _ (by omega) (by omega) (by omega), g _ _ (by omega) (by omega) (by omega)⟩) (g _ _ (by omega) (by omega) (by omega)) (g _ _ (by omega) (by omega) (by omega)) t2.2.2.1 (fun i _ _ => g _ _ (by omega) (by omega) (by omega))⟩ (g _ _ (by omega) (by omega) (by omega)) (fun a b _ _ => g _ _ (by omega) (by omega) (by omega)) (fun b => g _ _ (by omega) (by omega) (by omega)) (fun a b _ => g _ _ (by omega) (by omega) (by omega)) (fun b _ => g _ _ (by omega) (by omega) (by omega)) (g _ _ (by omega) (by omega) (by omega)) (g _ _ (by omega) (by omega) (by omega))
    refine ⟨by rw [f _ _ (by omega), e1, f1], by rw [f1]; omega, by rw [f1]; omega, fun p p0 p1 => ?_, fun p p0 p1 => ?_⟩
    · rw [f1] at p1
      by_cases c : p = M 63 1
      · obtain ⟨z0, z1⟩ := q5 p (by omega) (by omega)
        rw [c] at z0 z1 ⊢
        rw [f2, f3, f4]
        refine ⟨by rw [f _ _ (by omega)]; exact e2, by omega, by omega, by rw [f _ _ (by omega)]; exact e3, by omega, by omega, Ln.zero ?_ ?_, by omega⟩
        · rw [g0 _ _ (by omega) (by omega) (by omega)]; exact z0
        · rw [g0 _ _ (by omega) (by omega) (by omega)]; exact z1
      · obtain ⟨z1, z2, z3, z4, z5, z6, z7, z8⟩ := q4 p p0 (by omega)
        rw [g0 63 (96 + p) (by omega) (by omega) (by omega), g0 63 (100 + p) (by omega) (by omega) (by omega), g0 63 (128 + p) (by omega) (by omega) (by omega), g0 (1 + 13) p (by omega) (by omega) (by omega), g0 (1 + 14) p (by omega) (by omega) (by omega)]
        exact ⟨z1, z2, z3, z4, z5, z6, z7.fr (g0 _ _ (by omega) (by omega) (by omega)) (g0 _ _ (by omega) (by omega) (by omega)) (fun i i0 i1 => g0 _ _ (by omega) (by omega) (by omega)), z8⟩
    · rw [f1] at p0
      obtain ⟨z0, z1⟩ := q5 p (by omega) p1
      rw [g0 _ _ (by omega) (by omega) (by omega), g0 _ _ (by omega) (by omega) (by omega)]
      exact ⟨z0, z1⟩
  · exact bad _ (Or.inr (Or.inr ⟨by omega, by omega, by omega, rfl⟩))
