theorem w32_0 : w32 0 = 0 := w32_id (by decide) (by decide)
theorem w32_1n : ¬ w32 1 = 0 := by rw [w32_id (by decide) (by decide)]; decide
/-- behind a call that leaves image, acts and pointers -/
theorem jInv.rest {M M' : jM} (h : jInv M) (ht : RelT M' 1 63) (e0 : M' 0 2 = M 0 2) (e1 : ∀ a b, 22 ≤ a → a ≤ 42 → M' a b = M a b) (e2 : ∀ b, M' 64 b = M 64 b) (e3 : ∀ a b, (a = 60 ∨ a = 61 ∨ a = 71) → M' a b = M a b) (e4 : ∀ b, (b = 3 ∨ b = 15 ∨ b = 16 ∨ b = 19) → M' 62 b = M 62 b) (e5 : M' 53 4 = M 53 4) (e6 : M' 53 5 = M 53 5) : jInv M' := by
  obtain ⟨_, i1, i2, i3, i4⟩ := h
  refine ⟨ht, by rw [e0, e4 3 (by omega)]; exact i1, ?_, ?_, ?_⟩
  · rw [e0]
    exact i2.imp id (fun ⟨g1, g2⟩ => ⟨g1, g2.fr (fun a b h1 h2 => e1 _ _ h1 h2) (fun b _ _ _ => e2 _)⟩)
  · obtain ⟨g1, g2, g3, g4⟩ := i3
    refine ⟨by rw [e3 60 1 (by omega), e4 19 (by omega)]; exact g1, by rw [e3 60 1 (by omega)]; exact g2, by rw [e3 60 1 (by omega)]; exact g3, fun i i0 i1 i2 => ?_⟩
    rw [e3 60 1 (by omega)] at i1
    rw [e3 61 i (by omega), e3 71 i (by omega)]
    exact g4 i i0 i1 i2
  · unfold RPtrs at i4 ⊢
    rw [e5, e6, e4 15 (by omega), e4 16 (by omega)]
    exact i4
theorem k_count {M : jM} (h : jInv M) {n : Int} : Ret (f_X9_count M 0 n) (fun a => Ret (f_X10_count M 62 n) (fun b => w32 a = w32 b)) := by
  obtain ⟨⟨t1, t2, t3, t4, t5, t6, t7⟩, i1, i2, i3, i4⟩ := h
  unfold f_X9_count f_X10_count
  rw [jp_0_0, jp_62_1, jp_1_5, jp_1_12, jp_0_9]
  have r0 : M 1 7 = M 63 0 := t4.1
  have r1 : M 1 11 = M 63 1 := t6.1
  have r2 : M 1 3 = M 63 2 := t2.1
  have r3 : M 6 0 = M 63 3 := t3.1.2.2.1
  have r4 : M 21 0 = M 63 4 := t5.2.2.1
  have r5 : M 1 1 = M 63 5 := t1.1
  have r6 : M 60 1 = M 62 19 := i3.1
  rw [r0, r1, r2, r3, r4, r5, r6]
  refine Ret.i (fun c => Ret.s (Ret.t c (Ret.s rfl))) (fun c0 => Ret.i (fun c => Ret.s (Ret.f c0 (Ret.t c (Ret.s rfl)))) (fun c1 => Ret.i (fun c => Ret.s (Ret.f c0 (Ret.f c1 (Ret.t c (Ret.s rfl))))) (fun c2 => Ret.i (fun c => Ret.s (Ret.f c0 (Ret.f c1 (Ret.f c2 (Ret.t c (Ret.s rfl)))))) (fun c3 => Ret.i (fun c => Ret.s (Ret.f c0 (Ret.f c1 (Ret.f c2 (Ret.f c3 (Ret.t c (Ret.s rfl))))))) (fun c4 => Ret.i (fun c => Ret.s (Ret.f c0 (Ret.f c1 (Ret.f c2 (Ret.f c3 (Ret.f c4 (Ret.t c (Ret.s rfl)))))))) (fun c5 => Ret.i (fun c => Ret.s (Ret.f c0 (Ret.f c1 (Ret.f c2 (Ret.f c3 (Ret.f c4 (Ret.f c5 (Ret.t c (Ret.s rfl))))))))) (fun c6 => Ret.s (Ret.f c0 (Ret.f c1 (Ret.f c2 (Ret.f c3 (Ret.f c4 (Ret.f c5 (Ret.f c6 (Ret.s rfl)))))))))))))))
theorem k_feed {M : jM} (h : jInv M) {n : Int} (n0 : -2147483648 ≤ n) (n1 : n < 2147483648) : Ret (f_X9_feed M 0 n) (fun a => Ret (f_X10_feed a.2 62 n) (fun b => w32 a.1 = w32 b.1 ∧ jInv b.2)) := by
  unfold f_X9_feed f_X8_addByte
  obtain ⟨q1, q2, q3, q4⟩ := h.1.1
  rw [w32_id n0 n1, jp_0_0, jp_1_0, q1, w32_id (x := M 63 5) (by omega) (by omega)]
  have bad : ¬ (0 ≤ n ∧ n ≤ 127) → Ret (f_X10_feed M 62 n) (fun b => w32 (-2) = w32 b.1 ∧ jInv b.2) := by
    intro c
    unfold f_X10_feed
    rw [r_in M n0 n1 (by decide) (by decide) (by decide) (by decide), if_neg c]
    exact Ret.b ⟨0, rfl, Ret.t w32_0 (Ret.s ⟨rfl, h⟩)⟩
  refine Ret.i (fun c => Ret.s (bad (by omega))) (fun c => Ret.i (fun c2 => ?_) (fun c2 => Ret.s (bad (by omega))))
  refine Ret.b (Ret.i (fun c3 => Ret.g ⟨q2, c3⟩ (Ret.l (Ret.l (Ret.s ?_)))) (fun c3 => Ret.s (Ret.t w32_0 (Ret.s ?_))))
  · refine Ret.f w32_1n (Ret.s ?_)
    dsimp only
    unfold f_X10_feed
    rw [r_in _ n0 n1 (by decide) (by decide) (by decide) (by decide), if_pos ⟨by omega, by omega⟩, jp_62_1]
    refine Ret.b ⟨1, rfl, Ret.f w32_1n ?_⟩
    have e : ∀ a b, ¬ (a = 1 ∧ b = 1) → ¬ (a = 2 ∧ b = M 63 5) → sto (sto M 2 (M 63 5) n) 1 1 (sto M 2 (M 63 5) n 1 1 + 1) a b = M a b := fun a b h1 h2 => by rw [sto_ne h1, sto_ne h2]
    have e1 : sto (sto M 2 (M 63 5) n) 1 1 (sto M 2 (M 63 5) n 1 1 + 1) 1 1 = M 63 5 + 1 := by rw [sto_eq rfl rfl, sto_ne (by omega), q1]
    have e2 : sto (sto M 2 (M 63 5) n) 1 1 (sto M 2 (M 63 5) n 1 1 + 1) 2 (M 63 5) = n := by rw [sto_ne (by omega), sto_eq rfl rfl]
    generalize sto (sto M 2 (M 63 5) n) 1 1 (sto M 2 (M 63 5) n 1 1 + 1) = M1 at e e1 e2 ⊢
    have e3 : M1 63 5 = M 63 5 := e _ _ (by omega) (by omega)
    rw [e3, w32_id (x := M 63 5) (by omega) (by omega), w32_id (x := 132 + M 63 5) (by omega) (by omega)]
    refine Ret.f (by omega) (Ret.g ⟨by omega, by omega⟩ (Ret.l (Ret.l (Ret.s ?_))))
    have f : ∀ a b, ¬ (a = 63 ∧ b = 5) → ¬ (a = 63 ∧ b = 132 + M 63 5) → sto (sto M1 63 (132 + M 63 5) n) 63 5 (sto M1 63 (132 + M 63 5) n 63 5 + 1) a b = M1 a b := fun a b h1 h2 => by rw [sto_ne h1, sto_ne h2]
    have f1 : sto (sto M1 63 (132 + M 63 5) n) 63 5 (sto M1 63 (132 + M 63 5) n 63 5 + 1) 63 5 = M 63 5 + 1 := by rw [sto_eq rfl rfl, sto_ne (by omega), e3]
    have f2 : sto (sto M1 63 (132 + M 63 5) n) 63 5 (sto M1 63 (132 + M 63 5) n 63 5 + 1) 63 (132 + M 63 5) = n := by rw [sto_ne (by omega), sto_eq rfl rfl]
    generalize sto (sto M1 63 (132 + M 63 5) n) 63 5 (sto M1 63 (132 + M 63 5) n 63 5 + 1) = M2 at f f1 f2 ⊢
    dsimp only
    refine ⟨by rw [e1, f1], ?_⟩
    have g : ∀ a b, ¬ (a = 63 ∧ b = 5) → ¬ (a = 63 ∧ b = 132 + M 63 5) → ¬ (a = 1 ∧ b = 1) → ¬ (a = 2 ∧ b = M 63 5) → M2 a b = M a b := fun a b h1 h2 h3 h4 => by rw [f a b h1 h2, e a b h3 h4]
    obtain ⟨t1, t2, t3, t4, t5, t6, t7⟩ := h.1
    refine h.rest ⟨?_, t2.fr (g _ _ (by omega) (by omega) (by omega) (by omega)) (g _ _ (by omega) (by omega) (by omega) (by omega)) (g _ _ (by omega) (by omega) (by omega) (by omega)) (g _ _ (by omega) (by omega) (by omega) (by omega)) (g _ _ (by omega) (by omega) (by omega) (by omega)),
      t3.fr (g _ _ (by omega) (by omega) (by omega) (by omega)) (g _ _ (by omega) (by omega) (by omega) (by omega)) (g _ _ (by omega) (by omega) (by omega) (by omega)) (fun i _ _ => g _ _ (by omega) (by omega) (by omega) (by omega)),
      t4.fr (g _ _ (by omega) (by omega) (by omega) (by omega)) (g _ _ (by omega) (by omega) (by omega) (by omega)) (fun r _ _ j _ _ => g _ _ (by omega) (by omega) (by omega) (by omega)) (fun i _ _ => g _ _ (by omega) (by omega) (by omega) (by omega)) (fun i _ _ => g _ _ (by omega) (by omega) (by omega) (by omega)),
      t5.fr (g _ _ (by omega) (by omega) (by omega) (by omega)) (g _ _ (by omega) (by omega) (by omega) (by omega)) (g _ _ (by omega) (by omega) (by omega) (by omega)) (fun i _ _ => g _ _ (by omega) (by omega) (by omega) (by omega)),
      t6.fr (g _ _ (by omega) (by omega) (by omega) (by omega)) (g _ _ (by omega) (by omega) (by omega) (by omega)) (fun p _ _ => ⟨g _ _ (by omega) (by omega) (by omega) (by omega), g _ _ (by omega) (by omega) (by omega) (by omega), g _ _ (by omega) (by omega) (by omega) (by omega), g _ _ (by omega) (by omega) (by omega) (by omega)⟩) (fun i _ _ => g _ _ (by omega) (by omega) (by omega) (by omega)),
      t7.fr (fun j _ _ => g _ _ (by omega) (by omega) (by omega) (by omega)) (fun i _ _ => ⟨g _ _ (by omega) (by omega) (by omega) (by omega), g _ _ (by omega) (by omega) (by omega) (by omega)⟩) (g _ _ (by omega) (by omega) (by omega) (by omega)) (g _ _ (by omega) (by omega) (by omega) (by omega)) t2.2.2.1 (fun i _ _ => g _ _ (by omega) (by omega) (by omega) (by omega))⟩
      (g _ _ (by omega) (by omega) (by omega) (by omega)) (fun a b _ _ => g _ _ (by omega) (by omega) (by omega) (by omega)) (fun b => g _ _ (by omega) (by omega) (by omega) (by omega)) (fun a b _ => g _ _ (by omega) (by omega) (by omega) (by omega)) (fun b _ => g _ _ (by omega) (by omega) (by omega) (by omega)) (g _ _ (by omega) (by omega) (by omega) (by omega)) (g _ _ (by omega) (by omega) (by omega) (by omega))
    refine ⟨by rw [f _ _ (by omega) (by omega), e1, f1], by rw [f1]; omega, by rw [f1]; omega, fun i i0 i1 => ?_⟩
    rw [f1] at i1
    by_cases q : i = M 63 5
    · rw [q, f2, f _ _ (by omega) (by omega)]
      exact ⟨e2, by omega, by omega⟩
    · rw [g (1 + 1) i (by omega) (by omega) (by omega) (by omega), g 63 (132 + i) (by omega) (by omega) (by omega) (by omega)]
      exact q4 i i0 (by omega)
  · dsimp only
    unfold f_X10_feed
    rw [r_in _ n0 n1 (by decide) (by decide) (by decide) (by decide), if_pos ⟨by omega, by omega⟩, jp_62_1, w32_id (x := M 63 5) (by omega) (by omega)]
    exact Ret.b ⟨1, rfl, Ret.f w32_1n (Ret.t (by omega) (Ret.s ⟨rfl, h⟩))⟩
