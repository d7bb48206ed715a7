theorem jInv.h3 {M : jM} (h : jInv M) {wh no x : Int} (hx : (wh = 237 ∧ no = 1 ∧ x = M 3 1) ∨ (wh = 242 ∧ no = 10 ∧ x = M 3 2)) : (if M 63 6 = -1 then no else M 63 (wh + M 63 6)) = x := by
  rcases h.1.2.2.2.2.2.2 with ⟨a, b, c, d, e⟩ | ⟨a1, a2, a3, a4, a5, a6, a7, a8, a9, _⟩
  · rw [if_pos a]
    have c : M 3 1 = 1 := c
    have d : M 3 2 = 10 := d
    omega
  · rw [if_neg (by omega)]
    have a6 : M 3 1 = M 63 (237 + M 63 6) := a6
    have a9 : M 3 2 = M 63 (242 + M 63 6) := a9
    rcases hx with ⟨rfl, _, rfl⟩ | ⟨rfl, _, rfl⟩
    · exact a6.symm
    · exact a9.symm
set_option maxHeartbeats 1000000 in
theorem k_told {M : jM} (h : jInv M) {n : Int} (n0 : -2147483648 ≤ n) (n1 : n < 2147483648) : Ret (f_X9_told M 0 n) (fun a => Ret (f_X10_told a.2 62 n) (fun b => w32 a.1 = w32 b.1 ∧ jInv b.2)) := by
  obtain ⟨g0, g1, hv0, hv1, hl, -, -, -, -, hdy, d0, d1, h8⟩ := h.st
  unfold f_X9_told
  refine Ret.bb (s_weigh h Fr.rfl) (fun M1 h1 => ?_)
  obtain ⟨e1, s1, s2, s3⟩ := h1
  have f1 := e1.fr Fr.rfl
  have p1 := e1.pt Pt.rfl
  rw [jp_0_0, jp_0_5, jp_1_2, w32_id n0 n1, s1, s2, f1 3 1 (kp_lo (by decide)), f1 3 2 (kp_lo (by decide)), f1 1 4 (kp_lo (by decide)), w32_id (x := M 3 0) (by omega) (by omega)]
  have h8' : M1 63 8 = 0 := by rw [f1 63 8 (kp_63 (by omega) (by omega) (by omega))]; exact h8
  have ref : ∀ v : Int, (n = 0 → v = M 3 0) → (n = 1 → v = M 3 1) → (n = 2 → v = M 3 2) → (n = 3 → v = M 1 4) → (n = 4 → v = aOf M) → (¬ (0 ≤ n ∧ n ≤ 4) → (10 ≤ n ∧ n ≤ 9 + M 3 0) → v = wOf M (n - 10)) → (¬ (0 ≤ n ∧ n ≤ 4) → ¬ (10 ≤ n ∧ n ≤ 9 + M 3 0) → v = -1) → Ret (f_X10_told M1 62 n) (fun b => w32 v = w32 b.1 ∧ jInv b.2) := by
    intro v v0 v1 v2 v3 v4 v5 v6
    unfold f_X10_told
    refine Ret.bb (r_looks h f1.f8 h8' (by decide) (by decide)) (fun M2 h2 => ?_)
    obtain ⟨e2, r1, r2⟩ := h2
    rw [wO_0] at r2
    rw [aO_0] at r1
    have f2 := e2.fr f1
    have p2 := e2.pt p1
    have hi : jInv M2 := h.fp f2 p2
    rw [r_signs h f2.f8, r_tellsOf h f2.f8 (by decide) (by decide), r_tellsOf h f2.f8 (by decide) (by decide), h.h3 (wh := 237) (no := 1) (Or.inl ⟨rfl, rfl, rfl⟩), h.h3 (wh := 242) (no := 10) (Or.inr ⟨rfl, rfl, rfl⟩), jp_62_1, jp_62_11, w32_id n0 n1, r1, f2 63 7 (kp_63 (by omega) (by omega) (by omega)), ← hdy]
    refine Ret.i (fun c => Ret.b ⟨_, rfl, Ret.s ⟨by rw [v0 c], hi⟩⟩) (fun c0 => Ret.i (fun c => Ret.b ⟨_, rfl, Ret.s ⟨by rw [v1 c], hi⟩⟩) (fun c1 => Ret.i (fun c => Ret.b ⟨_, rfl, Ret.s ⟨by rw [v2 c], hi⟩⟩) (fun c2 => Ret.i (fun c => Ret.s ⟨by rw [v3 c], hi⟩) (fun c3 => Ret.i (fun c => Ret.s ⟨by rw [v4 c], hi⟩) (fun c4 => Ret.b ⟨_, rfl, ?_⟩)))))
    dsimp only
    rw [r_in _ n0 n1 (by decide) (by decide) (by omega) (by omega)]
    by_cases c : 10 ≤ n ∧ n ≤ 9 + M 3 0
    · rw [if_pos c, w32_id (x := n - 10) (by omega) (by omega), r2 (n - 10) (by omega) (by omega)]
      exact Ret.b ⟨1, rfl, Ret.f w32_1n (Ret.g ⟨by omega, by omega⟩ (Ret.s ⟨by rw [v5 (by omega) c], hi⟩))⟩
    · rw [if_neg c]
      exact Ret.b ⟨0, rfl, Ret.t w32_0 (Ret.s ⟨by rw [v6 (by omega) c], hi⟩)⟩
  have no : ∀ v : Int, v = -1 → ¬ (0 ≤ n ∧ n ≤ 4) → ¬ (10 ≤ n ∧ n ≤ 9 + M 3 0) → Ret (some (v, M1)) (fun a => Ret (f_X10_told a.2 62 n) (fun b => w32 a.1 = w32 b.1 ∧ jInv b.2)) := fun v hv c d => Ret.s (ref v (by omega) (by omega) (by omega) (by omega) (by omega) (fun _ q => absurd q d) (fun _ _ => hv))
  have yes : 10 ≤ n → n ≤ 12 → Ret (if M 3 0 ≤ w32 (n - 10) then some (-1, M1) else (f_X6_weightOf M1 47 (n - 10)).bind fun r14 => some (r14, M1)) (fun a => Ret (f_X10_told a.2 62 n) (fun b => w32 a.1 = w32 b.1 ∧ jInv b.2)) := by
    intro q0 q1
    rw [w32_id (x := n - 10) (by omega) (by omega), s_weightOf (g := M 3 0) (al := aOf M) ⟨s1, s2, s3⟩ (by omega) (by omega)]
    refine Ret.i (fun c => no _ rfl (by omega) (by omega)) (fun c => Ret.b ⟨_, rfl, Ret.s (ref _ (by omega) (by omega) (by omega) (by omega) (by omega) (fun _ _ => rfl) (fun _ q => by omega))⟩)
  refine Ret.i (fun c => Ret.s (ref _ (fun _ => rfl) (by omega) (by omega) (by omega) (by omega) (by omega) (by omega))) (fun c0 => Ret.i (fun c => Ret.s (ref _ (by omega) (fun _ => rfl) (by omega) (by omega) (by omega) (by omega) (by omega))) (fun c1 => Ret.i (fun c => Ret.s (ref _ (by omega) (by omega) (fun _ => rfl) (by omega) (by omega) (by omega) (by omega))) (fun c2 => Ret.i (fun c => Ret.s (ref _ (by omega) (by omega) (by omega) (fun _ => rfl) (by omega) (by omega) (by omega))) (fun c3 => Ret.i (fun c => Ret.s (ref _ (by omega) (by omega) (by omega) (by omega) (fun _ => rfl) (by omega) (by omega))) (fun c4 => ?_)))))
  refine Ret.i (fun c => no _ rfl (by omega) (by omega)) (fun c5 => Ret.i (fun c => no _ rfl (by omega) (by omega)) (fun c6 => Ret.i (fun c => no _ rfl (by omega) (by omega)) (fun c7 => Ret.i (fun c => no _ rfl (by omega) (by omega)) (fun c8 => Ret.i (fun c => no _ rfl (by omega) (by omega)) (fun c9 => ?_)))))
  exact Ret.i (fun c => yes (by omega) (by omega)) (fun c10 => Ret.i (fun c => yes (by omega) (by omega)) (fun c11 => Ret.i (fun c => yes (by omega) (by omega)) (fun c12 => no _ rfl (by omega) (by omega))))
