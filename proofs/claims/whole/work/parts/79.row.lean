theorem r_copy6 {M : jM} {to : Int} (t0 : 0 ≤ to) (t1 : to + 6 ≤ 952) (t2 : to + 6 ≤ 66 ∨ 72 ≤ to) {b : jM × Int → Option ((jM × Int) ⊕ jM)} (hb : ∀ S, b S = (if 6 ≤ w32 S.2 then some (.inr S.1) else grd (0 ≤ w32 (66 + S.2) ∧ w32 (66 + S.2) < 952) (grd (0 ≤ w32 (to + S.2) ∧ w32 (to + S.2) < 952) (lt1 (sto S.1 63 (w32 (to + S.2)) (S.1 63 (w32 (66 + S.2)))) fun M6 => some (.inl (M6, S.2 + 1)))))) : Ret (iter b 5000 (M, 0)) (fun M' => (∀ x y, ¬ (x = 63 ∧ to ≤ y ∧ y < to + 6) → M' x y = M x y) ∧ ∀ j, 0 ≤ j → j < 6 → M' 63 (to + j) = M 63 (66 + j)) := by
  refine Ret.it (fun S : jM × Int => 0 ≤ S.2 ∧ S.2 ≤ 6 ∧ (∀ x y, ¬ (x = 63 ∧ to ≤ y ∧ y < to + 6) → S.1 x y = M x y) ∧ ∀ j, 0 ≤ j → j < S.2 → S.1 63 (to + j) = M 63 (66 + j)) (fun S => (6 - S.2).toNat) ?_ 5000 (M, 0) ⟨by show (0 : Int) ≤ 0; decide, by show (0 : Int) ≤ 6; decide, fun _ _ _ => rfl, fun j j0 j1 => by have j1 : j < 0 := j1; omega⟩ (by show (6 - 0 : Int).toNat < 5000; decide)
  rintro ⟨M1, k⟩ ⟨k0, k1, he, hk⟩
  dsimp only at k0 k1 he hk
  rw [hb]
  dsimp +instances only
  rw [w32_id (x := k) (by omega) (by omega), w32_id (x := 66 + k) (by omega) (by omega), w32_id (x := to + k) (by omega) (by omega)]
  refine Ret.i (fun c => Rr ⟨he, fun j j0 j1 => hk j j0 (by omega)⟩) (fun c => ?_)
  rw [he 63 (66 + k) (by omega)]
  refine (Ret.g ⟨by omega, by omega⟩ (Ret.g ⟨by omega, by omega⟩ (Ret.l (Rl ⟨⟨by show 0 ≤ k + 1; omega, by show k + 1 ≤ 6; omega, fun x y q => ?_, fun j j0 j1 => ?_⟩, by show (6 - (k + 1)).toNat < (6 - k).toNat; omega⟩))))
  · dsimp only
    rw [sto_ne (by omega)]; exact he x y q
  · have j1 : j < k + 1 := j1
    dsimp only
    by_cases q : j = k
    · rw [q, sto_eq rfl rfl]
    · rw [sto_ne (by omega)]; exact hk j j0 (by omega)
theorem k_row {M : jM} (h : jInv M) : Ret (f_X9_row M 0) (fun a => Ret (f_X10_row a.2 62) (fun b => w32 a.1 = w32 b.1 ∧ jInv b.2)) := by
  obtain ⟨t1, t2, t3, t4, t5, t6, t7⟩ := id h.1
  obtain ⟨hL, hz⟩ := t3
  have hL : Ln M 6 (fun i => M 63 (66 + i)) (M 63 3) := hL
  obtain ⟨q1, q2, q3, q4⟩ := id t4
  have q1 : M 1 7 = M 63 0 := q1
  have hz0 := hL.1
  obtain ⟨z, ez⟩ : ∃ z, z = M 63 3 := ⟨_, rfl⟩
  obtain ⟨R, eR⟩ : ∃ R, R = M 63 0 := ⟨_, rfl⟩
  unfold f_X9_row
  rw [jp_0_0, jp_1_5, jp_1_6, hL.2.2.1, q1, ← ez, ← eR, w32_id (x := z) (by omega) (by omega), w32_id (x := R) (by omega) (by omega)]
  have no : ∀ v, (v = -3 ∧ z = 0) ∨ (v = -4 ∧ z ≠ 0 ∧ R = 6) → Ret (f_X10_row M 62) (fun b => w32 v = w32 b.1 ∧ jInv b.2) := by
    intro v hv
    unfold f_X10_row
    rw [jp_62_1, ← ez, ← eR, w32_id (x := z) (by omega) (by omega), w32_id (x := R) (by omega) (by omega)]
    refine Ret.i (fun c => Ret.s ⟨hv.elim (fun q => by rw [q.1]) (fun q => absurd c q.2.1), h⟩) (fun c => Ret.i (fun c2 => Ret.s ⟨hv.elim (fun q => absurd q.2 c) (fun q => by rw [q.1]), h⟩) (fun c2 => ?_))
    rcases hv with ⟨_, q⟩ | ⟨_, _, q⟩
    · exact absurd q c
    · exact absurd q c2
  refine Ret.i (fun c => Ret.s (no _ (Or.inl ⟨rfl, c⟩))) (fun c => Ret.i (fun c2 => Ret.g ⟨by omega, c2⟩ ?_) (fun c2 => Ret.s (no _ (Or.inr ⟨rfl, c, by omega⟩))))
  rw [jp_7 (by omega) c2]
  unfold f_X3_copy f_X3_zeros
  refine Ret.b (Ret.l (Ret.l (Ret.s (Ret.b (Ret.l (Ret.l (Ret.s (Ret.l (Ret.s ?_)))))))))
  obtain ⟨MA, hMA⟩ : ∃ MA, MA = sto (sto (sto (sto M (8 + R) 0 (M 6 0)) (8 + R) 1 (sto M (8 + R) 0 (M 6 0) 6 1)) 6 0 0) 6 1 0 := ⟨_, rfl⟩
  rw [← hMA]
  have a0 : ∀ a b, ¬ (a = 8 + R ∧ (b = 0 ∨ b = 1)) → ¬ (a = 6 ∧ (b = 0 ∨ b = 1)) → MA a b = M a b := fun a b h1 h2 => by rw [hMA, sto_ne (by omega), sto_ne (by omega), sto_ne (by omega), sto_ne (by omega)]
  have a1 : MA (8 + R) 0 = z := by rw [hMA, sto_ne (by omega), sto_ne (by omega), sto_ne (by omega), sto_eq rfl rfl, hL.2.2.1, ez]
  have a2 : MA (8 + R) 1 = M 6 1 := by rw [hMA, sto_ne (by omega), sto_ne (by omega), sto_eq rfl rfl, sto_ne (by omega)]
  have a3 : MA 6 0 = 0 := by rw [hMA, sto_ne (by omega), sto_eq rfl rfl]
  have a4 : MA 6 1 = 0 := by rw [hMA, sto_eq rfl rfl]
  have a5 : MA 1 7 = R := by rw [a0 _ _ (by omega) (by omega), q1, eR]
  rw [a5]
  have e : ∀ a b, ¬ (a = 8 + R ∧ (b = 0 ∨ b = 1)) → ¬ (a = 6 ∧ (b = 0 ∨ b = 1)) → ¬ (a = 1 ∧ b = 7) → sto MA 1 7 (R + 1) a b = M a b := fun a b h1 h2 h3 => by rw [sto_ne h3]; exact a0 a b h1 h2
  have e1 : sto MA 1 7 (R + 1) (8 + R) 0 = z := by rw [sto_ne (by omega)]; exact a1
  have e2 : sto MA 1 7 (R + 1) (8 + R) 1 = M 6 1 := by rw [sto_ne (by omega)]; exact a2
  have e3 : sto MA 1 7 (R + 1) 6 0 = 0 := by rw [sto_ne (by omega)]; exact a3
  have e4 : sto MA 1 7 (R + 1) 6 1 = 0 := by rw [sto_ne (by omega)]; exact a4
  have e5 : sto MA 1 7 (R + 1) 1 7 = R + 1 := sto_eq rfl rfl
  generalize sto MA 1 7 (R + 1) = M1 at e e1 e2 e3 e4 e5 ⊢
  dsimp only
  rw [e5]
  unfold f_X10_row
  have z63 : ∀ b, M1 63 b = M 63 b := fun b => e _ _ (by omega) (by omega) (by omega)
  rw [jp_62_1, z63, z63, ← ez, ← eR, w32_id (x := z) (by omega) (by omega), w32_id (x := R) (by omega) (by omega), w32_id (x := 58 + R) (by omega) (by omega)]
  refine Ret.f c (Ret.f (by omega) (Ret.bb (r_copy6 (M := M1) (to := 10 + 6 * R) (by omega) (by omega) (by omega) (fun S => rfl)) (fun M2 h2 => ?_)))
  obtain ⟨x1, x2⟩ := h2
  have y3 : M2 63 3 = z := by rw [x1 _ _ (by omega), z63, ez]
  rw [y3]
  refine Ret.g ⟨by omega, by omega⟩ (Ret.l (Ret.l (Ret.l (Ret.s ?_))))
  have y0 : sto (sto M2 63 (58 + R) z) 63 3 0 63 0 = R := by rw [sto_ne (by omega), sto_ne (by omega), x1 _ _ (by omega), z63, eR]
  rw [y0]
  have f : ∀ a b, ¬ (a = 63 ∧ (b = 0 ∨ b = 3 ∨ b = 58 + R ∨ (10 + 6 * R ≤ b ∧ b < 10 + 6 * R + 6))) → sto (sto (sto M2 63 (58 + R) z) 63 3 0) 63 0 (R + 1) a b = M1 a b := fun a b h1 => by rw [sto_ne (by omega), sto_ne (by omega), sto_ne (by omega)]; exact x1 a b (by omega)
  have f1 : sto (sto (sto M2 63 (58 + R) z) 63 3 0) 63 0 (R + 1) 63 0 = R + 1 := sto_eq rfl rfl
  have f2 : sto (sto (sto M2 63 (58 + R) z) 63 3 0) 63 0 (R + 1) 63 3 = 0 := by rw [sto_ne (by omega), sto_eq rfl rfl]
  have f3 : sto (sto (sto M2 63 (58 + R) z) 63 3 0) 63 0 (R + 1) 63 (58 + R) = z := by rw [sto_ne (by omega), sto_ne (by omega), sto_eq rfl rfl]
  have f4 : ∀ j, 0 ≤ j → j < 6 → sto (sto (sto M2 63 (58 + R) z) 63 3 0) 63 0 (R + 1) 63 (10 + 6 * R + j) = M 63 (66 + j) := fun j j0 j1 => by rw [sto_ne (by omega), sto_ne (by omega), sto_ne (by omega), x2 j j0 j1]; exact z63 _
  generalize sto (sto (sto M2 63 (58 + R) z) 63 3 0) 63 0 (R + 1) = M3 at f f1 f2 f3 f4 ⊢
  dsimp only
  refine ⟨by congr 1; omega, ?_⟩
  have g : ∀ a b, ¬ (a = 63 ∧ (b = 0 ∨ b = 3 ∨ b = 58 + R ∨ (10 + 6 * R ≤ b ∧ b < 10 + 6 * R + 6))) → ¬ ((a = 8 + R ∨ a = 6) ∧ (b = 0 ∨ b = 1)) → ¬ (a = 1 ∧ b = 7) → M3 a b = M a b := fun a b h1 h2 h3 => by rw [f a b h1, e a b (by omega) (by omega) h3]
  refine h.rest ⟨t1.fr (g _ _ (by omega) (by omega) (by omega)) (g _ _ (by omega) (by omega) (by omega)) (fun i _ _ => g _ _ (by omega) (by omega) (by omega)) (fun i _ _ => g _ _ (by omega) (by omega) (by omega)), t2.fr (g _ _ (by omega) (by omega) (by omega)) (g _ _ (by omega) (by omega) (by omega)) (g _ _ (by omega) (by omega) (by omega)) (g _ _ (by omega) (by omega) (by omega)) (g _ _ (by omega) (by omega) (by omega)), ?_, ?_, t5.fr (g _ _ (by omega) (by omega) (by omega)) (g _ _ (by omega) (by omega) (by omega)) (g _ _ (by omega) (by omega) (by omega)) (fun i _ _ => g _ _ (by omega) (by omega) (by omega)), t6.fr (g _ _ (by omega) (by omega) (by omega)) (g _ _ (by omega) (by omega) (by omega)) (fun p _ _ => ⟨g _ _ (by omega) (by omega) (by omega), g _ _ (by omega) (by omega) (by omega), g _ _ (by omega) (by omega) (by omega), g _ _ (by omega) (by omega) (by omega)⟩) (fun i _ _ => g _ _ (by omega) (by omega) (by omega)), t7.fr (fun j _ _ => g _ _ (by omega) (by omega) (by omega)) (fun i _ _ => ⟨g _ _ (by omega) (by omega) (by omega), g _ _ (by omega) (by omega) (by omega)⟩) (g _ _ (by omega) (by omega) (by omega)) (g _ _ (by omega) (by omega) (by omega)) t2.2.2.1 (fun i _ _ => g _ _ (by omega) (by omega) (by omega))⟩ (g _ _ (by omega) (by omega) (by omega)) (fun a b _ _ => g _ _ (by omega) (by omega) (by omega)) (fun b => g _ _ (by omega) (by omega) (by omega)) (fun a b _ => g _ _ (by omega) (by omega) (by omega)) (fun b _ => g _ _ (by omega) (by omega) (by omega)) (g _ _ (by omega) (by omega) (by omega)) (g _ _ (by omega) (by omega) (by omega))
  · refine ⟨?_, by rw [f2]; decide⟩
    show Ln M3 6 _ (M3 63 3)
    rw [f2]
    exact Ln.zero (by rw [f _ _ (by omega)]; exact e3) (by rw [f _ _ (by omega)]; exact e4)
  · refine ⟨by show M3 1 7 = _; rw [f _ _ (by omega), e5, f1], by rw [f1]; omega, by rw [f1]; omega, fun r r0 r1 => ?_⟩
    rw [f1] at r1
    by_cases q : r = R
    · subst q
      rw [f3]
      refine ⟨?_, by omega, by omega⟩
      show Ln M3 (1 + 7 + r) (fun i => M3 63 (10 + 6 * r + i)) z
      have e8 : (1 : Int) + 7 + r = 8 + r := by omega
      rw [e8]
      rw [← ez] at hL
      refine ⟨hL.1, hL.2.1, by rw [f _ _ (by omega)]; exact e1, ?_, fun i i0 i1 => by have := hL.2.2.2.2 i i0 i1; dsimp only at this ⊢; rw [f4 i i0 (by omega)]; exact this⟩
      rw [f _ _ (by omega), e2, hL.2.2.2.1]
      exact pk4_cong (fun i hi => (f4 i (by omega) (by omega)).symm)
    · obtain ⟨g1, g2, g3⟩ := q4 r r0 (by omega)
      rw [g 63 (58 + r) (by omega) (by omega) (by omega)]
      exact ⟨g1.fr (g _ _ (by omega) (by omega) (by omega)) (g _ _ (by omega) (by omega) (by omega)) (fun i i0 i1 => g _ _ (by omega) (by omega) (by omega)), g2, g3⟩

theorem k_own {M : jM} (h : jInv M) {p : Int} (n0 : -2147483648 ≤ p) (n1 : p < 2147483648) : Ret (f_X9_own M 0 p) (fun a => Ret (f_X10_own a.2 62 p) (fun b => w32 a.1 = w32 b.1 ∧ jInv b.2)) := by
  obtain ⟨t1, t2, t3, t4, t5, t6, t7⟩ := id h.1
  obtain ⟨hL, hz⟩ := t3
  have hL : Ln M 6 (fun i => M 63 (66 + i)) (M 63 3) := hL
  have hz0 := hL.1
  obtain ⟨q1, q2, q3, q4, q5⟩ := id t6
  obtain ⟨z, ez⟩ : ∃ z, z = M 63 3 := ⟨_, rfl⟩
  unfold f_X9_own
  rw [jp_0_0, jp_1_5, jp_1_8, jp_1_10, s_hasPlayer' h Fr.rfl n0 n1, w32_id n0 n1]
  by_cases cp : 0 ≤ p ∧ p < M 63 1
  · obtain ⟨w4, k1, k2, k3, v1, v2, v3, o1, o2⟩ := h.pl cp.1 cp.2
    rw [if_pos cp, k1, w32_id (x := M 63 (96 + p)) (by omega) (by omega)]
    refine Ret.b ⟨1, rfl, Ret.f w32_1n (Ret.g ⟨cp.1, by omega⟩ (Ret.i (fun c => Ret.g ⟨cp.1, by omega⟩ ?_) (fun c => Ret.s ?_)))⟩
    · rw [jp_16 cp.1 (by omega)]
      unfold f_X3_copy f_X3_zeros
      refine Ret.b (Ret.l (Ret.l (Ret.s (Ret.b (Ret.l (Ret.l (Ret.s (Ret.g ⟨cp.1, by omega⟩ (Ret.s ?_)))))))))
      have e : ∀ a b, ¬ ((a = 17 + p ∨ a = 6) ∧ (b = 0 ∨ b = 1)) → sto (sto (sto (sto M (17 + p) 0 (M 6 0)) (17 + p) 1 (sto M (17 + p) 0 (M 6 0) 6 1)) 6 0 0) 6 1 0 a b = M a b := fun a b h1 => by rw [sto_ne (by omega), sto_ne (by omega), sto_ne (by omega), sto_ne (by omega)]
      have e1 : sto (sto (sto (sto M (17 + p) 0 (M 6 0)) (17 + p) 1 (sto M (17 + p) 0 (M 6 0) 6 1)) 6 0 0) 6 1 0 (17 + p) 0 = z := by rw [sto_ne (by omega), sto_ne (by omega), sto_ne (by omega), sto_eq rfl rfl, hL.2.2.1, ez]
      have e2 : sto (sto (sto (sto M (17 + p) 0 (M 6 0)) (17 + p) 1 (sto M (17 + p) 0 (M 6 0) 6 1)) 6 0 0) 6 1 0 (17 + p) 1 = M 6 1 := by rw [sto_ne (by omega), sto_ne (by omega), sto_eq rfl rfl, sto_ne (by omega)]
      have e3 : sto (sto (sto (sto M (17 + p) 0 (M 6 0)) (17 + p) 1 (sto M (17 + p) 0 (M 6 0) 6 1)) 6 0 0) 6 1 0 6 0 = 0 := by rw [sto_ne (by omega), sto_eq rfl rfl]
      have e4 : sto (sto (sto (sto M (17 + p) 0 (M 6 0)) (17 + p) 1 (sto M (17 + p) 0 (M 6 0) 6 1)) 6 0 0) 6 1 0 6 1 = 0 := by rw [sto_eq rfl rfl]
      generalize sto (sto (sto (sto M (17 + p) 0 (M 6 0)) (17 + p) 1 (sto M (17 + p) 0 (M 6 0) 6 1)) 6 0 0) 6 1 0 = M1 at e e1 e2 e3 e4 ⊢
      dsimp only
      rw [e1]
      have z63 : ∀ b, M1 63 b = M 63 b := fun b => e _ _ (by omega)
      have rp : f_X10_isPlayer M1 62 p = some (if 0 ≤ p ∧ p < M 63 1 then 1 else 0) := by
        have k := r_isPlayer (M := M1) (p := p) (by rw [z63]; exact q2) (by rw [z63]; exact q3) n0 n1
        rw [z63] at k
        exact k
      unfold f_X10_own
      rw [rp, if_pos cp, jp_62_1, z63, w32_id (x := 96 + p) (by omega) (by omega), w32_id (x := M 63 (96 + p)) (by omega) (by omega), w32_id (x := 128 + p) (by omega) (by omega)]
      refine Ret.b ⟨1, rfl, Ret.f w32_1n (Ret.g ⟨by omega, by omega⟩ (Ret.t c (Ret.bb (r_copy6 (M := M1) (to := 104 + 6 * p) (by omega) (by omega) (by omega) (fun S => rfl)) (fun M2 h2 => ?_))))⟩
      obtain ⟨x1, x2⟩ := h2
      have y3 : M2 63 3 = z := by rw [x1 _ _ (by omega), z63, ez]
      rw [y3]
      refine Ret.g ⟨by omega, by omega⟩ (Ret.l (Ret.l (Ret.g ⟨by omega, by omega⟩ (Ret.s ?_))))
      have f : ∀ a b, ¬ (a = 63 ∧ (b = 3 ∨ b = 128 + p ∨ (104 + 6 * p ≤ b ∧ b < 104 + 6 * p + 6))) → sto (sto M2 63 (128 + p) z) 63 3 0 a b = M1 a b := fun a b h1 => by rw [sto_ne (by omega), sto_ne (by omega)]; exact x1 a b (by omega)
      have f2 : sto (sto M2 63 (128 + p) z) 63 3 0 63 3 = 0 := by rw [sto_eq rfl rfl]
      have f3 : sto (sto M2 63 (128 + p) z) 63 3 0 63 (128 + p) = z := by rw [sto_ne (by omega), sto_eq rfl rfl]
      have f4 : ∀ j, 0 ≤ j → j < 6 → sto (sto M2 63 (128 + p) z) 63 3 0 63 (104 + 6 * p + j) = M 63 (66 + j) := fun j j0 j1 => by rw [sto_ne (by omega), sto_ne (by omega), x2 j j0 j1]; exact z63 _
      generalize sto (sto M2 63 (128 + p) z) 63 3 0 = M3 at f f2 f3 f4 ⊢
      dsimp only
      refine ⟨by rw [f3], ?_⟩
      have g : ∀ a b, ¬ (a = 63 ∧ (b = 3 ∨ b = 128 + p ∨ (104 + 6 * p ≤ b ∧ b < 104 + 6 * p + 6))) → ¬ ((a = 17 + p ∨ a = 6) ∧ (b = 0 ∨ b = 1)) → M3 a b = M a b := fun a b h1 h2 => by rw [f a b h1, e a b h2]
      refine h.rest ⟨t1.fr (g _ _ (by omega) (by omega)) (g _ _ (by omega) (by omega)) (fun i _ _ => g _ _ (by omega) (by omega)) (fun i _ _ => g _ _ (by omega) (by omega)), t2.fr (g _ _ (by omega) (by omega)) (g _ _ (by omega) (by omega)) (g _ _ (by omega) (by omega)) (g _ _ (by omega) (by omega)) (g _ _ (by omega) (by omega)), ?_, t4.fr (g _ _ (by omega) (by omega)) (g _ _ (by omega) (by omega)) (fun r _ _ j _ _ => g _ _ (by omega) (by omega)) (fun i _ _ => g _ _ (by omega) (by omega)) (fun i _ _ => g _ _ (by omega) (by omega)), t5.fr (g _ _ (by omega) (by omega)) (g _ _ (by omega) (by omega)) (g _ _ (by omega) (by omega)) (fun i _ _ => g _ _ (by omega) (by omega)), ?_, t7.fr (fun j _ _ => g _ _ (by omega) (by omega)) (fun i _ _ => ⟨g _ _ (by omega) (by omega), g _ _ (by omega) (by omega)⟩) (g _ _ (by omega) (by omega)) (g _ _ (by omega) (by omega)) t2.2.2.1 (fun i _ _ => g _ _ (by omega) (by omega))⟩ (g _ _ (by omega) (by omega)) (fun a b _ _ => g _ _ (by omega) (by omega)) (fun b => g _ _ (by omega) (by omega)) (fun a b _ => g _ _ (by omega) (by omega)) (fun b _ => g _ _ (by omega) (by omega)) (g _ _ (by omega) (by omega)) (g _ _ (by omega) (by omega))
      · refine ⟨?_, by rw [f2]; decide⟩
        show Ln M3 6 _ (M3 63 3)
        rw [f2]
        exact Ln.zero (by rw [f _ _ (by omega)]; exact e3) (by rw [f _ _ (by omega)]; exact e4)
      · have g1' : M3 63 1 = M 63 1 := g _ _ (by omega) (by omega)
        refine ⟨by rw [g1', g _ _ (by omega) (by omega)]; exact q1, by rw [g1']; exact q2, by rw [g1']; exact q3, fun r r0 r1 => ?_, fun r r0 r1 => ?_⟩
        · rw [g1'] at r1
          obtain ⟨s1, s2, s3, s4, s5, s6, s7, s8⟩ := q4 r r0 r1
          rw [g (1 + 13) r (by omega) (by omega), g (1 + 14) r (by omega) (by omega), g 63 (96 + r) (by omega) (by omega), g 63 (100 + r) (by omega) (by omega)]
          refine ⟨s1, s2, s3, s4, s5, s6, ?_, ?_⟩
          · by_cases q : r = p
            · subst q
              rw [f3]
              show Ln M3 (1 + 16 + r) (fun i => M3 63 (104 + 6 * r + i)) z
              have e8 : (1 : Int) + 16 + r = 17 + r := by omega
              rw [e8]
              rw [← ez] at hL
              refine ⟨hL.1, hL.2.1, by rw [f _ _ (by omega)]; exact e1, ?_, fun i i0 i1 => by have := hL.2.2.2.2 i i0 i1; dsimp only at this ⊢; rw [f4 i i0 (by omega)]; exact this⟩
              rw [f _ _ (by omega), e2, hL.2.2.2.1]
              exact pk4_cong (fun i hi => (f4 i (by omega) (by omega)).symm)
            · rw [g 63 (128 + r) (by omega) (by omega)]
              exact s7.fr (g _ _ (by omega) (by omega)) (g _ _ (by omega) (by omega)) (fun i i0 i1 => g _ _ (by omega) (by omega))
          · by_cases q : r = p
            · subst q
              rw [f3]; omega
            · rw [g 63 (128 + r) (by omega) (by omega)]; exact s8
        · rw [g1'] at r0
          rw [g _ _ (by omega) (by omega), g _ _ (by omega) (by omega)]
          exact q5 r r0 r1
    · unfold f_X10_own
      rw [r_isPlayer' h Fr.rfl n0 n1, if_pos cp, jp_62_1, w32_id (x := 96 + p) (by omega) (by omega), w32_id (x := M 63 (96 + p)) (by omega) (by omega)]
      exact Ret.b ⟨1, rfl, Ret.f w32_1n (Ret.g ⟨by omega, by omega⟩ (Ret.f c (Ret.s ⟨rfl, h⟩)))⟩
  · rw [if_neg cp]
    refine Ret.b ⟨0, rfl, Ret.t w32_0 (Ret.s ?_)⟩
    unfold f_X10_own
    rw [r_isPlayer' h Fr.rfl n0 n1, if_neg cp]
    exact Ret.b ⟨0, rfl, Ret.t w32_0 (Ret.s ⟨rfl, h⟩)⟩
