/-- the copied part alone -/
def CpD (M M' : jM) (t f : Int) : Prop := M' t 1 = M f 1 ∧ (∀ i, 0 ≤ i → i < M f 1 → M' (t + 1) i = M (f + 1) i) ∧ (∀ j, 0 ≤ j → j < 4 → M' (t + 2) j = M (f + 2) j) ∧ (∀ i, 0 ≤ i → i < 10 → M' (t + 3) i = M (f + 3) i ∧ M' (t + 4) i = M (f + 4) i) ∧ M' t 3 = M f 3 ∧ M' t 4 = M f 4 ∧ (M' (t + 5) 0 = M (f + 5) 0 ∧ M' (t + 5) 1 = M (f + 5) 1) ∧ (∀ r, 0 ≤ r → r < 6 → M' (t + 7 + r) 0 = M (f + 7 + r) 0 ∧ M' (t + 7 + r) 1 = M (f + 7 + r) 1) ∧ M' t 7 = M f 7 ∧ (∀ p, 0 ≤ p → p < 4 → M' (t + 13) p = M (f + 13) p ∧ M' (t + 14) p = M (f + 14) p ∧ M' (t + 16 + p) 0 = M (f + 16 + p) 0 ∧ M' (t + 16 + p) 1 = M (f + 16 + p) 1) ∧ M' t 11 = M f 11 ∧ (M' (t + 20) 0 = M (f + 20) 0 ∧ M' (t + 20) 1 = M (f + 20) 1)
theorem CpD.fr {M M1 M' : jM} {t f : Int} (c : CpD M M1 t f) (g : ∀ a b, t ≤ a → a ≤ t + 20 → M' a b = M1 a b) : CpD M M' t f := by
  obtain ⟨c1, c2, c3, c4, c5, c6, ⟨c7, c8⟩, c9, c10, c11, c12, ⟨c13, c14⟩⟩ := c
  refine ⟨?_, fun i i0 i1 => ?_, fun i i0 i1 => ?_, fun i i0 i1 => ?_, ?_, ?_, ⟨?_, ?_⟩, fun i i0 i1 => ?_, ?_, fun i i0 i1 => ?_, ?_, ?_, ?_⟩
  · rw [g _ _ (by omega) (by omega)]; exact c1
  · rw [g _ _ (by omega) (by omega)]; exact c2 i i0 i1
  · rw [g _ _ (by omega) (by omega)]; exact c3 i i0 i1
  · rw [g _ _ (by omega) (by omega), g _ _ (by omega) (by omega)]; exact c4 i i0 i1
  · rw [g _ _ (by omega) (by omega)]; exact c5
  · rw [g _ _ (by omega) (by omega)]; exact c6
  · rw [g _ _ (by omega) (by omega)]; exact c7
  · rw [g _ _ (by omega) (by omega)]; exact c8
  · rw [g _ _ (by omega) (by omega), g _ _ (by omega) (by omega)]; exact c9 i i0 i1
  · rw [g _ _ (by omega) (by omega)]; exact c10
  · rw [g _ _ (by omega) (by omega), g _ _ (by omega) (by omega), g _ _ (by omega) (by omega), g _ _ (by omega) (by omega)]; exact c11 i i0 i1
  · rw [g _ _ (by omega) (by omega)]; exact c12
  · rw [g _ _ (by omega) (by omega)]; exact c13
  · rw [g _ _ (by omega) (by omega)]; exact c14
theorem RelT.move {M M' : jM} {T A T' A' : Int} (h : RelT M T A) (c : CpD M M' T' T) (e : ∀ b, 0 ≤ b → b < 952 → M' A' b = M A b) : RelT M' T' A' := by
  obtain ⟨c1, c2, c3, c4, c5, c6, ⟨c7, c8⟩, c9, c10, c11, c12, ⟨c13, c14⟩⟩ := c
  obtain ⟨⟨a1, a2, a3, a4⟩, ⟨n1, n2, n3, n4, n5, n6, n7⟩, ⟨s1, s2⟩, ⟨r1, r2, r3, r4⟩, th, ⟨p1, p2, p3, p4, p5⟩, st⟩ := h
  have thn := th.2.1
  have th0 := th.1
  have s0 := s1.1
  refine ⟨⟨by rw [c1, e 5 (by decide) (by decide)]; exact a1, by rw [e 5 (by decide) (by decide)]; exact a2, by rw [e 5 (by decide) (by decide)]; exact a3, fun i i0 i1 => ?_⟩, ⟨by rw [c5, e 2 (by decide) (by decide)]; exact n1, by rw [e 2 (by decide) (by decide)]; exact n2, by rw [e 2 (by decide) (by decide)]; exact n3, by rw [c6, e 7 (by decide) (by decide)]; exact n4, by rw [e 7 (by decide) (by decide)]; exact n5, by rw [e 7 (by decide) (by decide)]; exact n6, by rw [e 8 (by decide) (by decide)]; exact n7⟩, ⟨?_, by rw [e 3 (by decide) (by decide)]; exact s2⟩, ⟨by rw [c10, e 0 (by decide) (by decide)]; exact r1, by rw [e 0 (by decide) (by decide)]; exact r2, by rw [e 0 (by decide) (by decide)]; exact r3, fun r r0 r1' => ?_⟩, ?_, ⟨by rw [c12, e 1 (by decide) (by decide)]; exact p1, by rw [e 1 (by decide) (by decide)]; exact p2, by rw [e 1 (by decide) (by decide)]; exact p3, fun p p0 p1' => ?_, fun p p0 p1' => ?_⟩, ?_⟩
  · rw [e 5 (by decide) (by decide)] at i1
    rw [c2 i i0 (by omega), e (132 + i) (by omega) (by omega)]
    exact a4 i i0 i1
  · unfold RelLn
    rw [e 3 (by decide) (by decide)]
    unfold RelLn at s1
    obtain ⟨l1, l2, l3, l4, l5⟩ := s1
    refine ⟨l1, l2, by rw [c7]; exact l3, ?_, fun i i0 i1 => ?_⟩
    · rw [c8, l4]; exact pk4_cong (fun i hi => (e _ (by omega) (by omega)).symm)
    · have := l5 i i0 i1
      dsimp only at this ⊢
      rw [e _ (by omega) (by omega)]; exact this
  · rw [e 0 (by decide) (by decide)] at r1'
    obtain ⟨⟨l1, l2, l3, l4, l5⟩, g2, g3⟩ := r4 r r0 r1'
    obtain ⟨y1, y2⟩ := c9 r r0 (by omega)
    rw [e (58 + r) (by omega) (by omega)]
    refine ⟨⟨l1, l2, by rw [y1]; exact l3, ?_, fun i i0 i1 => ?_⟩, g2, g3⟩
    · rw [y2, l4]; exact pk4_cong (fun i hi => (e _ (by omega) (by omega)).symm)
    · have := l5 i i0 i1
      dsimp only at this ⊢
      rw [e _ (by omega) (by omega)]; exact this
  · unfold RThrown RelLn at th ⊢
    rw [e 4 (by decide) (by decide)]
    obtain ⟨l1, l2, l3, l4, l5⟩ := th
    refine ⟨l1, l2, by rw [c13]; exact l3, ?_, fun i i0 i1 => ?_⟩
    · rw [c14, l4]; exact pk4_cong (fun i hi => (e _ (by omega) (by omega)).symm)
    · have := l5 i i0 i1
      dsimp only at this ⊢
      rw [e _ (by omega) (by omega)]; exact this
  · rw [e 1 (by decide) (by decide)] at p1'
    obtain ⟨g1, g2, g3, g4, g5, g6, ⟨l1, l2, l3, l4, l5⟩, g8⟩ := p4 p p0 p1'
    obtain ⟨y1, y2, y3, y4⟩ := c11 p p0 (by omega)
    rw [y1, y2, e (96 + p) (by omega) (by omega), e (100 + p) (by omega) (by omega), e (128 + p) (by omega) (by omega)]
    refine ⟨g1, g2, g3, g4, g5, g6, ⟨l1, l2, by rw [y3]; exact l3, ?_, fun i i0 i1 => ?_⟩, g8⟩
    · rw [y4, l4]; exact pk4_cong (fun i hi => (e _ (by omega) (by omega)).symm)
    · have := l5 i i0 i1
      dsimp only at this ⊢
      rw [e _ (by omega) (by omega)]; exact this
  · rw [e 1 (by decide) (by decide)] at p0
    obtain ⟨y1, y2, y3, y4⟩ := c11 p (by omega) p1'
    rw [y3, y4]
    exact p5 p p0 p1'
  · have c30 := c3 0 (by decide) (by decide)
    have c31 := c3 1 (by decide) (by decide)
    have c32 := c3 2 (by decide) (by decide)
    have c33 := c3 3 (by decide) (by decide)
    have e6 := e 6 (by decide) (by decide)
    rcases st with ⟨a, b, c, d, k⟩ | ⟨a1, a2, a3, a4, a5, a6, a7, a8, a9, a10, a11, a12, a13, a14, a15, a16, a17, a18⟩
    · exact Or.inl ⟨by rw [e6]; exact a, by rw [c30]; exact b, by rw [c31]; exact c, by rw [c32]; exact d, by rw [c33]; exact k⟩
    · refine Or.inr ?_
      rw [e6, e 2 (by decide) (by decide), c30, c31, c32, c33, e (232 + M A 6) (by omega) (by omega), e (237 + M A 6) (by omega) (by omega), e (242 + M A 6) (by omega) (by omega), e (247 + M A 6) (by omega) (by omega)]
      have x1 : T' + 2 + 1 = T' + 3 := by omega
      have x2 : T + 2 + 1 = T + 3 := by omega
      have x3 : T' + 2 + 2 = T' + 4 := by omega
      have x4 : T + 2 + 2 = T + 4 := by omega
      have ls : ∀ g sg dy, loadSum M' (T' + 2) g sg dy (M (T + 2) 3).toNat = loadSum M (T + 2) g sg dy (M (T + 2) 3).toNat := by
        intro g sg dy
        have key : ∀ n : Nat, n ≤ 10 → loadSum M' (T' + 2) g sg dy n = loadSum M (T + 2) g sg dy n := by
          intro n
          induction n with
          | zero => intro _; rfl
          | succ n ih =>
            intro hn
            obtain ⟨y1, y2⟩ := c4 n (by omega) (by omega)
            show loadSum M' (T' + 2) g sg dy n + (if land (lshr (M' (T' + 2 + 2) n) (placeOf g sg dy)) 1 = 0 then 0 else M' (T' + 2 + 1) n) = loadSum M (T + 2) g sg dy n + (if land (lshr (M (T + 2 + 2) n) (placeOf g sg dy)) 1 = 0 then 0 else M (T + 2 + 1) n)
            rw [ih (by omega), x1, x2, x3, x4, y1, y2]
        exact key _ (by omega)
      have ss : stepsOf M' A' (M A 6) = stepsOf M A (M A 6) := by
        unfold stepsOf
        rw [e (247 + M A 6) (by omega) (by omega)]
        refine List.map_congr_left (fun i hi => ?_)
        have := List.mem_range.mp hi
        exact e _ (by omega) (by omega)
      refine ⟨a1, a2, a3, a4, a5, a6, a7, a8, a9, a10, a11, a12, a13, fun i i0 i1 => ?_, a15, a16, fun i i0 i1 => ?_, fun sg dy q0 q1 q2 q3 => ?_⟩
      · rw [x1, (c4 i i0 (by omega)).1]
        have := a14 i i0 i1
        rw [x2] at this; exact this
      · rw [e _ (by omega) (by omega)]; exact a17 i i0 i1
      · rw [ss, ls]; exact a18 sg dy q0 q1 q2 q3
theorem r_lay {M : jM} {fr to : Int} {b : jM × Int → Option ((jM × Int) ⊕ jM)} (hne : fr ≠ to) (hb : ∀ S, b S = (if 952 ≤ w32 S.2 then some (.inr S.1) else grd (0 ≤ w32 S.2 ∧ w32 S.2 < 952) (grd (0 ≤ w32 S.2 ∧ w32 S.2 < 952) (lt1 (sto S.1 to (w32 S.2) (S.1 fr (w32 S.2))) fun M4 => some (.inl (M4, S.2 + 1)))))) : Ret (iter b 5000 (M, 0)) (fun M' => (∀ x y, x ≠ to → M' x y = M x y) ∧ ∀ j, 0 ≤ j → j < 952 → M' to j = M fr j) := by
  refine Ret.it (fun S : jM × Int => 0 ≤ S.2 ∧ S.2 ≤ 952 ∧ (∀ x y, x ≠ to → S.1 x y = M x y) ∧ ∀ j, 0 ≤ j → j < S.2 → S.1 to j = M fr j) (fun S => (952 - S.2).toNat) ?_ 5000 (M, 0) ⟨by show (0 : Int) ≤ 0; decide, by show (0 : Int) ≤ 952; decide, fun _ _ _ => rfl, fun j j0 j1 => by have j1 : j < 0 := j1; omega⟩ (by show (952 - 0 : Int).toNat < 5000; decide)
  rintro ⟨M1, k⟩ ⟨k0, k1, he, hk⟩
  dsimp only at k0 k1 he hk
  rw [hb]
  dsimp +instances only
  rw [w32_id (x := k) (by omega) (by omega), he fr k hne]
  refine Ret.i (fun c => Rr ⟨he, fun j j0 j1 => hk j j0 (by omega)⟩) (fun c => Ret.g ⟨by omega, by omega⟩ (Ret.g ⟨by omega, by omega⟩ (Ret.l (Rl ⟨⟨by show 0 ≤ k + 1; omega, by show k + 1 ≤ 952; omega, fun x y q => ?_, fun j j0 j1 => ?_⟩, by show (952 - (k + 1)).toNat < (952 - k).toNat; omega⟩))))
  · dsimp only
    rw [sto_ne (by omega)]; exact he x y q
  · have j1 : j < k + 1 := j1
    dsimp only
    by_cases q : j = k
    · rw [q, sto_eq rfl rfl]
    · rw [sto_ne (by omega)]; exact hk j j0 (by omega)
theorem k_image {M : jM} (h : jInv M) : Ret (f_X9_image M 0) (fun a => Ret (f_X10_image a.2 62) (fun b => w32 a.1 = w32 b.1 ∧ jInv b.2)) := by
  have ht := h.1.1
  unfold f_X9_image
  rw [jp_0_0, jp_0_1]
  refine Ret.bb (s_copyT (M := M) (t := 22) (f := 1) (Or.inr ⟨rfl, rfl⟩) (by rw [ht.1]; exact ht.2.1) (by rw [ht.1]; exact ht.2.2.1)) (fun M1 c => Ret.l (Ret.s ?_))
  have c0 := c.1
  have e1 : ∀ a b, ¬ (22 ≤ a ∧ a ≤ 42) → ¬ (a = 0 ∧ b = 2) → sto M1 0 2 1 a b = M a b := fun a b q1 q2 => by rw [sto_ne q2]; exact c0 a b (by omega)
  have e2 : ∀ a b, (22 ≤ a ∧ a ≤ 42) → sto M1 0 2 1 a b = M1 a b := fun a b q => sto_ne (by omega)
  have e3 : sto M1 0 2 1 0 2 = 1 := sto_eq rfl rfl
  generalize sto M1 0 2 1 = M2 at e1 e2 e3 ⊢
  dsimp only
  unfold f_X10_image
  refine Ret.bb (r_lay (M := M2) (fr := 63) (to := 64) (by decide) (fun S => rfl)) (fun M3 ⟨l1, l2⟩ => Ret.l (Ret.s ?_))
  have g1 : ∀ a b, ¬ (22 ≤ a ∧ a ≤ 42) → a ≠ 64 → ¬ (a = 0 ∧ b = 2) → ¬ (a = 62 ∧ b = 3) → sto M3 62 3 1 a b = M a b := fun a b q1 q2 q3 q4 => by rw [sto_ne q4, l1 a b q2, e1 a b q1 q3]
  have g2 : ∀ a b, (22 ≤ a ∧ a ≤ 42) → sto M3 62 3 1 a b = M1 a b := fun a b q => by rw [sto_ne (by omega), l1 a b (by omega), e2 a b q]
  have g3 : ∀ b, 0 ≤ b → b < 952 → sto M3 62 3 1 64 b = M 63 b := fun b b0 b1 => by rw [sto_ne (by omega), l2 b b0 b1, e1 _ _ (by omega) (by omega)]
  have g4 : sto M3 62 3 1 0 2 = 1 := by rw [sto_ne (by omega), l1 _ _ (by decide), e3]
  have g5 : sto M3 62 3 1 62 3 = 1 := sto_eq rfl rfl
  generalize sto M3 62 3 1 = M4 at g1 g2 g3 g4 g5 ⊢
  dsimp only
  rw [jp_62_1, g1 63 0 (by omega) (by decide) (by omega) (by omega), e1 1 7 (by omega) (by omega)]
  have h7 : M 1 7 = M 63 0 := h.1.2.2.2.1.1
  refine ⟨by rw [h7], ?_⟩
  have cD : CpD M M4 22 1 := CpD.fr (M1 := M1) c.2 (fun a b q1 q2 => g2 a b (by omega))
  have hi : RelT M4 22 64 := h.1.move cD g3
  have hn : RelT M4 1 63 := h.1.fr (fun a b q1 q2 => g1 _ _ (by omega) (by omega) (by omega) (by omega)) (fun b _ _ _ => g1 _ _ (by omega) (by decide) (by omega) (by omega))
  obtain ⟨-, -, -, ⟨i1, i2, i3, i4⟩, i5⟩ := h
  refine ⟨hn, by rw [g4, g5], Or.inr ⟨g4, hi⟩, ⟨?_, ?_, ?_, fun i q0 q1 q2 => ?_⟩, ?_⟩
  · rw [g1 _ _ (by omega) (by decide) (by omega) (by omega), g1 _ _ (by omega) (by decide) (by omega) (by omega)]; exact i1
  · rw [g1 _ _ (by omega) (by decide) (by omega) (by omega)]; exact i2
  · rw [g1 _ _ (by omega) (by decide) (by omega) (by omega)]; exact i3
  · rw [g1 _ _ (by omega) (by decide) (by omega) (by omega)] at q1
    rw [g1 _ _ (by omega) (by decide) (by omega) (by omega), g1 _ _ (by omega) (by decide) (by omega) (by omega)]; exact i4 i q0 q1 q2
  · unfold RPtrs at i5 ⊢
    rw [g1 _ _ (by omega) (by decide) (by omega) (by omega), g1 _ _ (by omega) (by decide) (by omega) (by omega), g1 _ _ (by omega) (by decide) (by omega) (by omega), g1 _ _ (by omega) (by decide) (by omega) (by omega)]; exact i5
theorem k_undo {M : jM} (h : jInv M) : Ret (f_X9_undo M 0) (fun a => Ret (f_X10_undo a.2 62) (fun b => w32 a.1 = w32 b.1 ∧ jInv b.2)) := by
  have hh := h.2.1
  unfold f_X9_undo
  rw [jp_0_0, jp_0_1]
  rcases h.2.2.1 with h0 | ⟨h1, hr⟩
  · rw [h0]
    refine Ret.t w32_0 (Ret.s ?_)
    unfold f_X10_undo
    dsimp +instances only
    rw [← hh, h0]
    exact Ret.t w32_0 (Ret.s ⟨rfl, h⟩)
  · rw [h1]
    have ht := hr.1
    refine Ret.f w32_1n (Ret.bb (s_copyT (M := M) (t := 1) (f := 22) (Or.inl ⟨rfl, rfl⟩) (by rw [ht.1]; exact ht.2.1) (by rw [ht.1]; exact ht.2.2.1)) (fun M1 c => Ret.s ?_))
    have c0 := c.1
    unfold f_X10_undo
    dsimp +instances only
    rw [c0 62 3 (by omega), ← hh, h1, jp_62_1]
    refine Ret.f w32_1n (Ret.bb (r_lay (M := M1) (fr := 64) (to := 63) (by decide) (fun S => rfl)) (fun M2 ⟨l1, l2⟩ => Ret.s ?_))
    have g1 : ∀ a b, ¬ (1 ≤ a ∧ a ≤ 21) → a ≠ 63 → M2 a b = M a b := fun a b q1 q2 => by rw [l1 a b q2, c0 a b (by omega)]
    have g3 : ∀ b, 0 ≤ b → b < 952 → M2 63 b = M 64 b := fun b b0 b1 => by rw [l2 b b0 b1, c0 _ _ (by omega)]
    have cD : CpD M M2 1 22 := CpD.fr (M1 := M1) c.2 (fun a b q1 q2 => l1 a b (by omega))
    have hn : RelT M2 1 63 := hr.move cD g3
    have hi : RelT M2 22 64 := hr.fr (fun a b q1 q2 => g1 _ _ (by omega) (by omega)) (fun b _ _ _ => g1 _ _ (by omega) (by decide))
    dsimp only
    have e7 : M1 1 7 = M2 63 0 := by
      rw [← hn.2.2.2.1.1, l1 _ _ (by decide)]
    refine ⟨by rw [e7], ?_⟩
    obtain ⟨-, -, -, ⟨i1, i2, i3, i4⟩, i5⟩ := h
    refine ⟨hn, by rw [g1 _ _ (by omega) (by decide), g1 _ _ (by omega) (by decide)]; exact hh, Or.inr ⟨by rw [g1 _ _ (by omega) (by decide)]; exact h1, hi⟩, ⟨?_, ?_, ?_, fun i q0 q1 q2 => ?_⟩, ?_⟩
    · rw [g1 _ _ (by omega) (by decide), g1 _ _ (by omega) (by decide)]; exact i1
    · rw [g1 _ _ (by omega) (by decide)]; exact i2
    · rw [g1 _ _ (by omega) (by decide)]; exact i3
    · rw [g1 _ _ (by omega) (by decide)] at q1
      rw [g1 _ _ (by omega) (by decide), g1 _ _ (by omega) (by decide)]; exact i4 i q0 q1 q2
    · unfold RPtrs at i5 ⊢
      rw [g1 _ _ (by omega) (by decide), g1 _ _ (by omega) (by decide), g1 _ _ (by omega) (by decide), g1 _ _ (by omega) (by decide)]; exact i5
