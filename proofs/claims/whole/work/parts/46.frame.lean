theorem Ln.fr {M M' : jM} {t : Int} {d d' : Int → Int} {n : Int} (h : Ln M t d n) (h0 : M' t 0 = M t 0) (h1 : M' t 1 = M t 1) (hd : ∀ i, 0 ≤ i → i < n → d' i = d i) : Ln M' t d' n := by
  obtain ⟨a, b, c, e, f⟩ := h
  refine ⟨a, b, by rw [h0]; exact c, by rw [h1, e]; exact pk4_cong (fun i hi => (hd i (by omega) (by omega)).symm), fun i i0 i1 => by rw [hd i i0 i1]; exact f i i0 i1⟩
theorem RelLn.fr {M M' : jM} {t A b n : Int} (h : RelLn M t A b n) (h0 : M' t 0 = M t 0) (h1 : M' t 1 = M t 1) (hd : ∀ i, 0 ≤ i → i < n → M' A (b + i) = M A (b + i)) : RelLn M' t A b n := Ln.fr h h0 h1 hd
theorem RTape.fr {M M' : jM} {T A : Int} (h : RTape M T A) (h1 : M' T 1 = M T 1) (h2 : M' A 5 = M A 5) (h3 : ∀ i, 0 ≤ i → i < 100 → M' (T + 1) i = M (T + 1) i) (h4 : ∀ i, 0 ≤ i → i < 100 → M' A (132 + i) = M A (132 + i)) : RTape M' T A := by
  obtain ⟨a, b, c, d⟩ := h
  refine ⟨by rw [h1, h2]; exact a, by rw [h2]; exact b, by rw [h2]; exact c, fun i i0 i1 => ?_⟩
  rw [h2] at i1
  rw [h3 i i0 (by omega), h4 i i0 (by omega)]
  exact d i i0 i1
theorem RNums.fr {M M' : jM} {T A : Int} (h : RNums M T A) (h1 : M' T 3 = M T 3) (h2 : M' A 2 = M A 2) (h3 : M' T 4 = M T 4) (h4 : M' A 7 = M A 7) (h5 : M' A 8 = M A 8) : RNums M' T A := by
  unfold RNums at h ⊢
  rw [h1, h2, h3, h4, h5]; exact h
theorem RStrip.fr {M M' : jM} {T A : Int} (h : RStrip M T A) (h0 : M' A 3 = M A 3) (h1 : M' (T + 5) 0 = M (T + 5) 0) (h2 : M' (T + 5) 1 = M (T + 5) 1) (h3 : ∀ i, 0 ≤ i → i < 6 → M' A (66 + i) = M A (66 + i)) : RStrip M' T A := by
  obtain ⟨a, b⟩ := h
  refine ⟨?_, by rw [h0]; exact b⟩
  rw [h0]
  exact a.fr h1 h2 (fun i i0 i1 => h3 i i0 (by omega))
theorem RRows.fr {M M' : jM} {T A : Int} (h : RRows M T A) (h1 : M' T 7 = M T 7) (h2 : M' A 0 = M A 0) (h3 : ∀ r, 0 ≤ r → r < 6 → ∀ j, 0 ≤ j → j < 2 → M' (T + 7 + r) j = M (T + 7 + r) j) (h4 : ∀ i, 10 ≤ i → i < 46 → M' A i = M A i) (h5 : ∀ i, 58 ≤ i → i < 64 → M' A i = M A i) : RRows M' T A := by
  obtain ⟨a, b, c, d⟩ := h
  refine ⟨by rw [h1, h2]; exact a, by rw [h2]; exact b, by rw [h2]; exact c, fun r r0 r1 => ?_⟩
  rw [h2] at r1
  obtain ⟨e, f, g⟩ := d r r0 r1
  rw [h5 (58 + r) (by omega) (by omega)]
  exact ⟨e.fr (h3 r r0 (by omega) 0 (by omega) (by omega)) (h3 r r0 (by omega) 1 (by omega) (by omega)) (fun i i0 i1 => h4 _ (by omega) (by omega)), f, g⟩
theorem RThrown.fr {M M' : jM} {T A : Int} (h : RThrown M T A) (h0 : M' A 4 = M A 4) (h1 : M' (T + 20) 0 = M (T + 20) 0) (h2 : M' (T + 20) 1 = M (T + 20) 1) (h3 : ∀ i, 0 ≤ i → i < 24 → M' A (72 + i) = M A (72 + i)) : RThrown M' T A := by
  unfold RThrown at h ⊢
  rw [h0]
  exact h.fr h1 h2 (fun i i0 i1 => h3 i i0 (by have := h.2.1; omega))
theorem RPlay.fr {M M' : jM} {T A : Int} (h : RPlay M T A) (h1 : M' T 11 = M T 11) (h2 : M' A 1 = M A 1) (h3 : ∀ p, 0 ≤ p → p < 4 → M' (T + 13) p = M (T + 13) p ∧ M' (T + 14) p = M (T + 14) p ∧ M' (T + 16 + p) 0 = M (T + 16 + p) 0 ∧ M' (T + 16 + p) 1 = M (T + 16 + p) 1) (h4 : ∀ i, 96 ≤ i → i < 132 → M' A i = M A i) : RPlay M' T A := by
  obtain ⟨a, b, c, d, e⟩ := h
  refine ⟨by rw [h1, h2]; exact a, by rw [h2]; exact b, by rw [h2]; exact c, fun p p0 p1 => ?_, fun p p0 p1 => ?_⟩
  · rw [h2] at p1
    obtain ⟨q1, q2, q3, q4⟩ := h3 p p0 (by omega)
    obtain ⟨g1, g2, g3, g4, g5, g6, g7, g8⟩ := d p p0 p1
    rw [q1, q2, h4 (96 + p) (by omega) (by omega), h4 (100 + p) (by omega) (by omega), h4 (128 + p) (by omega) (by omega)]
    exact ⟨g1, g2, g3, g4, g5, g6, g7.fr q3 q4 (fun i i0 i1 => h4 _ (by omega) (by omega)), g8⟩
  · rw [h2] at p0
    obtain ⟨q1, q2, q3, q4⟩ := h3 p (by omega) p1
    rw [q3, q4]
    exact e p p0 p1
theorem loadSum_fr {M M' : jM} {H g sg dy : Int} : ∀ {n : Nat}, (∀ i : Nat, i < n → M' (H + 1) i = M (H + 1) i ∧ M' (H + 2) i = M (H + 2) i) → loadSum M' H g sg dy n = loadSum M H g sg dy n
  | 0, _ => rfl
  | n + 1, h => by
    obtain ⟨h1, h2⟩ := h n (by omega)
    show loadSum M' H g sg dy n + _ = loadSum M H g sg dy n + _
    rw [loadSum_fr (fun i hi => h i (by omega)), h1, h2]
theorem stepsOf_fr {M M' : jM} {A h : Int} (h1 : M' A (247 + h) = M A (247 + h)) (h2 : ∀ i, 0 ≤ i → i < M A (247 + h) → M' A (252 + 140 * h + i) = M A (252 + 140 * h + i)) : stepsOf M' A h = stepsOf M A h := by
  unfold stepsOf
  rw [h1]
  refine List.map_congr_left (fun i hi => ?_)
  have := List.mem_range.mp hi
  exact h2 i (by omega) (by omega)
theorem StallOK.fr {M M' : jM} {H A : Int} (h : StallOK M H A) (h1 : ∀ j, 0 ≤ j → j < 4 → M' H j = M H j) (h2 : ∀ i, 0 ≤ i → i < 10 → M' (H + 1) i = M (H + 1) i ∧ M' (H + 2) i = M (H + 2) i) (h3 : M' A 6 = M A 6) (h4 : M' A 2 = M A 2) (hs : M A 2 ≤ 5) (h5 : ∀ i, 232 ≤ i → i < 952 → M' A i = M A i) : StallOK M' H A := by
  rcases h with ⟨a, b, c, d, e⟩ | ⟨a1, a2, a3, a4, a5, a6, a7, a8, a9, a10, a11, a12, a13, a14, a15, a16, a17, a18⟩
  · exact Or.inl ⟨by rw [h3]; exact a, by rw [h1 0 (by decide) (by decide)]; exact b, by rw [h1 1 (by decide) (by decide)]; exact c, by rw [h1 2 (by decide) (by decide)]; exact d, by rw [h1 3 (by decide) (by decide)]; exact e⟩
  · refine Or.inr ?_
    have e0 := h1 0 (by decide) (by decide)
    have e1 := h1 1 (by decide) (by decide)
    have e2 := h1 2 (by decide) (by decide)
    have e3 := h1 3 (by decide) (by decide)
    rw [h3, h4, e0, e1, e2, e3, h5 (232 + M A 6) (by omega) (by omega), h5 (237 + M A 6) (by omega) (by omega), h5 (242 + M A 6) (by omega) (by omega), h5 (247 + M A 6) (by omega) (by omega)]
    refine ⟨a1, a2, a3, a4, a5, a6, a7, a8, a9, a10, a11, a12, a13, fun i i0 i1 => ?_, a15, a16, fun i i0 i1 => ?_, fun sg dy s0 s1 d0 d1 => ?_⟩
    · rw [(h2 i i0 (by omega)).1]; exact a14 i i0 i1
    · rw [h5 _ (by omega) (by omega)]; exact a17 i i0 i1
    · rw [stepsOf_fr (h5 _ (by omega) (by omega)) (fun i i0 i1 => h5 _ (by omega) (by omega)), loadSum_fr (fun i hi => h2 i (by omega) (by omega))]
      exact a18 sg dy s0 s1 d0 d1
theorem RelT.fr {M M' : jM} {T A : Int} (h : RelT M T A) (h1 : ∀ a b, T ≤ a → a ≤ T + 20 → M' a b = M a b) (h2 : ∀ b, ¬ (46 ≤ b ∧ b < 58) → b ≠ 64 → b ≠ 65 → M' A b = M A b) : RelT M' T A := by
  obtain ⟨a, b, c, d, e, f, g⟩ := h
  exact ⟨a.fr (h1 _ _ (by omega) (by omega)) (h2 _ (by omega) (by omega) (by omega)) (fun i _ _ => h1 _ _ (by omega) (by omega)) (fun i _ _ => h2 _ (by omega) (by omega) (by omega)),
    b.fr (h1 _ _ (by omega) (by omega)) (h2 _ (by omega) (by omega) (by omega)) (h1 _ _ (by omega) (by omega)) (h2 _ (by omega) (by omega) (by omega)) (h2 _ (by omega) (by omega) (by omega)),
    c.fr (h2 _ (by omega) (by omega) (by omega)) (h1 _ _ (by omega) (by omega)) (h1 _ _ (by omega) (by omega)) (fun i _ _ => h2 _ (by omega) (by omega) (by omega)),
    d.fr (h1 _ _ (by omega) (by omega)) (h2 _ (by omega) (by omega) (by omega)) (fun r _ _ j _ _ => h1 _ _ (by omega) (by omega)) (fun i _ _ => h2 _ (by omega) (by omega) (by omega)) (fun i _ _ => h2 _ (by omega) (by omega) (by omega)),
    e.fr (h2 _ (by omega) (by omega) (by omega)) (h1 _ _ (by omega) (by omega)) (h1 _ _ (by omega) (by omega)) (fun i _ _ => h2 _ (by omega) (by omega) (by omega)),
    f.fr (h1 _ _ (by omega) (by omega)) (h2 _ (by omega) (by omega) (by omega)) (fun p _ _ => ⟨h1 _ _ (by omega) (by omega), h1 _ _ (by omega) (by omega), h1 _ _ (by omega) (by omega), h1 _ _ (by omega) (by omega)⟩) (fun i _ _ => h2 _ (by omega) (by omega) (by omega)),
    g.fr (fun j _ _ => h1 _ _ (by omega) (by omega)) (fun i _ _ => ⟨h1 _ _ (by omega) (by omega), h1 _ _ (by omega) (by omega)⟩) (h2 _ (by omega) (by omega) (by omega)) (h2 _ (by omega) (by omega) (by omega)) b.2.2.1 (fun i _ _ => h2 _ (by omega) (by omega) (by omega))⟩
