/-! the weights on both sides -/
theorem jInv.hd {M0 M : jM} (h : jInv M0) (f : Fr8 M0 M) : M 63 6 = M0 63 6 ∧ (M0 63 6 = -1 ∨ (0 ≤ M0 63 6 ∧ M0 63 6 ≤ 4)) := by
  have hs := h.1.2.1.2.2.1
  refine ⟨f 63 6 (kp_63 (by omega) (by omega) (by omega)) (by omega), ?_⟩
  rcases h.1.2.2.2.2.2.2 with ⟨a, _⟩ | ⟨a1, a2, _⟩
  · exact Or.inl a
  · exact Or.inr ⟨a1, by omega⟩
theorem r_tellsOf {M0 M : jM} (h : jInv M0) (f : Fr8 M0 M) {wh no : Int} (h0 : 232 ≤ wh) (h1 : wh ≤ 247) : f_X10_tellsOf M 62 wh no = some (if M0 63 6 = -1 then no else M0 63 (wh + M0 63 6)) := by
  obtain ⟨e, hh⟩ := h.hd f
  unfold f_X10_tellsOf
  rw [jp_62_1, e, w32_id (x := M0 63 6) (by omega) (by omega)]
  by_cases c : M0 63 6 = -1
  · rw [if_pos c, if_pos c]
  · rw [if_neg c, if_neg c, w32_id (x := wh + M0 63 6) (by omega) (by omega), f 63 (wh + M0 63 6) (kp_63 (by omega) (by omega) (by omega)) (by omega)]
    unfold grd
    rw [if_pos ⟨by omega, by omega⟩]
theorem r_signs {M0 M : jM} (h : jInv M0) (f : Fr8 M0 M) : f_X10_signs M 62 = some (M0 3 0) := by
  unfold f_X10_signs
  rw [r_tellsOf h f (by decide) (by decide)]
  show (if w32 (if M0 63 6 = -1 then 2 else M0 63 (232 + M0 63 6)) ≤ 2 then some 2 else some 3) = _
  rcases h.1.2.2.2.2.2.2 with ⟨a, b, _⟩ | ⟨a1, a2, a3, a4, a5, _⟩
  · have b : M0 3 0 = 2 := b
    rw [if_pos a, w32_id (by decide) (by decide), if_pos (by decide), b]
  · have a3 : M0 3 0 = (if 2 < M0 63 (232 + M0 63 6) then 3 else 2) := a3
    rw [if_neg (show ¬ M0 63 6 = -1 by omega), w32_id (by omega) (by omega), a3]
    by_cases c : 2 < M0 63 (232 + M0 63 6)
    · rw [if_pos c, if_neg (by omega)]
    · rw [if_neg c, if_pos (by omega)]
/-- with another weight of sign 0 (0: none) -/
def wO (M : jM) (o : Int) : Int → Int := fun s => if s = 0 ∧ 0 < o then o else wOf M s
theorem stepT_of {M0 M : jM} {h : Int} (hr : ∀ i, 0 ≤ i → i < M0 63 (247 + h) → M 63 (252 + 140 * h + i) = M0 63 (252 + 140 * h + i)) : stepT M (252 + 140 * h) 0 (M0 63 (247 + h)).toNat = stepsOf M0 63 h := by
  unfold stepT stepsOf
  rw [List.range_eq_range']
  refine List.map_congr_left (fun i hi => ?_)
  have := List.mem_range'_1.mp hi
  exact hr _ (by omega) (by omega)
theorem r_wt22 {M0 M : jM} (h : jInv M0) (f : Fr8 M0 M) {s : Int} (s0 : 0 ≤ s) (s1 : s < M0 3 0) : Ret (f_X10_weightOf_22 M 62 s) (fun x => x.1 = wOf M0 s ∧ ∀ a b, a ≠ 65 → a ≠ 66 → x.2 a b = M a b) := by
  obtain ⟨g0, g1, hv0, hv1, hl, -, -, -, -, hdy, d0, d1, -⟩ := h.st
  have hw := wOf_rng h s0 s1
  unfold f_X10_weightOf_22
  rw [jp_62_9, jp_62_1]
  refine Ret.l ?_
  have f1 : Fr8 M0 (sto M 65 0 s) := f.sto (Or.inl (by unfold kp; omega))
  rw [r_signs h f1]
  refine Ret.b ⟨M0 3 0, rfl, Ret.l (Ret.l ?_)⟩
  have e7 : sto (sto M 65 0 s) 65 1 (M0 3 0) 63 7 = M0 1 4 := by
    rw [sto_ne (by omega), sto_ne (by omega), f 63 7 (kp_63 (by omega) (by omega) (by omega)) (by omega)]
    exact hdy.symm
  rw [e7]
  have f2 : Fr8 M0 (sto (sto (sto M 65 0 s) 65 1 (M0 3 0)) 65 2 (M0 1 4)) := (f1.sto (Or.inl (by unfold kp; omega))).sto (Or.inl (by unfold kp; omega))
  have b0 : sto (sto (sto M 65 0 s) 65 1 (M0 3 0)) 65 2 (M0 1 4) 65 0 = s := by rw [sto_ne (by omega), sto_ne (by omega), sto_eq rfl rfl]
  have b1 : sto (sto (sto M 65 0 s) 65 1 (M0 3 0)) 65 2 (M0 1 4) 65 1 = M0 3 0 := by rw [sto_ne (by omega), sto_eq rfl rfl]
  have b2 : sto (sto (sto M 65 0 s) 65 1 (M0 3 0)) 65 2 (M0 1 4) 65 2 = M0 1 4 := sto_eq rfl rfl
  have fe : ∀ a b, a ≠ 65 → sto (sto (sto M 65 0 s) 65 1 (M0 3 0)) 65 2 (M0 1 4) a b = M a b := fun a b q => by rw [sto_ne (by omega), sto_ne (by omega), sto_ne (by omega)]
  generalize sto (sto (sto M 65 0 s) 65 1 (M0 3 0)) 65 2 (M0 1 4) = M1 at f2 b0 b1 b2 fe ⊢
  obtain ⟨he, hh⟩ := h.hd f2
  rw [r_tellsOf h f2 (by decide) (by decide), he]
  refine Ret.b ⟨_, rfl, ?_⟩
  dsimp only
  have fin : ∀ R many : Int, R ≤ 1000 → 0 ≤ R → wOf M0 s = min 4 R → 0 ≤ many → 252 + 140 * M0 63 6 + many ≤ 952 → (∀ i, 0 ≤ i → i < many → -2147483648 ≤ M1 63 (252 + 140 * M0 63 6 + i) ∧ M1 63 (252 + 140 * M0 63 6 + i) < 2147483648) → evS (M0 3 0) (M0 1 4) s (stepT M1 (252 + 140 * M0 63 6) 0 many.toNat) [] 1 = some R → Ret ((iter (f_X10_weightOf_L87 M1 62 many (252 + (140 * M0 63 6))) 5000 (M1, 1, 0, 252 + (140 * M0 63 6))).bind (fun x43 => (if w32 x43.2 ≤ 4 then some (x43.2, x43.1) else some (4, x43.1)))) (fun x => x.1 = wOf M0 s ∧ ∀ a b, a ≠ 65 → a ≠ 66 → x.2 a b = M a b) := by
    intro R many r0 r1 hW m0 m1 hs hR
    refine Ret.bb (r_evs b0 b1 b2 (by omega) (by omega) m0 m1 hs hR) (fun x hx => ?_)
    obtain ⟨x1, x2⟩ := hx
    have fr : ∀ a b, a ≠ 65 → a ≠ 66 → x.1 a b = M a b := fun a b q1 q2 => by rw [x2 a b q2, fe a b q1]
    rw [x1, w32_id (x := R) (by omega) (by omega)]
    refine Ret.i (fun c => Ret.s ⟨?_, fr⟩) (fun c => Ret.s ⟨?_, fr⟩)
    · dsimp only
      rw [hW]; omega
    · dsimp only
      rw [hW]; omega
  rcases h.1.2.2.2.2.2.2 with ⟨a, b, c, d, e⟩ | ⟨a1, a2, a3, a4, a5, a6, a7, a8, a9, a10, a11, a12, a13, a14, a15, a16, a17, a18⟩
  · rw [if_pos a]
    have e : M0 3 3 = 0 := e
    refine fin 1 0 (by decide) (by decide) ?_ (by decide) (by omega) (fun i i0 i1 => by omega) rfl
    unfold wOf
    rw [if_pos ⟨s0, s1⟩, e]
    rfl
  · rw [if_neg (show ¬ M0 63 6 = -1 by omega)]
    have hs5 := h.1.2.1.2.2.1
    have z := a18 s (M0 1 4) s0 (by omega) d0 d1
    have hq := loadSum_nn (M := M0) (H := 3) (g := M0 3 0) (sg := s) (dy := M0 1 4) (n := (M0 3 3).toNat) (fun i i0 i1 => hl i i0 (by omega))
    have ek : ∀ i, 0 ≤ i → i < M0 63 (247 + M0 63 6) → M1 63 (252 + 140 * M0 63 6 + i) = M0 63 (252 + 140 * M0 63 6 + i) := fun i i0 i1 => f2 _ _ (kp_63 (by omega) (by omega) (by omega)) (by omega)
    refine fin (1 + loadSum M0 3 (M0 3 0) s (M0 1 4) (M0 3 3).toNat) _ (by omega) (by omega) ?_ a15 (by omega) (fun i i0 i1 => ?_) ?_
    · unfold wOf
      rw [if_pos ⟨s0, s1⟩]
    · rw [ek i i0 i1]
      exact a17 i i0 i1
    · rw [stepT_of ek]
      exact z
theorem r_weightOf {M0 M : jM} (h : jInv M0) (f : Fr8 M0 M) {s o : Int} (ho : M 63 8 = o) (o0 : 0 ≤ o) (o1 : o ≤ 9) (s0 : 0 ≤ s) (s1 : s < M0 3 0) : Ret (f_X10_weightOf M 62 s) (fun x => x.1 = wO M0 o s ∧ ∀ a b, a ≠ 65 → a ≠ 66 → x.2 a b = M a b) := by
  have hg := h.st.2.1
  unfold f_X10_weightOf wO
  rw [jp_62_1, ho, w32_id (x := s) (by omega) (by omega), w32_id (x := o) (by omega) (by omega)]
  refine Ret.i (fun c => Ret.i (fun c2 => ?_) (fun c2 => ?_)) (fun c => ?_)
  · rw [if_neg (by omega)]; exact r_wt22 h f s0 s1
  · rw [if_pos ⟨c, by omega⟩]
    exact Ret.s ⟨rfl, fun _ _ _ _ => rfl⟩
  · rw [if_neg (by omega)]; exact r_wt22 h f s0 s1
def aO (M : jM) (o : Int) : Int := wO M o 0 + wO M o 1 + wO M o 2
/-- what looksForWeights leaves -/
def Ex4 (M M' : jM) : Prop := ∀ a b, a ≠ 65 → a ≠ 66 → a ≠ 67 → ¬ (a = 62 ∧ b = 12) → M' a b = M a b
theorem Ex4.f8 {M0 M M' : jM} (f : Fr8 M0 M) (h : Ex4 M M') : Fr8 M0 M' := fun a b k n => (h a b (by unfold kp at k; omega) (by unfold kp at k; omega) (by unfold kp at k; omega) (by unfold kp at k; omega)).trans (f a b k n)
theorem Ex4.fr {M0 M M' : jM} (f : Fr M0 M) (h : Ex4 M M') : Fr M0 M' := fun a b k => (h a b (by unfold kp at k; omega) (by unfold kp at k; omega) (by unfold kp at k; omega) (by unfold kp at k; omega)).trans (f a b k)
theorem Ex4.pt {M0 M M' : jM} (f : Pt M0 M) (h : Ex4 M M') : Pt M0 M' := f.tr ⟨h _ _ (by decide) (by decide) (by decide) (by omega), h _ _ (by decide) (by decide) (by decide) (by omega), h _ _ (by decide) (by decide) (by decide) (by omega), h _ _ (by decide) (by decide) (by decide) (by omega)⟩
def sumW (w : Int → Int) : Nat → Int
  | 0 => 0
  | n + 1 => sumW w n + w n
theorem wO_rng {M : jM} (h : jInv M) {o s : Int} (o0 : 0 ≤ o) (o1 : o ≤ 9) (s0 : 0 ≤ s) (s1 : s < M 3 0) : 1 ≤ wO M o s ∧ wO M o s ≤ 9 := by
  have := wOf_rng h s0 s1
  unfold wO
  split <;> omega
theorem wO_wb {M : jM} (h : jInv M) {o : Int} (o0 : 0 ≤ o) (o1 : o ≤ 9) : WtB (M 3 0) (wO M o) (aO M o) := by
  obtain ⟨g0, g1, -⟩ := h.st
  refine ⟨g0, g1, fun s s0 s1 => wO_rng h o0 o1 s0 s1, fun s s1 => ?_, rfl⟩
  unfold wO
  rw [if_neg (by omega)]
  exact wOf_hi s1
theorem wO_0 {M : jM} : wO M 0 = wOf M := by
  funext s
  unfold wO
  rw [if_neg (by omega)]
theorem aO_0 {M : jM} : aO M 0 = aOf M := by
  unfold aO aOf
  rw [wO_0]
theorem r_looks {M0 M : jM} (h : jInv M0) (f : Fr8 M0 M) {o : Int} (ho : M 63 8 = o) (o0 : 0 ≤ o) (o1 : o ≤ 9) : Ret (f_X10_looksForWeights M 62) (fun M' => Ex4 M M' ∧ RWt M' (M0 3 0) (wO M0 o) (aO M0 o)) := by
  obtain ⟨g0, g1, -⟩ := h.st
  have hwb := wO_wb h o0 o1
  unfold f_X10_looksForWeights
  refine Ret.l (Ret.bb (P := fun M' => Ex4 M M' ∧ RWt M' (M0 3 0) (wO M0 o) (aO M0 o)) ?_ (fun M' h' => Ret.s h'))
  refine Ret.it (fun S : jM × Int => Ex4 M S.1 ∧ 0 ≤ S.2 ∧ S.2 ≤ M0 3 0 ∧ (∀ s, 0 ≤ s → s < S.2 → S.1 67 s = wO M0 o s) ∧ S.1 62 12 = sumW (wO M0 o) S.2.toNat) (fun S => (M0 3 0 - S.2).toNat) ?_ 5000 _ ⟨fun a b q1 q2 q3 q4 => by show sto M 62 12 0 a b = _; rw [sto_ne q4], by show (0 : Int) ≤ 0; omega, by show (0 : Int) ≤ _; omega, fun s s0 s1 => absurd s1 (by show ¬ s < 0; omega), by show sto M 62 12 0 62 12 = 0; exact sto_eq rfl rfl⟩ (by show (M0 3 0 - 0).toNat < 5000; omega)
  rintro ⟨M1, k⟩ ⟨e, k0, k1, hw, ha⟩
  dsimp only at e k0 k1 hw ha
  unfold f_X10_looksForWeights_L7
  dsimp +instances only
  have f1 : Fr8 M0 M1 := e.f8 f
  rw [r_signs h f1]
  refine Ret.b ⟨M0 3 0, rfl, ?_⟩
  dsimp only
  rw [w32_id (x := M0 3 0) (by omega) (by omega), w32_id (x := k) (by omega) (by omega)]
  refine Ret.i (fun c => Rr ⟨e, ?_, ?_⟩) (fun c => ?_)
  · rw [ha]
    have hk : k = M0 3 0 := by omega
    have hg : M0 3 0 = 2 ∨ M0 3 0 = 3 := by omega
    unfold aO
    rcases hg with q | q
    · have z : wO M0 o 2 = 0 := hwb.2.2.2.1 2 (by omega)
      rw [hk, q, z]
      show 0 + wO M0 o 0 + wO M0 o 1 = _
      omega
    · rw [hk, q]
      show 0 + wO M0 o 0 + wO M0 o 1 + wO M0 o 2 = _
      omega
  · intro s s0 s1
    exact hw s s0 (by omega)
  · have ho1 : M1 63 8 = o := by rw [e 63 8 (by decide) (by decide) (by decide) (by omega)]; exact ho
    refine Ret.bb (r_weightOf h f1 ho1 o0 o1 k0 (by omega)) ?_
    rintro ⟨v, M2⟩ ⟨hv, he⟩
    dsimp only at hv he
    rw [jp_62_11]
    refine Ret.g ⟨k0, by omega⟩ (Ret.l (Ret.g ⟨k0, by omega⟩ (Ret.l ?_)))
    refine Rl ⟨⟨fun a b q1 q2 q3 q4 => ?_, by show 0 ≤ k + 1; omega, by show k + 1 ≤ _; omega, fun s s0 s1 => ?_, ?_⟩, by show (M0 3 0 - (k + 1)).toNat < (M0 3 0 - k).toNat; omega⟩
    · dsimp only
      rw [sto_ne q4, sto_ne (by omega), he a b q1 q2, e a b q1 q2 q3 q4]
    · dsimp only at s1 ⊢
      rw [sto_ne (by omega)]
      by_cases q : s = k
      · rw [q, sto_eq rfl rfl, hv]
      · rw [sto_ne (by omega), he _ _ (by decide) (by decide)]
        exact hw s s0 (by omega)
    · dsimp only
      have ek : (k + 1).toNat = k.toNat + 1 := by omega
      rw [sto_eq rfl rfl, sto_ne (by omega), sto_eq rfl rfl, he _ _ (by decide) (by decide), ha, hv, ek]
      show _ = sumW (wO M0 o) k.toNat + wO M0 o (k.toNat : Int)
      rw [Int.toNat_of_nonneg k0]
/-- the class's scale -/
def ExS (M M' : jM) : Prop := ∀ a b, a ≠ 47 → a ≠ 48 → M' a b = M a b
theorem ExS.fr {M0 M M' : jM} (f : Fr M0 M) (h : ExS M M') : Fr M0 M' := fun a b k => (h a b (by unfold kp at k; omega) (by unfold kp at k; omega)).trans (f a b k)
theorem ExS.pt {M0 M M' : jM} (f : Pt M0 M) (h : ExS M M') : Pt M0 M' := f.tr ⟨h _ _ (by decide) (by decide), h _ _ (by decide) (by decide), h _ _ (by decide) (by decide), h _ _ (by decide) (by decide)⟩
theorem s_weigh {M0 M : jM} (h : jInv M0) (f : Fr M0 M) : Ret (f_X9_weigh M 0) (fun M' => ExS M M' ∧ SWt M' (M0 3 0) (wOf M0) (aOf M0)) := by
  obtain ⟨g0, g1, hv0, hv1, hl, -⟩ := h.st
  unfold f_X9_weigh f_X6_weigh
  rw [jp_0_0, jp_0_5, jp_1_2]
  refine Ret.b (Ret.l (Ret.l (Ret.bb (P := fun M' => ExS M M' ∧ SWt M' (M0 3 0) (wOf M0) (aOf M0)) ?_ (fun M' h' => Ret.s (Ret.s h')))))
  have e30 : M 3 0 = M0 3 0 := f 3 0 (kp_lo (by decide))
  have e14 : M 1 4 = M0 1 4 := f 1 4 (kp_lo (by decide))
  rw [e30, e14]
  refine Ret.it (fun S : jM × Int => ExS M S.1 ∧ 0 ≤ S.2 ∧ S.2 ≤ 3 ∧ (∀ s, 0 ≤ s → s < S.2 → S.1 48 s = wOf M0 s) ∧ S.1 47 0 = M0 3 0 ∧ S.1 47 1 = sumW (wOf M0) S.2.toNat) (fun S => (3 - S.2).toNat) ?_ 5000 _ ⟨fun a b q1 q2 => by show sto (sto M 47 0 (M0 3 0)) 47 1 0 a b = _; rw [sto_ne (by omega), sto_ne (by omega)], by show (0 : Int) ≤ 0; omega, by show (0 : Int) ≤ 3; omega, fun s s0 s1 => absurd s1 (by show ¬ s < 0; omega), by show sto (sto M 47 0 (M0 3 0)) 47 1 0 47 0 = _; rw [sto_ne (by omega), sto_eq rfl rfl], by show sto (sto M 47 0 (M0 3 0)) 47 1 0 47 1 = 0; exact sto_eq rfl rfl⟩ (by show (3 - 0 : Int).toNat < 5000; decide)
  rintro ⟨M1, k⟩ ⟨e, k0, k1, hw, hg, ha⟩
  dsimp only at e k0 k1 hw hg ha
  unfold f_X6_weigh_L15 f_X6_weigh_43
  dsimp +instances only
  rw [hg, w32_id (x := M0 3 0) (by omega) (by omega), w32_id (x := k) (by omega) (by omega), jp_47_2]
  have put : k < 3 → ∀ v, v = wOf M0 k → Ret (grd (0 ≤ k ∧ k < 3) (lt1 (sto M1 48 k v) fun M6 => grd (0 ≤ k ∧ k < 3) (lt1 (sto M6 47 1 ((M6 47 1) + (M6 48 k))) fun M8 => (some (Sum.inl (M8, k + 1)) : Option ((jM × Int) ⊕ jM))))) (fun r => (∀ t, r = .inl t → ((ExS M t.1 ∧ 0 ≤ t.2 ∧ t.2 ≤ 3 ∧ (∀ s, 0 ≤ s → s < t.2 → t.1 48 s = wOf M0 s) ∧ t.1 47 0 = M0 3 0 ∧ t.1 47 1 = sumW (wOf M0) t.2.toNat) ∧ (3 - t.2).toNat < (3 - k).toNat)) ∧ (∀ x, r = .inr x → ExS M x ∧ SWt x (M0 3 0) (wOf M0) (aOf M0))) := by
    intro kk v hv
    refine Ret.g ⟨k0, by omega⟩ (Ret.l (Ret.g ⟨k0, by omega⟩ (Ret.l ?_)))
    refine Rl ⟨⟨fun a b q1 q2 => ?_, by show 0 ≤ k + 1; omega, by show k + 1 ≤ _; omega, fun s s0 s1 => ?_, ?_, ?_⟩, by show (3 - (k + 1)).toNat < (3 - k).toNat; omega⟩
    · dsimp only
      rw [sto_ne (by omega), sto_ne (by omega), e a b q1 q2]
    · dsimp only at s1 ⊢
      rw [sto_ne (by omega)]
      by_cases q : s = k
      · rw [q, sto_eq rfl rfl, hv]
      · rw [sto_ne (by omega)]
        exact hw s s0 (by omega)
    · dsimp only
      rw [sto_ne (by omega), sto_ne (by omega), hg]
    · dsimp only
      have ek : (k + 1).toNat = k.toNat + 1 := by omega
      rw [sto_eq rfl rfl, sto_ne (by omega), sto_eq rfl rfl, ha, hv, ek]
      show _ = sumW (wOf M0) k.toNat + wOf M0 (k.toNat : Int)
      rw [Int.toNat_of_nonneg k0]
  refine Ret.i (fun c => Rr ⟨e, hg, ?_, fun s s0 s1 => hw s s0 (by omega)⟩) (fun c => Ret.i (fun c2 => put (by omega) 0 (wOf_hi c2).symm) (fun c2 => ?_))
  · rw [ha]
    have hk : k = 3 := by omega
    rw [hk]
    show 0 + wOf M0 0 + wOf M0 1 + wOf M0 2 = _
    unfold aOf
    omega
  · have f1 := e.fr f
    have hq : M1 3 3 = M0 3 3 := f1 3 3 (kp_lo (by decide))
    have hls : loadSum M1 3 (M0 3 0) k (M0 1 4) (M0 3 3).toNat = loadSum M0 3 (M0 3 0) k (M0 1 4) (M0 3 3).toNat := loadSum_fr (fun i _ => ⟨f1 _ _ (kp_lo (by decide)), f1 _ _ (kp_lo (by decide))⟩)
    refine Ret.bb (s_stallW (M := M1) (g := M0 3 0) (s := k) (dy := M0 1 4) (h := M0 3 3) (f1 3 0 (kp_lo (by decide))) hq g0 g1 hv0 hv1 (fun i i0 i1 => by rw [f1 4 i (kp_lo (by decide))]; exact hl i i0 i1)) (fun v hv => put (by omega) v ?_)
    rw [hv, hls]
    unfold wOf
    rw [if_pos ⟨k0, by omega⟩]
