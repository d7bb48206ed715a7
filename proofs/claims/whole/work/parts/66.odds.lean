/-! waits, odds, lasts, half, worth, often -/
theorem s_isPart (M : jM) {p : Int} (p0 : -2147483648 ≤ p) (p1 : p < 2147483648) : f_X9_isPart M p = some (if p = 0 ∨ p = 1 then 1 else 0) := by
  unfold f_X9_isPart f_X9_isPart_9
  rw [w32_id p0 p1]
  by_cases h0 : p = 0
  · rw [if_pos h0, if_pos (Or.inl h0)]
  · rw [if_neg h0]
    by_cases h1 : p = 1
    · rw [if_pos h1, if_pos (Or.inr h1)]
    · rw [if_neg h1, if_neg (by omega)]
theorem r_isPart (M : jM) {p : Int} (p0 : -2147483648 ≤ p) (p1 : p < 2147483648) : f_X10_in M p 0 1 = some (if p = 0 ∨ p = 1 then 1 else 0) := by
  rw [r_in M p0 p1 (by decide) (by decide) (by decide) (by decide)]
  by_cases c : p = 0 ∨ p = 1
  · rw [if_pos c, if_pos (by omega)]
  · rw [if_neg c, if_neg (by omega)]
theorem s_rowAt' {M0 M : jM} (h : jInv M0) (f : Fr M0 M) {r : Int} (n0 : -2147483648 ≤ r) (n1 : r < 2147483648) : f_X8_rowAt M 1 r = some (if 0 ≤ r ∧ r < M0 63 0 then 8 + r else -1) := by
  have hR := h.1.2.2.2.1
  obtain ⟨a, b, c, -⟩ := hR
  have a : M0 1 7 = M0 63 0 := a
  unfold f_X8_rowAt f_X8_rowAt_12
  rw [w32_id n0 n1, f 1 7 (kp_lo (by decide)), a, w32_id (x := M0 63 0) (by omega) (by omega), jp_1_6]
  by_cases h1 : r < 0
  · rw [if_pos h1, if_neg (by omega)]
  · rw [if_neg h1]
    by_cases h2 : r < M0 63 0
    · rw [if_pos h2, if_pos ⟨by omega, h2⟩, jp_7 (by omega) (by omega)]
      unfold grd
      rw [if_pos ⟨by omega, by omega⟩]
    · rw [if_neg h2, if_neg (by omega)]
/-- lawful, or none -/
theorem s_lawfulRow {M0 M : jM} (h : jInv M0) (f : Fr M0 M) {w : Int → Int} {al : Int} (hw : SWt M (M0 3 0) w al) {r : Int} (n0 : -2147483648 ≤ r) (n1 : r < 2147483648) : Ret (f_X9_lawfulRow M 0 r) (fun v => (v = -1 ∧ ¬ (isRw M0 r ∧ LawD (M0 3 0) (rowd M0 r) (rowz M0 r))) ∨ (v = 8 + r ∧ isRw M0 r ∧ LawD (M0 3 0) (rowd M0 r) (rowz M0 r))) := by
  obtain ⟨g0, g1, -⟩ := h.st
  unfold f_X9_lawfulRow
  rw [jp_0_0, s_rowAt' h f n0 n1, jp_0_5]
  by_cases c : 0 ≤ r ∧ r < M0 63 0
  · rw [if_pos c]
    have hq := h.1.2.2.2.1.2.2.1
    obtain ⟨l1, l2, l3⟩ := h.rl f c.1 c.2
    refine Ret.b ⟨8 + r, rfl, Ret.g (Or.inr (kd_row c.1 (by omega))) (Ret.f (by omega) (Ret.bb (s_isLawful l1 hw.1 g0 g1) (fun v hv => ?_)))⟩
    rw [w32_id (x := v) (by omega) (by omega)]
    refine Ret.i (fun c2 => Ret.s (Or.inl ⟨rfl, fun q => ?_⟩)) (fun c2 => Ret.s (Or.inr ⟨rfl, c, hv.2.mp (by omega)⟩))
    have := hv.2.mpr q.2
    omega
  · rw [if_neg c]
    exact Ret.b ⟨-1, rfl, Ret.g (Or.inl (by decide)) (Ret.t (by decide) (Ret.s (Or.inl ⟨rfl, fun q => c q.1⟩)))⟩
theorem kd_of {M : jM} (h : jInv M) {v r : Int} {P : Prop} {Q : Prop} (hv : (v = -1 ∧ P) ∨ (v = 8 + r ∧ isRw M r ∧ Q)) : v < 0 ∨ jkd v = (3, 0) := by
  have hq := h.1.2.2.2.1.2.2.1
  rcases hv with ⟨rfl, _⟩ | ⟨rfl, q, _⟩
  · exact Or.inl (by decide)
  · exact Or.inr (kd_row q.1 (by have := q.2; omega))
theorem SWt.fr {M M' : jM} {g : Int} {w : Int → Int} {al : Int} (h : SWt M g w al) (e : ∀ a b, a ≠ 49 → M' a b = M a b) : SWt M' g w al := ⟨by rw [e _ _ (by decide)]; exact h.1, by rw [e _ _ (by decide)]; exact h.2.1, fun s s0 s1 => by rw [e _ _ (by decide)]; exact h.2.2 s s0 s1⟩
theorem s_measured {M0 M : jM} (h : jInv M0) (f : Fr M0 M) (p : Pt M0 M) {a b : Int} (a0 : -2147483648 ≤ a) (a1 : a < 2147483648) (b0 : -2147483648 ≤ b) (b1 : b < 2147483648) : Ret (f_X9_measured M 0 a b) (fun x => Fr M0 x.2 ∧ Pt M0 x.2 ∧ SWt x.2 (M0 3 0) (wOf M0) (aOf M0) ∧ ((x.1 = 0 ∧ ¬ Meet M0 a b) ∨ (x.1 = 1 ∧ Meet M0 a b ∧ Duel x.2 (wOf M0) (aOf M0) (rowd M0 a) (rowz M0 a) (rowd M0 b) (rowz M0 b)))) := by
  unfold f_X9_measured
  refine Ret.bb (s_weigh h f) (fun M1 h1 => ?_)
  obtain ⟨e1, w1⟩ := h1
  have f1 := e1.fr f
  have p1 := e1.pt p
  refine Ret.bb (s_lawfulRow h f1 w1 a0 a1) (fun v hv => Ret.g (kd_of h hv) (Ret.bb (s_lawfulRow h f1 w1 b0 b1) (fun u hu => Ret.g (kd_of h hu) ?_)))
  rcases hv with ⟨rfl, hv⟩ | ⟨rfl, hv⟩
  · exact Ret.t (by decide) (Ret.s ⟨f1, p1, w1, Or.inl ⟨rfl, fun q => hv ⟨q.1, q.2.2.1⟩⟩⟩)
  · have := hv.1.1
    refine Ret.f (by omega) ?_
    rcases hu with ⟨rfl, hu⟩ | ⟨rfl, hu⟩
    · exact Ret.t (by decide) (Ret.s ⟨f1, p1, w1, Or.inl ⟨rfl, fun q => hu ⟨q.2.1, q.2.2.2.1⟩⟩⟩)
    · have := hu.1.1
      refine Ret.f (by omega) ?_
      obtain ⟨la, la1, la2⟩ := h.rl f1 hv.1.1 hv.1.2
      obtain ⟨lb, lb1, lb2⟩ := h.rl f1 hu.1.1 hu.1.2
      refine Ret.bb (s_isApart la lb la1 lb1) (fun t ht => ?_)
      rw [w32_id (x := t) (by omega) (by omega)]
      refine Ret.i (fun c => Ret.s ⟨f1, p1, w1, Or.inl ⟨rfl, fun q => ?_⟩⟩) (fun c => ?_)
      · have := ht.2.mpr q.2.2.2.2
        omega
      · rw [jp_0_6, jp_0_5]
        refine Ret.bb (s_measure la lb w1 h.wb) (fun M2 h2 => Ret.s ?_)
        obtain ⟨e2, d2⟩ := h2
        exact ⟨f1.tr (fun x y k => e2 x y (by unfold kp at k; omega)), p1.tr ⟨e2 _ _ (by decide), e2 _ _ (by decide), e2 _ _ (by decide), e2 _ _ (by decide)⟩, w1.fr e2, Or.inr ⟨rfl, ⟨hv.1, hu.1, hv.2, hu.2, ht.2.mp (by omega)⟩, d2⟩⟩
theorem rowd_rng {M : jM} (h : jInv M) {r : Int} (hr : isRw M r) : ∀ j, 0 ≤ j → j < rowz M r → 0 ≤ rowd M r j ∧ rowd M r j ≤ 2 := fun j j0 j1 => by
  obtain ⟨l, _⟩ := h.rl Fr.rfl hr.1 hr.2
  exact l.2.2.2.2 j j0 j1
theorem rowz_rng {M : jM} (h : jInv M) {r : Int} (hr : isRw M r) : 1 ≤ rowz M r ∧ rowz M r ≤ 6 := (h.rl Fr.rfl hr.1 hr.2).2
/-- how large the numbers of a lap and a product are -/
theorem lap_bd {w : Int → Int} {g al : Int} (hB : WtB g w al) {x : Int → Int} {n : Int} {y : Int → Int} {m : Int} (m1 : m ≤ 6) (hy : ∀ j, 0 ≤ j → j < m → 0 ≤ y j ∧ y j ≤ 2) : 0 ≤ lapW w al x n y m.toNat ∧ lapW w al x n y m.toNat ≤ 580333572 ∧ 0 ≤ prodW w y m.toNat ∧ prodW w y m.toNat ≤ 531441 := by
  have ha := hB.al
  have h1 : ∀ i : Int, 0 ≤ i → i < m.toNat → 0 ≤ w (y i) ∧ w (y i) ≤ 9 := fun i i0 i1 => hB.w (hy i i0 (by omega)).1
  have c := cap27 m.toNat (by omega)
  have a1 := lapW_nn (w := w) (al := al) (x := x) (n := n) (y := y) (by omega) (k := m.toNat) (fun i i0 i1 => (h1 i i0 i1).1)
  have a2 := lapW_le (w := w) (al := al) (A := 27) (W := 9) (x := x) (n := n) (y := y) (by omega) (by omega) (k := m.toNat) h1
  have a3 := prodW_nn (w := w) (y := y) (n := m.toNat) (fun i i0 i1 => (h1 i i0 i1).1)
  have a4 := prodW_le (w := w) (y := y) (k := m.toNat) h1
  omega
theorem lap_bd4 {w : Int → Int} {g al : Int} (hB : WtB g w al) (h4 : ∀ s, 0 ≤ s → w s ≤ 4) {x : Int → Int} {n : Int} {y : Int → Int} {m : Int} (m1 : m ≤ 6) (hy : ∀ j, 0 ≤ j → j < m → 0 ≤ y j ∧ y j ≤ 2) : lapW w al x n y m.toNat ≤ 4472832 ∧ prodW w y m.toNat ≤ 4096 := by
  have q0 := h4 0 (by decide)
  have q1 := h4 1 (by decide)
  have q2 := h4 2 (by decide)
  have qa := hB.2.2.2.2
  have ha := hB.al
  have h1 : ∀ i : Int, 0 ≤ i → i < m.toNat → 0 ≤ w (y i) ∧ w (y i) ≤ 4 := fun i i0 i1 => ⟨(hB.w (hy i i0 (by omega)).1).1, h4 _ (hy i i0 (by omega)).1⟩
  have c := cap12 m.toNat (by omega)
  have a2 := lapW_le (w := w) (al := al) (A := 12) (W := 4) (x := x) (n := n) (y := y) (by omega) (by omega) (k := m.toNat) h1
  have a4 := prodW_le (w := w) (y := y) (k := m.toNat) h1
  omega
theorem mul_bd {a b A B : Int} (a0 : 0 ≤ a) (a1 : a ≤ A) (b0 : 0 ≤ b) (b1 : b ≤ B) : 0 ≤ a * b ∧ a * b ≤ A * B := ⟨Int.mul_nonneg a0 b0, Int.mul_le_mul a1 b1 b0 (by omega)⟩
theorem pro_bd {w : Int → Int} {g al : Int} (hB : WtB g w al) {a b : Int → Int} {n m : Int} (n1 : n ≤ 6) (m1 : m ≤ 6) (ha : ∀ j, 0 ≤ j → j < n → 0 ≤ a j ∧ a j ≤ 2) (hb : ∀ j, 0 ≤ j → j < m → 0 ≤ b j ∧ b j ≤ 2) : -400000000000000 ≤ proW w al a n b m ∧ proW w al a n b m ≤ 400000000000000 := by
  obtain ⟨a1, a2, a3, a4⟩ := lap_bd hB (x := b) (n := m) m1 hb
  obtain ⟨b1, b2, b3, b4⟩ := lap_bd hB (x := b) (n := m) n1 ha
  have h1 := mul_bd a1 a2 b3 b4
  have h2 := mul_bd b1 b2 a3 a4
  unfold proW
  omega
theorem Meet.pos {M : jM} (h : jInv M) {a b : Int} (hm : Meet M a b) {w : Int → Int} {al : Int} (hB : WtB (M 3 0) w al) : 0 < proW w al (rowd M a) (rowz M a) (rowd M b) (rowz M b) ∧ 0 < proW w al (rowd M b) (rowz M b) (rowd M a) (rowz M a) ∧ proW w al (rowd M a) (rowz M a) (rowd M b) (rowz M b) ≤ 400000000000000 ∧ proW w al (rowd M b) (rowz M b) (rowd M a) (rowz M a) ≤ 400000000000000 := by
  obtain ⟨ra, rb, la, lb, hA⟩ := hm
  obtain ⟨za, za'⟩ := rowz_rng h ra
  obtain ⟨zb, zb'⟩ := rowz_rng h rb
  have fa := LawD.fine hB la (rowd_rng h ra)
  have fb := LawD.fine hB lb (rowd_rng h rb)
  exact ⟨proW_pos hB za zb fa fb hA, proW_pos hB zb za fb fa ⟨hA.2, hA.1⟩, (pro_bd hB za' zb' (rowd_rng h ra) (rowd_rng h rb)).2, (pro_bd hB zb' za' (rowd_rng h rb) (rowd_rng h ra)).2⟩
theorem jInv.z8 {M0 M : jM} (h : jInv M0) (f : Fr M0 M) : M 63 8 = 0 := by
  rw [f 63 8 (kp_63 (by omega) (by omega) (by omega))]
  exact h.st.2.2.2.2.2.2.2.2.2.2.2.2
theorem r_looks0 {M0 M : jM} (h : jInv M0) (f : Fr M0 M) : Ret (f_X10_looksForWeights M 62) (fun M' => Ex4 M M' ∧ RWt M' (M0 3 0) (wOf M0) (aOf M0)) := by
  have k := r_looks h f.f8 (h.z8 f) (by decide) (by decide)
  rw [wO_0, aO_0] at k
  exact k
theorem k_waits {M : jM} (h : jInv M) {r p : Int} (n0 : -2147483648 ≤ r) (n1 : r < 2147483648) (p0 : -2147483648 ≤ p) (p1 : p < 2147483648) : Ret (f_X9_waits M 0 r p) (fun a => Ret (f_X10_waits a.2 62 r p) (fun b => w64 a.1 = w64 b.1 ∧ jInv b.2)) := by
  unfold f_X9_waits
  refine Ret.bb (s_weigh h Fr.rfl) (fun M1 h1 => ?_)
  obtain ⟨e1, w1⟩ := h1
  have f1 := e1.fr Fr.rfl
  have q1 := e1.pt Pt.rfl
  have hi : jInv M1 := h.fp f1 q1
  rw [s_isPart M1 p0 p1, jp_0_5]
  have no : ¬ (isRw M r ∧ LawD (M 3 0) (rowd M r) (rowz M r)) ∨ ¬ (p = 0 ∨ p = 1) → Ret (f_X10_waits M1 62 r p) (fun b => w64 (-9223372036854775808) = w64 b.1 ∧ jInv b.2) := by
    intro hn
    unfold f_X10_waits
    rw [r_isRow' h f1.f8 n0 n1, r_isPart M1 p0 p1]
    by_cases c : 0 ≤ r ∧ r < M 63 0
    · rw [if_pos c]
      refine Ret.b ⟨1, rfl, Ret.f w32_1n (Ret.bb (r_isLawful h f1.f8 (h.rr8 f1.f8 c.1 c.2)) (fun v hv => ?_))⟩
      rw [w32_id (x := v) (by omega) (by omega)]
      refine Ret.i (fun _ => Ret.s ⟨rfl, hi⟩) (fun c2 => ?_)
      rw [if_neg (by
        rcases hn with hn | hn
        · exact absurd ⟨c, hv.2.mp (by omega)⟩ hn
        · exact hn)]
      exact Ret.b ⟨0, rfl, Ret.t w32_0 (Ret.s ⟨rfl, hi⟩)⟩
    · rw [if_neg c]
      exact Ret.b ⟨0, rfl, Ret.t w32_0 (Ret.s ⟨rfl, hi⟩)⟩
  refine Ret.bb (s_lawfulRow h f1 w1 n0 n1) (fun v hv => Ret.g (kd_of h hv) ?_)
  rcases hv with ⟨rfl, hv⟩ | ⟨rfl, hr, hv⟩
  · exact Ret.t (by decide) (Ret.s (no (Or.inl hv)))
  · have := hr.1
    refine Ret.f (by omega) ?_
    by_cases c : p = 0 ∨ p = 1
    · rw [if_pos c]
      obtain ⟨l1, l2, l3⟩ := h.rl f1 hr.1 hr.2
      have hd := rowd_rng h hr
      obtain ⟨b1, b2, b3, b4⟩ := lap_bd h.wb (x := rowd M r) (n := rowz M r) l3 hd
      have hp := (LawD.fine h.wb hv hd).pos
      refine Ret.b ⟨1, rfl, Ret.f w32_1n (Ret.bb (s_lap l1 l1 w1 h.wb) (fun x hx => Ret.bb (s_product l1 w1 h.wb) (fun y hy => Ret.bb (s_fraction (by omega) (by omega) (by omega) (by omega) c) (fun z hz => Ret.s ?_))))⟩
      dsimp only
      unfold f_X10_waits
      rw [r_isRow' h f1.f8 n0 n1, r_isPart M1 p0 p1, if_pos (show 0 ≤ r ∧ r < M 63 0 from hr), if_pos c]
      refine Ret.b ⟨1, rfl, Ret.f w32_1n (Ret.bb (r_isLawful h f1.f8 (h.rr8 f1.f8 hr.1 hr.2)) (fun v2 hv2 => ?_))⟩
      have v21 := hv2.2.mpr hv
      subst v21
      refine Ret.f w32_1n (Ret.b ⟨1, rfl, Ret.f w32_1n (Ret.bb (r_looks0 h f1) (fun M2 h2 => ?_))⟩)
      obtain ⟨e2, w2⟩ := h2
      have f2 := e2.fr f1
      have rr := h.rr f2 hr.1 hr.2
      refine Ret.bb (r_lapOf rr rr hv w2 h.wb) (fun x' hx' => Ret.bb (r_wFrom0 rr hv w2 h.wb) (fun y' hy' => Ret.bb (r_lowest (by omega) (by omega) (by omega) (by omega) c) (fun z' hz' => Ret.s ⟨?_, h.fp f2 (e2.pt q1)⟩)))
      dsimp only
      rw [hz, hz', hx, hx', hy, hy']
    · rw [if_neg c]
      exact Ret.b ⟨0, rfl, Ret.t w32_0 (Ret.s (no (Or.inr c)))⟩
