/-! laps and products as whole numbers -/
def prodW (w d : Int → Int) : Nat → Int
  | 0 => 1
  | n + 1 => prodW w d n * w (d n)
noncomputable def hit (x : Int → Int) (n : Int) (y : Int → Int) (k : Int) (v : Int) : Int := @ite Int (k ≤ n ∧ EndsW x n y k) (Classical.propDecidable _) v 0
theorem hit_y {x : Int → Int} {n : Int} {y : Int → Int} {k v : Int} (h : k ≤ n ∧ EndsW x n y k) : hit x n y k v = v := by unfold hit; rw [if_pos h]
theorem hit_n {x : Int → Int} {n : Int} {y : Int → Int} {k v : Int} (h : ¬ (k ≤ n ∧ EndsW x n y k)) : hit x n y k v = 0 := by unfold hit; rw [if_neg h]
noncomputable def lapW (w : Int → Int) (al : Int) (x : Int → Int) (n : Int) (y : Int → Int) : Nat → Int
  | 0 => 0
  | k + 1 => lapW w al x n y k * w (y k) + hit x n y ((k : Int) + 1) (al ^ (k + 1))
theorem prodW_cong {w d e : Int → Int} : ∀ {n : Nat}, (∀ i : Int, 0 ≤ i → i < n → d i = e i) → prodW w d n = prodW w e n
  | 0, _ => rfl
  | n + 1, h => by
    show prodW w d n * w (d n) = prodW w e n * w (e n)
    rw [prodW_cong (fun i i0 i1 => h i i0 (by omega)), h n (by omega) (by omega)]
theorem prodW_split {w d : Int → Int} {k : Nat} : ∀ {n : Nat}, prodW w d (k + n) = prodW w d k * prodW w (fun i => d ((k : Int) + i)) n
  | 0 => by show prodW w d k = prodW w d k * 1; rw [Int.mul_one]
  | n + 1 => by
    show prodW w d (k + n) * w (d ((k + n : Nat) : Int)) = prodW w d k * (prodW w (fun i => d ((k : Int) + i)) n * w (d ((k : Int) + (n : Int))))
    rw [prodW_split, Int.mul_assoc, Int.natCast_add]
theorem hit_cong {x x' : Int → Int} {n : Int} {y y' : Int → Int} {k v : Int} (h1 : ∀ i, 0 ≤ i → i < n → x' i = x i) (h2 : ∀ j, 0 ≤ j → j < k → y' j = y j) : hit x' n y' k v = hit x n y k v := by
  by_cases c : k ≤ n ∧ EndsW x n y k
  · rw [hit_y c, hit_y ⟨c.1, c.2.cong (fun i i0 i1 => h1 i (by have := c.1; omega) i1) h2⟩]
  · rw [hit_n c, hit_n (fun g => c ⟨g.1, g.2.cong (fun i i0 i1 => (h1 i (by have := g.1; omega) i1).symm) (fun j j0 j1 => (h2 j j0 j1).symm)⟩)]
theorem lapW_cong {w : Int → Int} {al : Int} {x x' : Int → Int} {n : Int} {y y' : Int → Int} : ∀ {k : Nat}, (∀ i, 0 ≤ i → i < n → x' i = x i) → (∀ j : Int, 0 ≤ j → j < k → y' j = y j) → lapW w al x' n y' k = lapW w al x n y k
  | 0, _, _ => rfl
  | k + 1, h1, h2 => by
    show lapW w al x' n y' k * w (y' k) + hit x' n y' ((k : Int) + 1) (al ^ (k + 1)) = lapW w al x n y k * w (y k) + hit x n y ((k : Int) + 1) (al ^ (k + 1))
    rw [lapW_cong h1 (fun j j0 j1 => h2 j j0 (by omega)), h2 k (by omega) (by omega), hit_cong h1 (fun j j0 j1 => h2 j j0 (by omega))]
/-! weights on both sides -/
def WtB (g : Int) (w : Int → Int) (al : Int) : Prop := 2 ≤ g ∧ g ≤ 3 ∧ (∀ s, 0 ≤ s → s < g → 1 ≤ w s ∧ w s ≤ 9) ∧ (∀ s, g ≤ s → w s = 0) ∧ al = w 0 + w 1 + w 2
theorem WtB.w {g : Int} {w : Int → Int} {al : Int} (h : WtB g w al) {s : Int} (h0 : 0 ≤ s) : 0 ≤ w s ∧ w s ≤ 9 := by
  obtain ⟨h1, h2, h3, h4, h5⟩ := h
  by_cases c : s < g
  · have := h3 s h0 c; omega
  · rw [h4 s (by omega)]; decide
theorem WtB.al {g : Int} {w : Int → Int} {al : Int} (h : WtB g w al) : 2 ≤ al ∧ al ≤ 27 := by
  have h0 := h.w (s := 0) (by decide)
  have h1 := h.w (s := 1) (by decide)
  have h2 := h.w (s := 2) (by decide)
  obtain ⟨g1, g2, h3, h4, h5⟩ := h
  have a0 := h3 0 (by omega) (by omega)
  have a1 := h3 1 (by omega) (by omega)
  omega
def SWt (M : jM) (g : Int) (w : Int → Int) (al : Int) : Prop := M 47 0 = g ∧ M 47 1 = al ∧ ∀ s, 0 ≤ s → s ≤ 2 → M 48 s = w s
def RWt (M : jM) (g : Int) (w : Int → Int) (al : Int) : Prop := M 62 12 = al ∧ ∀ s, 0 ≤ s → s < g → M 67 s = w s
theorem jp_47_2 : jpt 47 2 = 48 := rfl
theorem jp_62_11 : jpt 62 11 = 67 := rfl
theorem s_weightOf {M : jM} {g : Int} {w : Int → Int} {al s : Int} (h : SWt M g w al) (s0 : 0 ≤ s) (s1 : s ≤ 2) : f_X6_weightOf M 47 s = some (w s) := by
  unfold f_X6_weightOf
  rw [w32_id (x := s) (by omega) (by omega), if_neg (by omega), if_pos (by omega), jp_47_2, h.2.2 s s0 s1]
  unfold grd
  rw [if_pos ⟨s0, by omega⟩]
theorem s_product {M : jM} {t : Int} {d : Int → Int} {n g : Int} {w : Int → Int} {al : Int} (hl : Ln M t d n) (hw : SWt M g w al) (hb : WtB g w al) : Ret (f_X6_product M 47 t) (fun r => r = prodW w d n.toNat) := by
  unfold f_X6_product
  have hn0 := hl.1
  have hn := hl.2.1
  refine Ret.bb (P := fun r => r = prodW w d n.toNat) ?_ (fun r hr => Ret.s hr)
  refine Ret.it (fun S : Int × Int => 0 ≤ S.2 ∧ S.2 ≤ n ∧ S.1 = prodW w d S.2.toNat) (fun S => (n - S.2).toNat) ?_ 5000 (1, 0) ⟨by show (0 : Int) ≤ 0; omega, hn0, rfl⟩ (by show (n - 0).toNat < 5000; omega)
  rintro ⟨a, k⟩ ⟨k0, k1, ha⟩
  dsimp only at k0 k1 ha
  unfold f_X6_product_L5
  dsimp only
  rw [hl.2.2.1, w32_id (x := n) (by omega) (by omega), w32_id (x := k) (by omega) (by omega), s_signAt hl (by omega) (by omega)]
  refine Ret.i (fun c => Rr ?_) (fun c => ?_)
  · have : k = n := by omega
    subst this
    exact ha
  · obtain ⟨d0, d1⟩ := hl.2.2.2.2 k k0 (by omega)
    rw [if_pos ⟨k0, by omega⟩]
    refine Ret.b ⟨d k, rfl, ?_⟩
    dsimp only
    rw [s_weightOf hw d0 d1]
    obtain ⟨w0, w1⟩ := hb.w d0
    refine Ret.b ⟨w (d k), rfl, ?_⟩
    dsimp only
    rw [w32_id (x := w (d k)) (by omega) (by omega)]
    refine Rl ⟨⟨by show 0 ≤ k + 1; omega, by show k + 1 ≤ n; omega, ?_⟩, by show (n - (k + 1)).toNat < (n - k).toNat; omega⟩
    dsimp only
    have e : (k + 1).toNat = k.toNat + 1 := by omega
    rw [e, ha]
    show prodW w d k.toNat * w (d k) = prodW w d k.toNat * w (d (k.toNat : Int))
    rw [Int.toNat_of_nonneg k0]
theorem s_lap {M : jM} {a b : Int} {x y : Int → Int} {n m g : Int} {w : Int → Int} {al : Int} (ha : Ln M a x n) (hb : Ln M b y m) (hw : SWt M g w al) (hB : WtB g w al) : Ret (f_X6_lap M 47 a b) (fun r => r = lapW w al x n y m.toNat) := by
  unfold f_X6_lap
  have hn0 := ha.1
  have hn := ha.2.1
  have hm0 := hb.1
  have hm := hb.2.1
  have hal := hB.al
  refine Ret.bb (P := fun r => r = lapW w al x n y m.toNat) ?_ (fun r hr => Ret.s hr)
  refine Ret.it (fun S : Int × Int × Int => 1 ≤ S.2.2 ∧ S.2.2 ≤ m + 1 ∧ S.1 = lapW w al x n y (S.2.2 - 1).toNat ∧ S.2.1 = al ^ (S.2.2 - 1).toNat) (fun S => (m + 1 - S.2.2).toNat) ?_ 5000 (0, 1, 1) ⟨by show (1 : Int) ≤ 1; omega, by show (1 : Int) ≤ m + 1; omega, rfl, by show (1 : Int) = al ^ (0 : Nat); exact (Int.pow_zero al).symm⟩ (by show (m + 1 - 1).toNat < 5000; omega)
  rintro ⟨sm, pw, k⟩ ⟨k0, k1, hs, hp⟩
  dsimp only at k0 k1 hs hp
  unfold f_X6_lap_L8 f_X6_lap_73
  dsimp only
  rw [hb.2.2.1, ha.2.2.1, hw.2.1, w32_id (x := m) (by omega) (by omega), w32_id (x := n) (by omega) (by omega), w32_id (x := k) (by omega) (by omega), w32_id (x := al) (by omega) (by omega), s_signAt hb (k := k - 1) (by omega) (by omega)]
  refine Ret.i (fun c => Rr ?_) (fun c => ?_)
  · have : k = m + 1 := by omega
    subst this
    rw [hs]
    congr 1
    omega
  · obtain ⟨d0, d1⟩ := hb.2.2.2.2 (k - 1) (by omega) (by omega)
    rw [if_pos ⟨by omega, by omega⟩]
    refine Ret.b ⟨y (k - 1), rfl, ?_⟩
    dsimp only
    rw [s_weightOf hw d0 d1]
    obtain ⟨w0, w1⟩ := hB.w d0
    refine Ret.b ⟨w (y (k - 1)), rfl, ?_⟩
    dsimp only
    rw [w32_id (x := w (y (k - 1))) (by omega) (by omega)]
    have mu : (m + 1 - (k + 1)).toNat < (m + 1 - k).toNat := by omega
    obtain ⟨q, hq⟩ : ∃ q : Nat, k = (q : Int) + 1 := ⟨(k - 1).toNat, by omega⟩
    have e1 : (k - 1).toNat = q := by omega
    have e2 : (k + 1 - 1).toNat = q + 1 := by omega
    have e3 : k - 1 = (q : Int) := by omega
    have pwe : pw * al = al ^ (k + 1 - 1).toNat := by rw [e2, hp, e1, Int.pow_succ]
    rw [e1] at hs
    have yes : k ≤ n ∧ EndsW x n y k → sm * w (y (k - 1)) + pw * al = lapW w al x n y (k + 1 - 1).toNat := by
      intro h
      rw [pwe, e2, hs, e3]
      show _ = lapW w al x n y q * w (y q) + hit x n y ((q : Int) + 1) (al ^ (q + 1))
      rw [← hq, hit_y h]
    have no : ¬ (k ≤ n ∧ EndsW x n y k) → sm * w (y (k - 1)) = lapW w al x n y (k + 1 - 1).toNat := by
      intro h
      rw [e2, hs, e3]
      show _ = lapW w al x n y q * w (y q) + hit x n y ((q : Int) + 1) (al ^ (q + 1))
      rw [← hq, hit_n h, Int.add_zero]
    refine Ret.i (fun c2 => Rl ⟨⟨by show 1 ≤ k + 1; omega, by show k + 1 ≤ m + 1; omega, no (by omega), pwe⟩, mu⟩) (fun c2 => ?_)
    rw [s_lastOnes ha (by omega) (by omega), s_firstOnes hb (by omega) (by omega)]
    refine Ret.b ⟨_, rfl, Ret.b ⟨_, rfl, ?_⟩⟩
    dsimp only
    have hd2 : ∀ i : Nat, i < k.toNat → 0 ≤ x (n - k + (i : Int)) ∧ x (n - k + (i : Int)) ≤ 2 := fun i hi => ha.2.2.2.2 _ (by omega) (by omega)
    have hy2 : ∀ i : Nat, i < k.toNat → 0 ≤ y (i : Int) ∧ y (i : Int) ≤ 2 := fun i hi => hb.2.2.2.2 _ (by omega) (by omega)
    obtain ⟨q0, q1⟩ := pk_bd (d := fun i => x (n - k + i)) (n := k.toNat) (by omega) hd2
    obtain ⟨r0, r1⟩ := pk_bd (d := y) (n := k.toNat) (by omega) hy2
    rw [w64_id (by omega) (by omega), w64_id (by omega) (by omega)]
    refine Ret.i (fun c3 => Rl ⟨⟨by show 1 ≤ k + 1; omega, by show k + 1 ≤ m + 1; omega, yes ⟨by omega, fun j j0 j1 => ?_⟩, pwe⟩, mu⟩) (fun c3 => Rl ⟨⟨by show 1 ≤ k + 1; omega, by show k + 1 ≤ m + 1; omega, no (fun h => c3 (pk4_cong (fun i hi => h.2 _ (by omega) (by omega)))), pwe⟩, mu⟩)
    have := pk4_inj (d := fun i => x (n - k + i)) hd2 hy2 c3 j.toNat (by omega)
    have e5 : ((j.toNat : Nat) : Int) = j := Int.toNat_of_nonneg j0
    simp only [e5] at this
    exact this
/-! the reference's -/
theorem r_wFrom {M : jM} {r : Int} {d : Int → Int} {n g : Int} {w : Int → Int} {al k : Int} (hr : RRow M r d n) (hg : ∀ j, 0 ≤ j → j < n → d j < g) (hw : RWt M g w al) (hb : WtB g w al) (k0 : 0 ≤ k) (k1 : k ≤ n) : Ret (f_X10_weightsFrom M 62 r k) (fun v => v = prodW w (fun i => d (k + i)) (n - k).toNat) := by
  obtain ⟨a, b, c, e, e1, e2⟩ := hr
  unfold f_X10_weightsFrom
  refine Ret.bb (P := fun v => v = prodW w (fun i => d (k + i)) (n - k).toNat) ?_ (fun r hr => Ret.s hr)
  refine Ret.it (fun S : Int × Int => k ≤ S.2 ∧ S.2 ≤ n ∧ S.1 = prodW w (fun i => d (k + i)) (S.2 - k).toNat) (fun S => (n - S.2).toNat) ?_ 5000 (1, k) ⟨by show k ≤ k; omega, k1, by show 1 = prodW w _ (k - k).toNat; rw [Int.sub_self]; rfl⟩ (by show (n - k).toNat < 5000; omega)
  rintro ⟨p, j⟩ ⟨j0, j1, hp⟩
  dsimp only at j0 j1 hp
  unfold f_X10_weightsFrom_L5
  dsimp only
  rw [w32_id (x := 58 + r) (by omega) (by omega), jp_62_1, jp_62_11, e1, w32_id (x := n) (by omega) (by omega), w32_id (x := j) (by omega) (by omega)]
  refine Ret.g ⟨by omega, by omega⟩ (Ret.i (fun c => Rr ?_) (fun c => ?_))
  · have : j = n := by omega
    subst this
    exact hp
  · obtain ⟨q1, q2, q3⟩ := e2 j (by omega) (by omega)
    have q4 := hg j (by omega) (by omega)
    obtain ⟨w0, w1⟩ := hb.w q2
    rw [w32_id (x := 10 + 6 * r + j) (by omega) (by omega), q1, w32_id (x := d j) (by omega) (by omega), hw.2 _ q2 q4, w32_id (x := w (d j)) (by omega) (by omega)]
    refine Ret.g ⟨by omega, by omega⟩ (Ret.g ⟨by omega, by omega⟩ (Rl ⟨⟨by show k ≤ j + 1; omega, by show j + 1 ≤ n; omega, ?_⟩, by show (n - (j + 1)).toNat < (n - j).toNat; omega⟩))
    dsimp only
    have e : (j + 1 - k).toNat = (j - k).toNat + 1 := by omega
    rw [e, hp]
    show prodW w (fun i => d (k + i)) (j - k).toNat * w (d j) = prodW w (fun i => d (k + i)) (j - k).toNat * w (d (k + ((j - k).toNat : Int)))
    have e3 : k + ((j - k).toNat : Int) = j := by omega
    rw [e3]
theorem prodW_tail {w d : Int → Int} {n k : Int} (k0 : 0 ≤ k) (k1 : k < n) : prodW w (fun i => d (k + i)) (n - k).toNat = w (d k) * prodW w (fun i => d (k + 1 + i)) (n - (k + 1)).toNat := by
  have e : (n - k).toNat = 1 + (n - (k + 1)).toNat := by omega
  rw [e, prodW_split]
  show (1 * w (d (k + ((0 : Nat) : Int)))) * _ = _
  rw [Int.one_mul, Int.natCast_zero, Int.add_zero]
  congr 1
  exact prodW_cong (fun i _ _ => by show d _ = d _; congr 1; omega)
theorem r_lap {M : jM} {fr sz row : Int} {x d : Int → Int} {n g : Int} {w : Int → Int} {al : Int} (hr : RRow M row d n) (hg : ∀ j, 0 ≤ j → j < n → d j < g) (hw : RWt M g w al) (hb : WtB g w al) (s0 : 0 ≤ sz) (s1 : sz ≤ 24) (f0 : 0 ≤ fr) (f1 : fr + sz ≤ 952) (hx : ∀ i, 0 ≤ i → i < sz → M 63 (fr + i) = x i ∧ 0 ≤ x i ∧ x i ≤ 2) : Ret (f_X10_lap M 62 fr sz row) (fun v => v = lapW w al x sz d n.toNat) := by
  have hr' := hr
  obtain ⟨a, b, c, e, e1, e2⟩ := hr
  have hal := hb.al
  unfold f_X10_lap
  refine Ret.bb (P := fun v => v = lapW w al x sz d n.toNat) ?_ (fun r hr => Ret.s hr)
  refine Ret.it (fun S : Int × Int × Int => 1 ≤ S.2.2 ∧ S.2.2 ≤ n + 1 ∧ S.1 = lapW w al x sz d (S.2.2 - 1).toNat * prodW w (fun i => d (S.2.2 - 1 + i)) (n - (S.2.2 - 1)).toNat ∧ S.2.1 = al ^ (S.2.2 - 1).toNat) (fun S => (n + 1 - S.2.2).toNat) ?_ 5000 (0, 1, 1) ⟨by show (1 : Int) ≤ 1; omega, by show (1 : Int) ≤ n + 1; omega, by show 0 = 0 * _; rw [Int.zero_mul], by show (1 : Int) = al ^ (0 : Nat); exact (Int.pow_zero al).symm⟩ (by show (n + 1 - 1).toNat < 5000; omega)
  rintro ⟨sm, pw, k⟩ ⟨k0, k1, hs, hp⟩
  dsimp only at k0 k1 hs hp
  unfold f_X10_lap_L9 f_X10_lap_61
  dsimp only
  rw [w32_id (x := 58 + row) (by omega) (by omega), jp_62_1, e1, hw.1, w32_id (x := n) (by omega) (by omega), w32_id (x := k) (by omega) (by omega), w32_id (x := al) (by omega) (by omega)]
  refine Ret.g ⟨by omega, by omega⟩ (Ret.i (fun c => Rr ?_) (fun c => ?_))
  · have : k = n + 1 := by omega
    subst this
    have e5 : (n + 1 - 1).toNat = n.toNat := by omega
    have e6 : (n - (n + 1 - 1)).toNat = 0 := by omega
    rw [e5, e6] at hs
    rw [hs]
    exact Int.mul_one _
  · obtain ⟨v, v1, v2, v3⟩ := r_ends hr' s0 s1 f0 f1 (k := k) (by omega) (by omega) hx
    refine Ret.b ⟨v, v1, ?_⟩
    dsimp only
    have mu : (n + 1 - (k + 1)).toNat < (n + 1 - k).toNat := by omega
    obtain ⟨q, hq⟩ : ∃ q : Nat, k = (q : Int) + 1 := ⟨(k - 1).toNat, by omega⟩
    have g1 : (k - 1).toNat = q := by omega
    have g2 : (k + 1 - 1).toNat = q + 1 := by omega
    have g3 : k - 1 = (q : Int) := by omega
    have g4 : k + 1 - 1 = k := by omega
    have pwe : pw * al = al ^ (k + 1 - 1).toNat := by rw [g2, hp, g1, Int.pow_succ]
    rw [prodW_tail (k := k - 1) (n := n) (by omega) (by omega), g1] at hs
    have g5 : k - 1 + 1 = k := by omega
    rw [g5] at hs
    have hz : lapW w al x sz d (q + 1) = lapW w al x sz d q * w (d (k - 1)) + hit x sz d k (al ^ (q + 1)) := by
      show lapW w al x sz d q * w (d q) + hit x sz d ((q : Int) + 1) (al ^ (q + 1)) = _
      rw [← hq, g3]
    rw [w32_id (x := v) (by omega) (by omega)]
    refine Ret.i (fun c2 => ?_) (fun c2 => ?_)
    · refine Rl ⟨⟨by show 1 ≤ k + 1; omega, by show k + 1 ≤ n + 1; omega, ?_, pwe⟩, mu⟩
      dsimp only
      rw [g2, g4, hz, hit_n (fun h => by have := v3.mpr h; omega), Int.add_zero, Int.add_zero, hs, Int.mul_assoc]
    · refine Ret.bb (r_wFrom hr' hg hw hb (k := k) (by omega) (by omega)) (fun u hu => ?_)
      refine Rl ⟨⟨by show 1 ≤ k + 1; omega, by show k + 1 ≤ n + 1; omega, ?_, pwe⟩, mu⟩
      dsimp only
      rw [pwe, g2, g4, hz, hit_y (v3.mp (by omega)), hs, hu, Int.add_mul, Int.mul_assoc]
theorem r_lapOf {M : jM} {r1 r2 : Int} {x d : Int → Int} {m n g : Int} {w : Int → Int} {al : Int} (hx : RRow M r1 x m) (hr : RRow M r2 d n) (hg : ∀ j, 0 ≤ j → j < n → d j < g) (hw : RWt M g w al) (hb : WtB g w al) : Ret (f_X10_lapOf M 62 r1 r2) (fun v => v = lapW w al x m d n.toNat) := by
  obtain ⟨a, b, c, e, e1, e2⟩ := hx
  unfold f_X10_lapOf
  rw [w32_id (x := 58 + r1) (by omega) (by omega), jp_62_1, e1]
  exact Ret.g ⟨by omega, by omega⟩ (Ret.bb (r_lap hr hg hw hb (by omega) (by omega) (by omega) (by omega) e2) (fun v hv => Ret.s hv))
