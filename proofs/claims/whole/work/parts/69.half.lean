theorem jInv.tl {M0 M : jM} (h : jInv M0) (f : Fr M0 M) : Ln M 21 (fun i => M0 63 (72 + i)) (M0 63 4) := by
  have hT : Ln M0 21 (fun i => M0 63 (72 + i)) (M0 63 4) := h.1.2.2.2.2.1
  exact Ln.fr hT (f _ _ (kp_lo (by decide))) (f _ _ (kp_lo (by decide))) (fun i _ _ => rfl)
theorem jInv.tx {M0 M : jM} (h : jInv M0) (f : Fr M0 M) : ∀ i, 0 ≤ i → i < M0 63 4 → M 63 (72 + i) = M0 63 (72 + i) ∧ 0 ≤ M0 63 (72 + i) ∧ M0 63 (72 + i) ≤ 2 := fun i i0 i1 => ⟨f _ _ (kp_63 (by omega) (by omega) (by omega)), (h.tl Fr.rfl).2.2.2.2 i i0 i1⟩
theorem r_areSigns {M0 M : jM} (h : jInv M0) (f : Fr M0 M) : Ret (f_X10_areSigns M 62) (fun v => (v = 0 ∨ v = 1) ∧ (v = 1 ↔ LawD (M0 3 0) (fun i => M0 63 (72 + i)) (M0 63 4))) := by
  obtain ⟨g0, g1, -⟩ := h.st
  have hl := h.tl Fr.rfl
  have hn0 := hl.1
  have hn := hl.2.1
  have hx := h.tx f
  unfold f_X10_areSigns
  refine Ret.bb (P := fun v : Int => (v = 0 ∨ v = 1) ∧ (v = 1 ↔ LawD (M0 3 0) (fun i => M0 63 (72 + i)) (M0 63 4))) ?_ (fun v hv => Ret.g hv.1 (Ret.s hv))
  refine Ret.it (fun S : Int × Int => 0 ≤ S.2 ∧ S.2 ≤ M0 63 4 ∧ (S.1 = 0 ∨ S.1 = 1) ∧ (S.1 = 1 ↔ ∀ j, 0 ≤ j → j < S.2 → M0 63 (72 + j) < M0 3 0)) (fun S => (M0 63 4 - S.2).toNat) ?_ 5000 (1, 0) ⟨by show (0 : Int) ≤ 0; omega, by show (0 : Int) ≤ _; omega, Or.inr rfl, fun _ j j0 j1 => absurd j1 (by show ¬ j < 0; omega), fun _ => rfl⟩ (by show (M0 63 4 - 0).toNat < 5000; omega)
  rintro ⟨v, k⟩ ⟨k0, k1, hv, hk⟩
  dsimp only at k0 k1 hv hk
  unfold f_X10_areSigns_L4 f_X10_areSigns_38 f_X10_areSigns_39
  dsimp +instances only
  rw [jp_62_1, f 63 4 (kp_63 (by omega) (by omega) (by omega)), w32_id (x := M0 63 4) (by omega) (by omega), w32_id (x := k) (by omega) (by omega), w32_id (x := v) (by omega) (by omega), r_signs h f.f8]
  refine Ret.i (fun c => Rr ⟨hv, hk.trans ⟨fun q j j0 j1 => q j j0 (by omega), fun q j j0 j1 => q j j0 (by omega)⟩⟩) (fun c => ?_)
  have mu : (M0 63 4 - (k + 1)).toNat < (M0 63 4 - k).toNat := by omega
  refine Ret.i (fun c2 => Rl ⟨⟨by show 0 ≤ k + 1; omega, by show k + 1 ≤ _; omega, Or.inl rfl, fun q => absurd q (by show ¬ (0 : Int) = 1; decide), fun q => ?_⟩, mu⟩) (fun c2 => ?_)
  · exfalso
    have := hk.mpr (fun j j0 j1 => q j j0 (by show j < k + 1; omega))
    omega
  · have v1 : v = 1 := by omega
    have hk1 := hk.mp v1
    obtain ⟨q1, q2, q3⟩ := hx k k0 (by omega)
    rw [w32_id (x := 72 + k) (by omega) (by omega), q1, w32_id (x := M0 63 (72 + k)) (by omega) (by omega)]
    refine Ret.g ⟨by omega, by omega⟩ (Ret.b ⟨M0 3 0, rfl, ?_⟩)
    dsimp only
    rw [w32_id (x := M0 3 0) (by omega) (by omega)]
    refine Ret.i (fun c3 => Rl ⟨⟨by show 0 ≤ k + 1; omega, by show k + 1 ≤ _; omega, Or.inl rfl, fun q => absurd q (by show ¬ (0 : Int) = 1; decide), fun q => ?_⟩, mu⟩) (fun c3 => Rl ⟨⟨by show 0 ≤ k + 1; omega, by show k + 1 ≤ _; omega, Or.inr rfl, fun _ j j0 j1 => ?_, fun _ => rfl⟩, mu⟩)
    · have := q k k0 (by show k < k + 1; omega)
      omega
    · have j1 : j < k + 1 := j1
      by_cases q : j = k
      · rw [q]; omega
      · exact hk1 j j0 (by omega)
set_option maxHeartbeats 1000000 in
theorem k_half {M : jM} (h : jInv M) {a b p : Int} (a0 : -2147483648 ≤ a) (a1 : a < 2147483648) (b0 : -2147483648 ≤ b) (b1 : b < 2147483648) (p0 : -2147483648 ≤ p) (p1 : p < 2147483648) : Ret (f_X9_half M 0 a b p) (fun x => Ret (f_X10_half x.2 62 a b p) (fun y => w64 x.1 = w64 y.1 ∧ jInv y.2)) := by
  obtain ⟨g0, g1, -⟩ := h.st
  have T0 := (h.tl Fr.rfl).1
  have T1 := (h.tl Fr.rfl).2.1
  -- the reference says no
  have rno : ∀ M', Fr M M' → Pt M M' → (¬ Meet M a b ∨ ¬ (p = 0 ∨ p = 1) ∨ ¬ LawD (M 3 0) (fun i => M 63 (72 + i)) (M 63 4) ∨ Within (fun i => M 63 (72 + i)) (M 63 4) (rowd M a) (rowz M a) ∨ Within (fun i => M 63 (72 + i)) (M 63 4) (rowd M b) (rowz M b)) → Ret (f_X10_half M' 62 a b p) (fun y => w64 (-9223372036854775808) = w64 y.1 ∧ jInv y.2) := by
    intro M' f' p' hn
    unfold f_X10_half
    refine r_meet h f'.f8 a0 a1 b0 b1 p0 p1 (fun _ => ⟨rfl, h.fp f' p'⟩) (fun hm cp => ?_)
    refine Ret.bb (r_areSigns h f') (fun v hv => ?_)
    rw [w32_id (x := v) (by omega) (by omega), jp_62_1, f' 63 4 (kp_63 (by omega) (by omega) (by omega))]
    refine Ret.i (fun _ => Ret.s ⟨rfl, h.fp f' p'⟩) (fun c1 => Ret.bb (r_within (h.rr f' hm.1.1 hm.1.2) T0 T1 (by decide) (by omega) (h.tx f')) (fun u hu => ?_))
    rw [w32_id (x := u) (by omega) (by omega)]
    refine Ret.i (fun c2 => Ret.bb (r_within (h.rr f' hm.2.1.1 hm.2.1.2) T0 T1 (by decide) (by omega) (h.tx f')) (fun t ht => ?_)) (fun _ => Ret.s ⟨rfl, h.fp f' p'⟩)
    rw [w32_id (x := t) (by omega) (by omega)]
    refine Ret.i (fun c3 => ?_) (fun _ => Ret.s ⟨rfl, h.fp f' p'⟩)
    exfalso
    rcases hn with hn | hn | hn | hn | hn
    · exact hn hm
    · exact hn cp
    · exact hn (hv.2.mp (by omega))
    · have := hu.2.mpr hn; omega
    · have := ht.2.mpr hn; omega
  unfold f_X9_half
  refine s_meet h Fr.rfl Pt.rfl a0 a1 b0 b1 p0 p1 (fun M' f' p' hn => rno M' f' p' (hn.imp id Or.inl)) (fun M' f' p' w' hm cp hd => ?_)
  obtain ⟨z1, z2, z3, z4⟩ := hm.pos h h.wb
  obtain ⟨d0, d1, d2, d3⟩ := hd
  obtain ⟨la, la1, la2⟩ := h.rl f' hm.1.1 hm.1.2
  obtain ⟨lb, lb1, lb2⟩ := h.rl f' hm.2.1.1 hm.2.1.2
  have tl := h.tl f'
  have hq := h.1.2.2.2.1.2.2.1
  have a00 := hm.1.1
  have b00 := hm.2.1.1
  rw [jp_0_0, jp_0_5, jp_0_6, jp_1_12]
  dsimp only
  rw [s_rowAt' h f' a0 a1, s_rowAt' h f' b0 b1, if_pos (show 0 ≤ a ∧ a < M 63 0 from hm.1), if_pos (show 0 ≤ b ∧ b < M 63 0 from hm.2.1)]
  refine Ret.b ⟨_, rfl, Ret.g (Or.inr (kd_row hm.1.1 (by have := hm.1.2; omega))) (Ret.b ⟨_, rfl, Ret.g (Or.inr (kd_row hm.2.1.1 (by have := hm.2.1.2; omega))) ?_⟩)⟩
  refine Ret.f (by omega) (Ret.f (by omega) (Ret.bb (s_isLawful tl w'.1 g0 g1) (fun v hv => ?_)))
  rw [w32_id (x := v) (by omega) (by omega)]
  refine Ret.i (fun c1 => Ret.s (rno M' f' p' (Or.inr (Or.inr (Or.inl (fun q => by have := hv.2.mpr q; omega)))))) (fun c1 => Ret.bb (s_has tl la la1) (fun u hu => ?_))
  rw [w32_id (x := u) (by omega) (by omega)]
  refine Ret.i (fun c2 => Ret.bb (s_has tl lb lb1) (fun t ht => ?_)) (fun c2 => Ret.s (rno M' f' p' (Or.inr (Or.inr (Or.inr (Or.inl (hu.2.mp (by omega))))))))
  rw [w32_id (x := t) (by omega) (by omega)]
  refine Ret.i (fun c3 => ?_) (fun c3 => Ret.s (rno M' f' p' (Or.inr (Or.inr (Or.inr (Or.inr (ht.2.mp (by omega))))))))
  refine Ret.bb (s_lap tl lb w' h.wb) (fun u1 q1 => Ret.bb (s_product la w' h.wb) (fun u2 q2 => Ret.bb (s_lap tl la w' h.wb) (fun u3 q3 => Ret.bb (s_product lb w' h.wb) (fun u4 q4 => ?_))))
  rw [d0, d2]
  obtain ⟨e1, e2, e3, e4⟩ := lap_bd h.wb (x := fun i => M 63 (72 + i)) (n := M 63 4) la2 (rowd_rng h hm.1)
  obtain ⟨e5, e6, e7, e8⟩ := lap_bd h.wb (x := fun i => M 63 (72 + i)) (n := M 63 4) lb2 (rowd_rng h hm.2.1)
  rw [← q1] at e5 e6
  rw [← q2] at e3 e4
  rw [← q3] at e1 e2
  rw [← q4] at e7 e8
  have s1 := mul_bd e5 e6 e3 e4
  have s2 := mul_bd e1 e2 e7 e8
  refine Ret.bb (s_fraction (by omega) (by omega) (by omega) (by omega) cp) (fun x hx => Ret.s ?_)
  dsimp only
  unfold f_X10_half
  refine r_meet h f'.f8 a0 a1 b0 b1 p0 p1 (fun hn => by
    rcases hn with hn | hn
    · exact absurd hm hn
    · exact absurd cp hn) (fun _ _ => ?_)
  refine Ret.bb (r_areSigns h f') (fun v2 hv2 => ?_)
  have hv21 := hv2.2.mpr (hv.2.mp (by omega))
  subst hv21
  rw [jp_62_1, f' 63 4 (kp_63 (by omega) (by omega) (by omega))]
  refine Ret.f w32_1n (Ret.bb (r_within (h.rr f' hm.1.1 hm.1.2) T0 T1 (by decide) (by omega) (h.tx f')) (fun u' hu' => ?_))
  have c2' : u' = 0 := by
    rcases hu'.1 with q | q
    · exact q
    · have := hu.2.mpr (hu'.2.mp q); omega
  subst c2'
  refine Ret.t w32_0 (Ret.bb (r_within (h.rr f' hm.2.1.1 hm.2.1.2) T0 T1 (by decide) (by omega) (h.tx f')) (fun t' ht' => ?_))
  have c3' : t' = 0 := by
    rcases ht'.1 with q | q
    · exact q
    · have := ht.2.mpr (ht'.2.mp q); omega
  subst c3'
  refine Ret.t w32_0 (Ret.bb (r_odds0 h f' hm) (fun M2 h2 => ?_))
  obtain ⟨x2, w2, m2, t2⟩ := h2
  have f2 := x2.fr f'
  have ra := h.rr f2 hm.1.1 hm.1.2
  have rb := h.rr f2 hm.2.1.1 hm.2.1.2
  rw [m2, t2, f2 63 4 (kp_63 (by omega) (by omega) (by omega))]
  refine Ret.bb (r_lap rb hm.2.2.2.1 w2 h.wb T0 T1 (by decide) (by omega) (h.tx f2)) (fun v1 p1 => Ret.bb (r_wFrom0 ra hm.2.2.1 w2 h.wb) (fun v2 p2 => Ret.bb (r_lap ra hm.2.2.1 w2 h.wb T0 T1 (by decide) (by omega) (h.tx f2)) (fun v3 p3 => Ret.bb (r_wFrom0 rb hm.2.2.2.1 w2 h.wb) (fun v4 p4 => ?_))))
  rw [p1, p2, p3, p4, ← q1, ← q2, ← q3, ← q4]
  refine Ret.bb (r_lowest (by omega) (by omega) (by omega) (by omega) cp) (fun y hy => Ret.s ⟨?_, h.fp f2 (x2.pt p')⟩)
  dsimp only
  rw [hx, hy]
theorem s_power {M : jM} {b n : Int} (n0 : 0 ≤ n) (n1 : n ≤ 60) : Ret (f_X9_power M b n) (fun r => r = b ^ n.toNat) := by
  unfold f_X9_power
  refine Ret.bb (P := fun r => r = b ^ n.toNat) ?_ (fun r hr => Ret.s hr)
  refine Ret.it (fun S : Int × Int => 0 ≤ S.2 ∧ S.2 ≤ n ∧ S.1 = b ^ S.2.toNat) (fun S => (n - S.2).toNat) ?_ 5000 (1, 0) ⟨by show (0 : Int) ≤ 0; omega, n0, by show (1 : Int) = b ^ (0 : Nat); exact (Int.pow_zero b).symm⟩ (by show (n - 0).toNat < 5000; omega)
  rintro ⟨a, k⟩ ⟨k0, k1, ha⟩
  dsimp only at k0 k1 ha
  unfold f_X9_power_L5
  dsimp only
  rw [w32_id (x := n) (by omega) (by omega), w32_id (x := k) (by omega) (by omega)]
  refine Ret.i (fun c => Rr ?_) (fun c => Rl ⟨⟨by show 0 ≤ k + 1; omega, by show k + 1 ≤ n; omega, ?_⟩, by show (n - (k + 1)).toNat < (n - k).toNat; omega⟩)
  · rw [ha]; congr 1; omega
  · dsimp only
    have e : (k + 1).toNat = k.toNat + 1 := by omega
    rw [e, ha, Int.pow_succ]
theorem pow_bd {al : Int} (h0 : 2 ≤ al) (h1 : al ≤ 27) {z : Int} (z1 : z ≤ 6) : 0 < al ^ z.toNat ∧ al ^ z.toNat ≤ 387420489 := by
  have a := ipow_le (by omega) h1 z.toNat
  have c : ∀ n : Nat, n < 7 → (27 : Int) ^ n ≤ 387420489 := by decide +kernel
  have := c z.toNat (by omega)
  exact ⟨Int.pow_pos (by omega), by omega⟩
theorem k_often {M : jM} (h : jInv M) {r n p : Int} (a0 : -2147483648 ≤ r) (a1 : r < 2147483648) (n0 : -2147483648 ≤ n) (n1 : n < 2147483648) (p0 : -2147483648 ≤ p) (p1 : p < 2147483648) : Ret (f_X9_often M 0 r n p) (fun x => Ret (f_X10_often x.2 62 r n p) (fun y => w64 x.1 = w64 y.1 ∧ jInv y.2)) := by
  have hal := h.wb.al
  unfold f_X9_often
  refine Ret.bb (s_weigh h Fr.rfl) (fun M1 h1 => ?_)
  obtain ⟨e1, w1⟩ := h1
  have f1 := e1.fr Fr.rfl
  have q1 := e1.pt Pt.rfl
  have hi : jInv M1 := h.fp f1 q1
  rw [s_isPart M1 p0 p1, jp_0_5, w32_id n0 n1]
  have no : ¬ (isRw M r ∧ LawD (M 3 0) (rowd M r) (rowz M r)) ∨ ¬ (0 ≤ n ∧ n ≤ 60) ∨ ¬ (p = 0 ∨ p = 1) → Ret (f_X10_often M1 62 r n p) (fun b => w64 (-9223372036854775808) = w64 b.1 ∧ jInv b.2) := by
    intro hn
    unfold f_X10_often
    rw [r_isRow' h f1.f8 a0 a1, r_isPart M1 p0 p1, r_in M1 n0 n1 (by decide) (by decide) (by decide) (by decide)]
    by_cases c : 0 ≤ r ∧ r < M 63 0
    · rw [if_pos c]
      refine Ret.b ⟨1, rfl, Ret.f w32_1n (Ret.bb (r_isLawful h f1.f8 (h.rr8 f1.f8 c.1 c.2)) (fun v hv => ?_))⟩
      rw [w32_id (x := v) (by omega) (by omega)]
      refine Ret.i (fun _ => Ret.s ⟨rfl, hi⟩) (fun c2 => ?_)
      by_cases cn : 0 ≤ n ∧ n ≤ 60
      · rw [if_pos cn, if_neg (by
          rcases hn with hn | hn | hn
          · exact absurd ⟨c, hv.2.mp (by omega)⟩ hn
          · exact absurd cn hn
          · exact hn)]
        exact Ret.b ⟨1, rfl, Ret.f w32_1n (Ret.b ⟨0, rfl, Ret.t w32_0 (Ret.s ⟨rfl, hi⟩)⟩)⟩
      · rw [if_neg cn]
        exact Ret.b ⟨0, rfl, Ret.t w32_0 (Ret.s ⟨rfl, hi⟩)⟩
    · rw [if_neg c]
      exact Ret.b ⟨0, rfl, Ret.t w32_0 (Ret.s ⟨rfl, hi⟩)⟩
  refine Ret.bb (s_lawfulRow h f1 w1 a0 a1) (fun v hv => Ret.g (kd_of h hv) ?_)
  rcases hv with ⟨rfl, hv⟩ | ⟨rfl, hr, hv⟩
  · exact Ret.t (by decide) (Ret.s (no (Or.inl hv)))
  · have := hr.1
    refine Ret.f (by omega) (Ret.i (fun cn => Ret.s (no (Or.inr (Or.inl (by omega))))) (fun cn => Ret.i (fun cn2 => Ret.s (no (Or.inr (Or.inl (by omega))))) (fun cn2 => ?_)))
    by_cases c : p = 0 ∨ p = 1
    · rw [if_pos c]
      obtain ⟨l1, l2, l3⟩ := h.rl f1 hr.1 hr.2
      have hd := rowd_rng h hr
      obtain ⟨b1, b2, b3, b4⟩ := lap_bd h.wb (x := rowd M r) (n := rowz M r) l3 hd
      have pb := pow_bd hal.1 hal.2 l3
      rw [l1.2.2.1, w1.2.1, w32_id (x := aOf M) (by omega) (by omega), w32_id (x := n - rowz M r + 1) (by omega) (by omega), w32_0]
      obtain ⟨mx, hmx⟩ : ∃ mx, mx = max 0 (n - rowz M r + 1) := ⟨_, rfl⟩
      rw [← hmx, w32_id (x := mx) (by omega) (by omega)]
      refine Ret.b ⟨1, rfl, Ret.f w32_1n (Ret.bb (s_product l1 w1 h.wb) (fun y hy => Ret.bb (s_power (by omega) (by omega)) (fun x hx => ?_)))⟩
      have mb := mul_bd (a := mx) (A := 60) (b := y) (B := 531441) (by omega) (by omega) (by omega) (by omega)
      refine Ret.bb (s_fraction (by omega) (by omega) (by omega) (by omega) c) (fun z hz => Ret.s ?_)
      dsimp only
      unfold f_X10_often
      rw [r_isRow' h f1.f8 a0 a1, r_isPart M1 p0 p1, r_in M1 n0 n1 (by decide) (by decide) (by decide) (by decide), if_pos (show 0 ≤ r ∧ r < M 63 0 from hr), if_pos c, if_pos ⟨by omega, by omega⟩]
      refine Ret.b ⟨1, rfl, Ret.f w32_1n (Ret.bb (r_isLawful h f1.f8 (h.rr8 f1.f8 hr.1 hr.2)) (fun v2 hv2 => ?_))⟩
      have v21 := hv2.2.mpr hv
      subst v21
      refine Ret.f w32_1n (Ret.b ⟨1, rfl, Ret.f w32_1n (Ret.b ⟨1, rfl, Ret.f w32_1n (Ret.bb (r_looks0 h f1) (fun M2 h2 => ?_))⟩)⟩)
      obtain ⟨e2, w2⟩ := h2
      have f2 := e2.fr f1
      have rr := h.rr f2 hr.1 hr.2
      have hq := h.1.2.2.2.1.2.2.1
      have rz : M2 63 (58 + r) = rowz M r := rr.2.2.2.2.1
      have hr2 : r < M 63 0 := hr.2
      rw [w32_id (x := 58 + r) (by omega) (by omega), jp_62_1, rz, w32_id (x := n - rowz M r + 1) (by omega) (by omega)]
      refine Ret.bb (P := fun v => v = x) ?_ (fun v hv' => ?_)
      · refine Ret.it (fun S : Int × Int => 0 ≤ S.2 ∧ S.2 ≤ rowz M r ∧ S.1 = (aOf M) ^ S.2.toNat) (fun S => (rowz M r - S.2).toNat) ?_ 5000 (1, 0) ⟨by show (0 : Int) ≤ 0; omega, by show (0 : Int) ≤ _; omega, by show (1 : Int) = (aOf M) ^ (0 : Nat); exact (Int.pow_zero _).symm⟩ (by show (rowz M r - 0).toNat < 5000; omega)
        rintro ⟨a, k⟩ ⟨k0, k1, ha⟩
        dsimp only at k0 k1 ha
        unfold f_X10_often_L49
        dsimp only
        rw [w32_id (x := 58 + r) (by omega) (by omega), jp_62_1, rz, w2.1, w32_id (x := aOf M) (by omega) (by omega), w32_id (x := rowz M r) (by omega) (by omega), w32_id (x := k) (by omega) (by omega)]
        refine Ret.g ⟨by omega, by omega⟩ (Ret.i (fun c => Rr ?_) (fun c => Rl ⟨⟨by show 0 ≤ k + 1; omega, by show k + 1 ≤ _; omega, ?_⟩, by show (rowz M r - (k + 1)).toNat < (rowz M r - k).toNat; omega⟩))
        · rw [ha, hx]; congr 1; omega
        · dsimp only
          have e : (k + 1).toNat = k.toNat + 1 := by omega
          rw [e, ha, Int.pow_succ]
      · have fin : ∀ s0, s0 = mx → Ret (f_X10_often_105 M2 62 r p v s0) (fun b => w64 z = w64 b.1 ∧ jInv b.2) := by
          intro s0 hs0
          unfold f_X10_often_105
          rw [hs0, w32_id (x := mx) (by omega) (by omega), hv']
          refine Ret.bb (r_wFrom0 rr hv w2 h.wb) (fun y' hy' => ?_)
          rw [hy', ← hy]
          refine Ret.bb (r_lowest (by omega) (by omega) (by omega) (by omega) c) (fun z' hz' => Ret.s ⟨?_, h.fp f2 (e2.pt q1)⟩)
          dsimp only
          rw [hz, hz']
        exact Ret.g ⟨by omega, by omega⟩ (Ret.i (fun c => fin _ (by omega)) (fun c => fin _ (by omega)))
    · rw [if_neg c]
      exact Ret.b ⟨0, rfl, Ret.t w32_0 (Ret.s (no (Or.inr (Or.inr c))))⟩
