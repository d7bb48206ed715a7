theorem small_of {g x B : Int} (g0 : 0 < g) (x0 : 0 ≤ x) (h : g * x ≤ B) : x ≤ B := by
  have := Int.mul_le_mul_of_nonneg_right (show (1 : Int) ≤ g by omega) x0
  omega
theorem k_lasts {M : jM} (h : jInv M) {a b p : Int} (a0 : -2147483648 ≤ a) (a1 : a < 2147483648) (b0 : -2147483648 ≤ b) (b1 : b < 2147483648) (p0 : -2147483648 ≤ p) (p1 : p < 2147483648) : Ret (f_X9_lasts M 0 a b p) (fun x => Ret (f_X10_lasts x.2 62 a b p) (fun y => w64 x.1 = w64 y.1 ∧ jInv y.2)) := by
  unfold f_X9_lasts f_X10_lasts
  refine s_meet h Fr.rfl Pt.rfl a0 a1 b0 b1 p0 p1 (fun M' f' p' hn => ?_) (fun M' f' p' w' hm cp hd => ?_)
  · exact r_meet h f'.f8 a0 a1 b0 b1 p0 p1 (fun _ => ⟨rfl, h.fp f' p'⟩) (fun q1 q2 => by
      rcases hn with hn | hn
      · exact absurd q1 hn
      · exact absurd q2 hn)
  · obtain ⟨z1, z2, z3, z4⟩ := hm.pos h h.wb
    obtain ⟨d0, d1, d2, d3⟩ := hd
    obtain ⟨laa, lbb, lba, lab, pa, pb, x1, x2, x3, x4, x5, x6, x7, x8, x9, y1, y2, y3, y4, y5, y6, y7, y8, y9, y10, y11, y12, y13, y14⟩ := hm.tight h
    have ln := len_nn y1 y2 y3 y7 y11
    have l1 := mul_bd y3 y4 y5 y6
    have l2 := Int.mul_nonneg y7 y9
    have m1 := mul_bd y5 y6 (Int.le_of_lt y11) y12
    have m2 := mul_bd y3 y4 (Int.le_of_lt y13) y14
    have m3 := Int.mul_nonneg y7 (Int.le_of_lt y13)
    have m4 := Int.mul_nonneg y9 (Int.le_of_lt y11)
    rw [jp_0_6]
    dsimp only
    rw [d3, d2, x7, x8, x9]
    refine Ret.bb (s_fraction (by omega) (by omega) (by omega) (by omega) cp) (fun x hx => Ret.s ?_)
    refine r_meet h f'.f8 a0 a1 b0 b1 p0 p1 (fun hn => by
      rcases hn with hn | hn
      · exact absurd hm hn
      · exact absurd cp hn) (fun _ _ => ?_)
    obtain ⟨g, m', t', g0, hg, hm', ht', e1, e2, q1, q2⟩ := div_common y1 y2
    refine Ret.bb (r_lastsAbove h f' p' hm x1 x3 x7 x8 (by omega) (by omega) g0 hg hm' ht') ?_
    rintro ⟨up, M2⟩ ⟨f2, p2, w2, c2, t2, hu⟩
    dsimp only at f2 p2 w2 c2 t2 hu ⊢
    refine Ret.bb (r_wFrom0 (h.rr f2 hm.1.1 hm.1.2) hm.2.2.1 w2 h.wb) (fun v hv => ?_)
    rw [x5] at hv
    subst hv
    rw [c2, t2]
    have alg := lasts_alg e1 e2
    rw [← hu] at alg
    have hlen := mul_bd (Int.le_of_lt y11) y12 ln (show laa * lbb - lba * lab ≤ 20006226100224 by omega)
    have up0 : 0 ≤ up := by
      have : 0 * g ≤ up * g := by rw [Int.zero_mul, Int.mul_comm, alg]; exact hlen.1
      exact Int.le_of_mul_le_mul_right this g0
    have up1 := small_of g0 up0 (B := 4096 * 20006226100224) (by rw [alg]; exact hlen.2)
    have hs : g * ((m' + t') * v) = ((lbb * v - lba * pb) + (laa * pb - lab * v)) * v := by
      rw [← Int.mul_assoc, Int.mul_add, ← e1, ← e2]
    have hsb := mul_bd (a := (lbb * v - lba * pb) + (laa * pb - lab * v)) (A := 36641439744) (b := v) (B := 4096) (by omega) (by omega) (by omega) y12
    have lo0 : 0 < (m' + t') * v := Int.mul_pos (by omega) y11
    have lo1 := small_of g0 (Int.le_of_lt lo0) (B := 36641439744 * 4096) (by rw [hs]; exact hsb.2)
    refine Ret.bb (r_lowest (by omega) (by omega) lo0 (by omega) cp) (fun y hy => Ret.s ⟨?_, h.fp f2 p2⟩)
    dsimp only
    rw [hx, hy]
    congr 1
    refine low_same (by omega) lo0 ?_
    have key : g * ((laa * lbb - lba * lab) * ((m' + t') * v)) = g * (up * ((lbb * v - lba * pb) + (laa * pb - lab * v))) := by
      rw [Int.mul_left_comm, hs, ← Int.mul_assoc g up, alg, Int.mul_comm ((lbb * v - lba * pb) + (laa * pb - lab * v)) v, ← Int.mul_assoc, Int.mul_comm (laa * lbb - lba * lab) v]
    exact Int.eq_of_mul_eq_mul_left (by omega) key
theorem k_worth {M : jM} (h : jInv M) {a b p : Int} (a0 : -2147483648 ≤ a) (a1 : a < 2147483648) (b0 : -2147483648 ≤ b) (b1 : b < 2147483648) (p0 : -2147483648 ≤ p) (p1 : p < 2147483648) : Ret (f_X9_worth M 0 a b p) (fun x => Ret (f_X10_worth x.2 62 a b p) (fun y => w64 x.1 = w64 y.1 ∧ jInv y.2)) := by
  obtain ⟨-, -, -, -, -, fe0, fe1, pr0, pr1, -⟩ := h.st
  unfold f_X9_worth f_X10_worth
  refine s_meet h Fr.rfl Pt.rfl a0 a1 b0 b1 p0 p1 (fun M' f' p' hn => ?_) (fun M' f' p' w' hm cp hd => ?_)
  · exact r_meet h f'.f8 a0 a1 b0 b1 p0 p1 (fun _ => ⟨rfl, h.fp f' p'⟩) (fun q1 q2 => by
      rcases hn with hn | hn
      · exact absurd q1 hn
      · exact absurd q2 hn)
  · obtain ⟨z1, z2, z3, z4⟩ := hm.pos h h.wb
    obtain ⟨d0, d1, d2, d3⟩ := hd
    obtain ⟨laa, lbb, lba, lab, pa, pb, x1, x2, x3, x4, x5, x6, x7, x8, x9, y1, y2, y3, y4, y5, y6, y7, y8, y9, y10, y11, y12, y13, y14⟩ := hm.tight h
    have ln := len_nn y1 y2 y3 y7 y11
    have l1 := mul_bd y3 y4 y5 y6
    have l2 := Int.mul_nonneg y7 y9
    have m1 := mul_bd y5 y6 (Int.le_of_lt y11) y12
    have m2 := mul_bd y3 y4 (Int.le_of_lt y13) y14
    have m3 := Int.mul_nonneg y7 (Int.le_of_lt y13)
    have m4 := Int.mul_nonneg y9 (Int.le_of_lt y11)
    rw [jp_0_6, jp_0_0, jp_1_2]
    dsimp only
    rw [d0, d3, d2, x7, x8, x9, f' 3 1 (kp_lo (by decide)), f' 3 2 (kp_lo (by decide)), w32_id (x := M 3 1) (by omega) (by omega), w32_id (x := M 3 2) (by omega) (by omega)]
    generalize hfe : M 3 1 = fe at *
    generalize hpr : M 3 2 = pr at *
    have v1 := mul_bd pr0 pr1 (b := lbb * pa - lba * pb) (B := 18320719872) (by omega) (by omega)
    have v2 := mul_bd fe0 fe1 (b := laa * lbb - lba * lab) (B := 20006226100224) (by omega) (by omega)
    refine Ret.bb (s_fraction (by omega) (by omega) (by omega) (by omega) cp) (fun x hx => Ret.s ?_)
    refine r_meet h f'.f8 a0 a1 b0 b1 p0 p1 (fun hn => by
      rcases hn with hn | hn
      · exact absurd hm hn
      · exact absurd cp hn) (fun _ _ => ?_)
    obtain ⟨g, m', t', g0, hg, hm', ht', e1, e2, q1, q2⟩ := div_common y1 y2
    refine Ret.bb (r_lastsAbove h f' p' hm x1 x3 x7 x8 (by omega) (by omega) g0 hg hm' ht') ?_
    rintro ⟨up, M2⟩ ⟨f2, p2, w2, c2, t2, hu⟩
    dsimp only at f2 p2 w2 c2 t2 hu ⊢
    refine Ret.bb (r_wFrom0 (h.rr f2 hm.1.1 hm.1.2) hm.2.2.1 w2 h.wb) (fun v hv => ?_)
    rw [x5] at hv
    subst hv
    rw [c2, t2, r_tellsOf h f2.f8 (by decide) (by decide), r_tellsOf h f2.f8 (by decide) (by decide), h.h3 (wh := 237) (no := 1) (Or.inl ⟨rfl, rfl, rfl⟩), h.h3 (wh := 242) (no := 10) (Or.inr ⟨rfl, rfl, rfl⟩), hfe, hpr]
    refine Ret.b ⟨_, rfl, Ret.b ⟨_, rfl, ?_⟩⟩
    dsimp only
    rw [w32_id (x := fe) (by omega) (by omega), w32_id (x := pr) (by omega) (by omega)]
    have alg := lasts_alg e1 e2
    rw [← hu] at alg
    have hs : g * ((m' + t') * v) = ((lbb * v - lba * pb) + (laa * pb - lab * v)) * v := by
      rw [← Int.mul_assoc, Int.mul_add, ← e1, ← e2]
    have hsb := mul_bd (a := (lbb * v - lba * pb) + (laa * pb - lab * v)) (A := 36641439744) (b := v) (B := 4096) (by omega) (by omega) (by omega) y12
    have lo0 : 0 < (m' + t') * v := Int.mul_pos (by omega) y11
    have lo1 := small_of g0 (Int.le_of_lt lo0) (B := 36641439744 * 4096) (by rw [hs]; exact hsb.2)
    -- the two parts of the value, each by g
    have eA : g * (pr * m' * v) = v * (pr * (lbb * v - lba * pb)) := by
      rw [e1, Int.mul_comm (pr * m') v, Int.mul_left_comm g v, Int.mul_left_comm g pr m']
    have eB : g * (fe * up) = v * (fe * (laa * lbb - lba * lab)) := by
      rw [Int.mul_left_comm, alg, Int.mul_left_comm]
    have bA := mul_bd (Int.le_of_lt y11) y12 v1.1 v1.2
    have bB := mul_bd (Int.le_of_lt y11) y12 v2.1 v2.2
    have A0 : 0 ≤ pr * m' * v := Int.mul_nonneg (Int.mul_nonneg pr0 (by omega)) (by omega)
    have up0 : 0 ≤ up := by
      have hlen := Int.mul_nonneg (Int.le_of_lt y11) ln
      have : 0 * g ≤ up * g := by rw [Int.zero_mul, Int.mul_comm, alg]; exact hlen
      exact Int.le_of_mul_le_mul_right this g0
    have B0 : 0 ≤ fe * up := Int.mul_nonneg fe0 up0
    have A1 := small_of g0 A0 (B := 4096 * (99 * 18320719872)) (by rw [eA]; exact bA.2)
    have B1 := small_of g0 B0 (B := 4096 * (99 * 20006226100224)) (by rw [eB]; exact bB.2)
    refine Ret.bb (r_lowest (by omega) (by omega) lo0 (by omega) cp) (fun y hy => Ret.s ⟨?_, h.fp f2 p2⟩)
    dsimp only
    rw [hx, hy]
    congr 1
    refine low_same (by omega) lo0 ?_
    have eV : g * (pr * m' * v - fe * up) = v * (pr * (lbb * v - lba * pb) - fe * (laa * lbb - lba * lab)) := by
      rw [Int.mul_sub, Int.mul_sub v, eA, eB]
    generalize pr * (lbb * v - lba * pb) - fe * (laa * lbb - lba * lab) = V at eV ⊢
    have key : g * (V * ((m' + t') * v)) = g * ((pr * m' * v - fe * up) * ((lbb * v - lba * pb) + (laa * pb - lab * v))) := by
      rw [Int.mul_left_comm, hs, ← Int.mul_assoc g, eV, Int.mul_comm ((lbb * v - lba * pb) + (laa * pb - lab * v)) v, ← Int.mul_assoc, Int.mul_comm V v]
    exact Int.eq_of_mul_eq_mul_left (by omega) key
