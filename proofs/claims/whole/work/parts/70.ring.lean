theorem s_compareI {M : jM} {a b c d : Int} (a0 : 0 ≤ a) (ha : a < 9223372036854775808) (hb : b < 9223372036854775808) (c0 : 0 ≤ c) (hc : c < 9223372036854775808) (hd : d < 9223372036854775808) (b0 : 0 < b) (d0 : 0 < d) : Ret (f_X9_compare M a b c d) (fun r => Cmp r (a * d - c * b)) := by
  have k := s_compare (M := M) (a := a.toNat) (b := b.toNat) (c := c.toNat) (d := d.toNat) (by omega) (by omega) (by omega) (by omega) (by omega) (by omega)
  rw [Int.toNat_of_nonneg a0, Int.toNat_of_nonneg (Int.le_of_lt b0), Int.toNat_of_nonneg c0, Int.toNat_of_nonneg (Int.le_of_lt d0)] at k
  exact k
theorem r_isLessI {M : jM} {a b c d : Int} (a0 : 0 ≤ a) (ha : a < 9223372036854775808) (hb : b < 9223372036854775808) (c0 : 0 ≤ c) (hc : c < 9223372036854775808) (hd : d < 9223372036854775808) (b0 : 0 < b) (d0 : 0 < d) : Ret (f_X10_isLess M a b c d) (fun r => (r = 1 ∧ a * d - c * b < 0) ∨ (r = 0 ∧ 0 ≤ a * d - c * b)) := by
  have k := r_isLess (M := M) (a := a.toNat) (b := b.toNat) (c := c.toNat) (d := d.toNat) (by omega) (by omega) (by omega) (by omega) (by omega) (by omega)
  rw [Int.toNat_of_nonneg a0, Int.toNat_of_nonneg (Int.le_of_lt b0), Int.toNat_of_nonneg c0, Int.toNat_of_nonneg (Int.le_of_lt d0)] at k
  exact k
def BeatsM (M : jM) (a b : Int) : Prop := Apart (rowd M a) (rowz M a) (rowd M b) (rowz M b) ∧ proW (wOf M) (aOf M) (rowd M b) (rowz M b) (rowd M a) (rowz M a) < proW (wOf M) (aOf M) (rowd M a) (rowz M a) (rowd M b) (rowz M b)
theorem s_beats {M0 M : jM} (h : jInv M0) (f : Fr M0 M) (p : Pt M0 M) (w : SWt M (M0 3 0) (wOf M0) (aOf M0)) {a b : Int} (ra : isRw M0 a) (rb : isRw M0 b) : Ret (f_X9_beats M 0 (8 + a) (8 + b)) (fun x => Fr M0 x.2 ∧ Pt M0 x.2 ∧ SWt x.2 (M0 3 0) (wOf M0) (aOf M0) ∧ (x.1 = 0 ∨ x.1 = 1) ∧ (x.1 = 1 ↔ BeatsM M0 a b)) := by
  obtain ⟨la, la1, la2⟩ := h.rl f ra.1 ra.2
  obtain ⟨lb, lb1, lb2⟩ := h.rl f rb.1 rb.2
  unfold f_X9_beats
  refine Ret.bb (s_isApart la lb la1 lb1) (fun v hv => ?_)
  rw [w32_id (x := v) (by omega) (by omega), jp_0_5, jp_0_6]
  refine Ret.i (fun c => Ret.s ⟨f, p, w, Or.inl rfl, fun q => absurd q (by show ¬ (0 : Int) = 1; decide), fun q => by have := hv.2.mpr q.1; omega⟩) (fun c => Ret.bb (s_measure la lb w h.wb) (fun M2 h2 => ?_))
  obtain ⟨e2, d0, d1, d2, d3⟩ := h2
  have f2 : Fr M0 M2 := f.tr (fun x y k => e2 x y (by unfold kp at k; omega))
  have p2 : Pt M0 M2 := p.tr ⟨e2 _ _ (by decide), e2 _ _ (by decide), e2 _ _ (by decide), e2 _ _ (by decide)⟩
  have b1 := pro_bd h.wb la2 lb2 (rowd_rng h ra) (rowd_rng h rb)
  have b2 := pro_bd h.wb lb2 la2 (rowd_rng h rb) (rowd_rng h ra)
  rw [d0, d1, w64_id (by omega) (by omega), w64_id (by omega) (by omega)]
  refine Ret.i (fun c2 => Ret.s ⟨f2, p2, w.fr e2, Or.inl rfl, fun q => absurd q (by show ¬ (0 : Int) = 1; decide), fun q => ?_⟩) (fun c2 => Ret.s ⟨f2, p2, w.fr e2, Or.inr rfl, fun _ => ⟨hv.2.mp (by omega), by omega⟩, fun _ => rfl⟩)
  have := q.2
  omega
theorem r_ahead {M0 M : jM} (h : jInv M0) (f : Fr M0 M) (p : Pt M0 M) {a b : Int} (ra : isRw M0 a) (rb : isRw M0 b) (la : LawD (M0 3 0) (rowd M0 a) (rowz M0 a)) (lb : LawD (M0 3 0) (rowd M0 b) (rowz M0 b)) : Ret (f_X10_isAheadOf M 62 a b) (fun x => Fr M0 x.2 ∧ Pt M0 x.2 ∧ (x.1 = 0 ∨ x.1 = 1) ∧ (x.1 = 1 ↔ BeatsM M0 a b)) := by
  obtain ⟨-, la1, la2⟩ := h.rl f ra.1 ra.2
  obtain ⟨-, lb1, lb2⟩ := h.rl f rb.1 rb.2
  unfold f_X10_isAheadOf
  refine Ret.bb (r_apart (h.rr f ra.1 ra.2) (h.rr f rb.1 rb.2)) (fun v hv => ?_)
  rw [w32_id (x := v) (by omega) (by omega)]
  refine Ret.i (fun c => Ret.s ⟨f, p, Or.inl rfl, fun q => absurd q (by show ¬ (0 : Int) = 1; decide), fun q => by have := hv.2.mpr q.1; omega⟩) (fun c => Ret.bb (r_odds0 h f ⟨ra, rb, la, lb, hv.2.mp (by omega)⟩) (fun M2 h2 => ?_))
  obtain ⟨e2, w2, d0, d1⟩ := h2
  have b1 := pro_bd h.wb la2 lb2 (rowd_rng h ra) (rowd_rng h rb)
  have b2 := pro_bd h.wb lb2 la2 (rowd_rng h rb) (rowd_rng h ra)
  rw [d0, d1, w64_id (by omega) (by omega), w64_id (by omega) (by omega)]
  refine Ret.i (fun c2 => Ret.s ⟨e2.fr f, e2.pt p, Or.inl rfl, fun q => absurd q (by show ¬ (0 : Int) = 1; decide), fun q => ?_⟩) (fun c2 => Ret.s ⟨e2.fr f, e2.pt p, Or.inr rfl, fun _ => ⟨hv.2.mp (by omega), by omega⟩, fun _ => rfl⟩)
  have := q.2
  omega
/-- how ring's answer comes from its questions -/
def RingA (M : jM) (a b c : Int) (v : Int) : Prop := (v = -1 ∧ ¬ (isRw M a ∧ isRw M b ∧ isRw M c)) ∨ ((isRw M a ∧ isRw M b ∧ isRw M c) ∧ ((v = -3 ∧ ¬ (LawD (M 3 0) (rowd M a) (rowz M a) ∧ LawD (M 3 0) (rowd M b) (rowz M b) ∧ LawD (M 3 0) (rowd M c) (rowz M c))) ∨ ((LawD (M 3 0) (rowd M a) (rowz M a) ∧ LawD (M 3 0) (rowd M b) (rowz M b) ∧ LawD (M 3 0) (rowd M c) (rowz M c)) ∧ ((v = 1 ∧ BeatsM M a b ∧ BeatsM M b c ∧ BeatsM M c a) ∨ (v = 0 ∧ ¬ (BeatsM M a b ∧ BeatsM M b c ∧ BeatsM M c a))))))
theorem RingA.one {M : jM} {a b c v u : Int} (h1 : RingA M a b c v) (h2 : RingA M a b c u) : v = u := by
  rcases h1 with ⟨e1, n1⟩ | ⟨y1, h1⟩ <;> rcases h2 with ⟨e2, n2⟩ | ⟨y2, h2⟩
  · omega
  · exact absurd y2 n1
  · exact absurd y1 n2
  · rcases h1 with ⟨e1, n1⟩ | ⟨y1, h1⟩ <;> rcases h2 with ⟨e2, n2⟩ | ⟨y2, h2⟩
    · omega
    · exact absurd y2 n1
    · exact absurd y1 n2
    · rcases h1 with ⟨e1, n1⟩ | ⟨e1, n1⟩ <;> rcases h2 with ⟨e2, n2⟩ | ⟨e2, n2⟩
      · omega
      · exact absurd n1 n2
      · exact absurd n2 n1
      · omega
theorem kd_if {M : jM} (h : jInv M) {r : Int} : (if 0 ≤ r ∧ r < M 63 0 then 8 + r else -1) < 0 ∨ jkd (if 0 ≤ r ∧ r < M 63 0 then 8 + r else -1) = (3, 0) := by
  have hq := h.1.2.2.2.1.2.2.1
  by_cases c : 0 ≤ r ∧ r < M 63 0
  · rw [if_pos c]; exact Or.inr (kd_row c.1 (by omega))
  · rw [if_neg c]; exact Or.inl (by decide)
theorem s_ring {M : jM} (h : jInv M) {a b c : Int} (a0 : -2147483648 ≤ a) (a1 : a < 2147483648) (b0 : -2147483648 ≤ b) (b1 : b < 2147483648) (c0 : -2147483648 ≤ c) (c1 : c < 2147483648) : Ret (f_X9_ring M 0 a b c) (fun x => Fr M x.2 ∧ Pt M x.2 ∧ RingA M a b c x.1) := by
  obtain ⟨g0, g1, -⟩ := h.st
  unfold f_X9_ring
  rw [jp_0_0, jp_0_5, s_rowAt' h Fr.rfl a0 a1, s_rowAt' h Fr.rfl b0 b1, s_rowAt' h Fr.rfl c0 c1]
  refine Ret.b ⟨_, rfl, Ret.g (kd_if h) (Ret.b ⟨_, rfl, Ret.g (kd_if h) (Ret.b ⟨_, rfl, Ret.g (kd_if h) ?_⟩)⟩)⟩
  by_cases ra : isRw M a
  · rw [if_pos (show 0 ≤ a ∧ a < M 63 0 from ra)]
    have ra0 := ra.1
    refine Ret.f (by omega) ?_
    by_cases rb : isRw M b
    · rw [if_pos (show 0 ≤ b ∧ b < M 63 0 from rb)]
      have rb0 := rb.1
      refine Ret.f (by omega) ?_
      by_cases rc : isRw M c
      · rw [if_pos (show 0 ≤ c ∧ c < M 63 0 from rc)]
        have rc0 := rc.1
        refine Ret.f (by omega) ?_
        refine Ret.bb (s_weigh h Fr.rfl) (fun M1 h1 => ?_)
        obtain ⟨e1, w1⟩ := h1
        have f1 := e1.fr Fr.rfl
        have p1 := e1.pt Pt.rfl
        obtain ⟨la, la1, la2⟩ := h.rl f1 ra.1 ra.2
        obtain ⟨lb, lb1, lb2⟩ := h.rl f1 rb.1 rb.2
        obtain ⟨lc, lc1, lc2⟩ := h.rl f1 rc.1 rc.2
        refine Ret.bb (s_isLawful la w1.1 g0 g1) (fun v hv => ?_)
        rw [w32_id (x := v) (by omega) (by omega)]
        refine Ret.i (fun q => Ret.s ⟨f1, p1, Or.inr ⟨⟨ra, rb, rc⟩, Or.inl ⟨rfl, fun z => by have := hv.2.mpr z.1; omega⟩⟩⟩) (fun qa => ?_)
        refine Ret.bb (s_isLawful lb w1.1 g0 g1) (fun u hu => ?_)
        rw [w32_id (x := u) (by omega) (by omega)]
        refine Ret.i (fun q => Ret.s ⟨f1, p1, Or.inr ⟨⟨ra, rb, rc⟩, Or.inl ⟨rfl, fun z => by have := hu.2.mpr z.2.1; omega⟩⟩⟩) (fun qb => ?_)
        refine Ret.bb (s_isLawful lc w1.1 g0 g1) (fun t ht => ?_)
        rw [w32_id (x := t) (by omega) (by omega)]
        refine Ret.i (fun q => Ret.s ⟨f1, p1, Or.inr ⟨⟨ra, rb, rc⟩, Or.inl ⟨rfl, fun z => by have := ht.2.mpr z.2.2; omega⟩⟩⟩) (fun qc => ?_)
        have law := And.intro (hv.2.mp (by omega)) (And.intro (hu.2.mp (by omega)) (ht.2.mp (by omega)))
        refine Ret.bb (s_beats h f1 p1 w1 ra rb) ?_
        rintro ⟨x, M2⟩ ⟨f2, p2, w2, x01, hx⟩
        dsimp only at f2 p2 w2 x01 hx ⊢
        rw [w32_id (x := x) (by omega) (by omega)]
        refine Ret.i (fun q => Ret.s ⟨f2, p2, Or.inr ⟨⟨ra, rb, rc⟩, Or.inr ⟨law, Or.inr ⟨rfl, fun z => by have := hx.mpr z.1; omega⟩⟩⟩⟩) (fun q1 => ?_)
        refine Ret.bb (s_beats h f2 p2 w2 rb rc) ?_
        rintro ⟨y, M3⟩ ⟨f3, p3, w3, y01, hy⟩
        dsimp only at f3 p3 w3 y01 hy ⊢
        rw [w32_id (x := y) (by omega) (by omega)]
        refine Ret.i (fun q => Ret.s ⟨f3, p3, Or.inr ⟨⟨ra, rb, rc⟩, Or.inr ⟨law, Or.inr ⟨rfl, fun z => by have := hy.mpr z.2.1; omega⟩⟩⟩⟩) (fun q2 => ?_)
        refine Ret.bb (s_beats h f3 p3 w3 rc ra) ?_
        rintro ⟨z, M4⟩ ⟨f4, p4, w4, z01, hz⟩
        dsimp only at f4 p4 w4 z01 hz ⊢
        rw [w32_id (x := z) (by omega) (by omega)]
        exact Ret.i (fun q => Ret.s ⟨f4, p4, Or.inr ⟨⟨ra, rb, rc⟩, Or.inr ⟨law, Or.inr ⟨rfl, fun z => by have := hz.mpr z.2.2; omega⟩⟩⟩⟩) (fun q3 => Ret.s ⟨f4, p4, Or.inr ⟨⟨ra, rb, rc⟩, Or.inr ⟨law, Or.inl ⟨rfl, hx.mp (by omega), hy.mp (by omega), hz.mp (by omega)⟩⟩⟩⟩)
      · rw [if_neg (show ¬ (0 ≤ c ∧ c < M 63 0) from rc)]
        exact Ret.t (by decide) (Ret.s ⟨Fr.rfl, Pt.rfl, Or.inl ⟨rfl, fun z => rc z.2.2⟩⟩)
    · rw [if_neg (show ¬ (0 ≤ b ∧ b < M 63 0) from rb)]
      exact Ret.t (by decide) (Ret.s ⟨Fr.rfl, Pt.rfl, Or.inl ⟨rfl, fun z => rb z.2.1⟩⟩)
  · rw [if_neg (show ¬ (0 ≤ a ∧ a < M 63 0) from ra)]
    exact Ret.t (by decide) (Ret.s ⟨Fr.rfl, Pt.rfl, Or.inl ⟨rfl, fun z => ra z.1⟩⟩)
theorem r_ring {M0 M : jM} (h : jInv M0) (f : Fr M0 M) (p : Pt M0 M) {a b c : Int} (a0 : -2147483648 ≤ a) (a1 : a < 2147483648) (b0 : -2147483648 ≤ b) (b1 : b < 2147483648) (c0 : -2147483648 ≤ c) (c1 : c < 2147483648) : Ret (f_X10_ring M 62 a b c) (fun x => Fr M0 x.2 ∧ Pt M0 x.2 ∧ RingA M0 a b c x.1) := by
  unfold f_X10_ring
  rw [r_isRow' h f.f8 a0 a1, r_isRow' h f.f8 b0 b1, r_isRow' h f.f8 c0 c1]
  by_cases ra : isRw M0 a
  · rw [if_pos (show 0 ≤ a ∧ a < M0 63 0 from ra)]
    refine Ret.b ⟨1, rfl, Ret.f w32_1n ?_⟩
    by_cases rb : isRw M0 b
    · rw [if_pos (show 0 ≤ b ∧ b < M0 63 0 from rb)]
      refine Ret.b ⟨1, rfl, Ret.f w32_1n ?_⟩
      by_cases rc : isRw M0 c
      · rw [if_pos (show 0 ≤ c ∧ c < M0 63 0 from rc)]
        refine Ret.b ⟨1, rfl, Ret.f w32_1n ?_⟩
        refine Ret.bb (r_isLawful h f.f8 (h.rr f ra.1 ra.2)) (fun v hv => ?_)
        rw [w32_id (x := v) (by omega) (by omega)]
        refine Ret.i (fun q => Ret.s ⟨f, p, Or.inr ⟨⟨ra, rb, rc⟩, Or.inl ⟨rfl, fun z => by have := hv.2.mpr z.1; omega⟩⟩⟩) (fun qa => ?_)
        refine Ret.bb (r_isLawful h f.f8 (h.rr f rb.1 rb.2)) (fun u hu => ?_)
        rw [w32_id (x := u) (by omega) (by omega)]
        refine Ret.i (fun q => Ret.s ⟨f, p, Or.inr ⟨⟨ra, rb, rc⟩, Or.inl ⟨rfl, fun z => by have := hu.2.mpr z.2.1; omega⟩⟩⟩) (fun qb => ?_)
        refine Ret.bb (r_isLawful h f.f8 (h.rr f rc.1 rc.2)) (fun t ht => ?_)
        rw [w32_id (x := t) (by omega) (by omega)]
        refine Ret.i (fun q => Ret.s ⟨f, p, Or.inr ⟨⟨ra, rb, rc⟩, Or.inl ⟨rfl, fun z => by have := ht.2.mpr z.2.2; omega⟩⟩⟩) (fun qc => ?_)
        have law := And.intro (hv.2.mp (by omega)) (And.intro (hu.2.mp (by omega)) (ht.2.mp (by omega)))
        refine Ret.bb (r_ahead h f p ra rb law.1 law.2.1) ?_
        rintro ⟨x, M2⟩ ⟨f2, p2, x01, hx⟩
        dsimp only at f2 p2 x01 hx ⊢
        rw [w32_id (x := x) (by omega) (by omega)]
        refine Ret.i (fun q => Ret.s ⟨f2, p2, Or.inr ⟨⟨ra, rb, rc⟩, Or.inr ⟨law, Or.inr ⟨rfl, fun z => by have := hx.mpr z.1; omega⟩⟩⟩⟩) (fun q1 => ?_)
        refine Ret.bb (r_ahead h f2 p2 rb rc law.2.1 law.2.2) ?_
        rintro ⟨y, M3⟩ ⟨f3, p3, y01, hy⟩
        dsimp only at f3 p3 y01 hy ⊢
        rw [w32_id (x := y) (by omega) (by omega)]
        refine Ret.i (fun q => Ret.s ⟨f3, p3, Or.inr ⟨⟨ra, rb, rc⟩, Or.inr ⟨law, Or.inr ⟨rfl, fun z => by have := hy.mpr z.2.1; omega⟩⟩⟩⟩) (fun q2 => ?_)
        refine Ret.bb (r_ahead h f3 p3 rc ra law.2.2 law.1) ?_
        rintro ⟨z, M4⟩ ⟨f4, p4, z01, hz⟩
        dsimp only at f4 p4 z01 hz ⊢
        rw [w32_id (x := z) (by omega) (by omega)]
        exact Ret.i (fun q => Ret.s ⟨f4, p4, Or.inr ⟨⟨ra, rb, rc⟩, Or.inr ⟨law, Or.inr ⟨rfl, fun z => by have := hz.mpr z.2.2; omega⟩⟩⟩⟩) (fun q3 => Ret.s ⟨f4, p4, Or.inr ⟨⟨ra, rb, rc⟩, Or.inr ⟨law, Or.inl ⟨rfl, hx.mp (by omega), hy.mp (by omega), hz.mp (by omega)⟩⟩⟩⟩)
      · rw [if_neg (show ¬ (0 ≤ c ∧ c < M0 63 0) from rc)]
        exact Ret.b ⟨0, rfl, Ret.t w32_0 (Ret.s ⟨f, p, Or.inl ⟨rfl, fun z => rc z.2.2⟩⟩)⟩
    · rw [if_neg (show ¬ (0 ≤ b ∧ b < M0 63 0) from rb)]
      exact Ret.b ⟨0, rfl, Ret.t w32_0 (Ret.s ⟨f, p, Or.inl ⟨rfl, fun z => rb z.2.1⟩⟩)⟩
  · rw [if_neg (show ¬ (0 ≤ a ∧ a < M0 63 0) from ra)]
    exact Ret.b ⟨0, rfl, Ret.t w32_0 (Ret.s ⟨f, p, Or.inl ⟨rfl, fun z => ra z.1⟩⟩)⟩
theorem k_ring {M : jM} (h : jInv M) {a b c : Int} (a0 : -2147483648 ≤ a) (a1 : a < 2147483648) (b0 : -2147483648 ≤ b) (b1 : b < 2147483648) (c0 : -2147483648 ≤ c) (c1 : c < 2147483648) : Ret (f_X9_ring M 0 a b c) (fun x => Ret (f_X10_ring x.2 62 a b c) (fun y => w32 x.1 = w32 y.1 ∧ jInv y.2)) := Ret.m (s_ring h a0 a1 b0 b1 c0 c1) (fun x ⟨f1, p1, v1⟩ => Ret.m (r_ring h f1 p1 a0 a1 b0 b1 c0 c1) (fun y ⟨f2, p2, v2⟩ => ⟨by rw [v1.one v2], h.fp f2 p2⟩))
