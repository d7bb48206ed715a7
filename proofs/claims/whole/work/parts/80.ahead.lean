/-! which row has come first of all -/
def AhE (M : jM) (t r : Int) : Prop := rowz M r ≤ t ∧ EndsW (fun i => M 63 (72 + i)) t (rowd M r) (rowz M r)
def AheadR (M : jM) (v : Int) : Prop := (v = -5 ∧ ∀ t r, 1 ≤ t → t ≤ M 63 4 → isRw M r → ¬ AhE M t r) ∨ (isRw M v ∧ ∃ t, 1 ≤ t ∧ t ≤ M 63 4 ∧ AhE M t v ∧ ∀ t' r', 1 ≤ t' → t' ≤ M 63 4 → isRw M r' → AhE M t' r' → t < t' ∨ (t = t' ∧ v ≤ r'))
theorem AheadR.one {M : jM} {v u : Int} (h1 : AheadR M v) (h2 : AheadR M u) : v = u := by
  rcases h1 with ⟨e1, n1⟩ | ⟨r1, t1, a1, b1, c1, d1⟩ <;> rcases h2 with ⟨e2, n2⟩ | ⟨r2, t2, a2, b2, c2, d2⟩
  · omega
  · exact absurd c2 (n1 t2 u a2 b2 r2)
  · exact absurd c1 (n2 t1 v a1 b1 r1)
  · have := d1 t2 u a2 b2 r2 c2
    have := d2 t1 v a1 b1 r1 c1
    omega
theorem s_ahead {M : jM} (h : jInv M) : Ret (f_X9_ahead M 0) (AheadR M) := by
  have hT := h.tl Fr.rfl
  have hn0 := hT.1
  have hn := hT.2.1
  have hR := h.1.2.2.2.1
  have hq := hR.2.2.1
  have hq0 := hR.2.1
  have e7 : M 1 7 = M 63 0 := hR.1
  unfold f_X9_ahead
  refine Ret.bb (P := fun x : Unit ⊕ Int => (x = .inl () ∧ AheadR M (-5)) ∨ (∃ v, x = .inr v ∧ AheadR M v)) ?_ ?_
  · refine Ret.it (fun t : Int => 1 ≤ t ∧ t ≤ M 63 4 + 1 ∧ ∀ t' r', 1 ≤ t' → t' < t → isRw M r' → ¬ AhE M t' r') (fun t => (26 - t).toNat) ?_ 5000 1 ⟨by omega, by omega, fun t' r' h1 h2 => by omega⟩ (by decide)
    intro t ⟨t0, t1, ht⟩
    unfold f_X9_ahead_L2
    rw [jp_0_0, jp_1_12, hT.2.2.1, w32_id (x := M 63 4) (by omega) (by omega), w32_id (x := t) (by omega) (by omega)]
    refine Ret.i (fun c => Rr (Or.inl ⟨rfl, Or.inl ⟨rfl, fun t' r' h1 h2 h3 => ht t' r' h1 (by omega) h3⟩⟩)) (fun c => ?_)
    refine Ret.bb (P := fun x : Unit ⊕ Int => (x = .inl () ∧ ∀ r', isRw M r' → ¬ AhE M t r') ∨ (∃ v, x = .inr v ∧ isRw M v ∧ AhE M t v ∧ ∀ r', 0 ≤ r' → r' < v → ¬ AhE M t r')) ?_ ?_
    · refine Ret.it (fun r : Int => 0 ≤ r ∧ r ≤ M 63 0 ∧ ∀ r', 0 ≤ r' → r' < r → ¬ AhE M t r') (fun r => (M 63 0 - r).toNat) ?_ 5000 0 ⟨by omega, by omega, fun r' h1 h2 => by omega⟩ (by omega)
      intro r ⟨r0, r1, hr⟩
      unfold f_X9_ahead_L18
      rw [jp_0_0, jp_1_6, jp_1_12, e7, w32_id (x := M 63 0) (by omega) (by omega), w32_id (x := r) (by omega) (by omega)]
      refine Ret.i (fun c2 => Rr (Or.inl ⟨rfl, fun r' h1 => hr r' h1.1 (by have := h1.2; omega)⟩)) (fun c2 => Ret.g ⟨r0, by omega⟩ ?_)
      rw [jp_7 r0 (by omega)]
      obtain ⟨l1, l2, l3⟩ := h.rl Fr.rfl r0 (by omega)
      obtain ⟨v, v1, v2, v3⟩ := s_endsAt hT l1 (t := t) (by omega) (by omega)
      refine Ret.b ⟨v, v1, ?_⟩
      dsimp only
      rw [w32_id (x := v) (by omega) (by omega)]
      refine Ret.i (fun c3 => Rl ⟨⟨by omega, by omega, fun r' h1 h2 => ?_⟩, by show (M 63 0 - (r + 1)).toNat < (M 63 0 - r).toNat; omega⟩) (fun c3 => Rr (Or.inr ⟨r, rfl, ⟨r0, by omega⟩, ⟨(v3.mp (by omega)).1, (v3.mp (by omega)).2.2⟩, hr⟩))
      by_cases q : r' = r
      · rw [q]
        intro z
        have := v3.mpr ⟨z.1, by omega, z.2⟩
        omega
      · exact hr r' h1 (by omega)
    · rintro x (⟨rfl, hx⟩ | ⟨v, rfl, hv, hE, hx⟩)
      · refine Rl ⟨⟨by omega, by omega, fun t' r' h1 h2 h3 => ?_⟩, by show (26 - (t + 1)).toNat < (26 - t).toNat; omega⟩
        by_cases q : t' = t
        · rw [q]; exact hx r' h3
        · exact ht t' r' h1 (by omega) h3
      · refine Rr (Or.inr ⟨v, rfl, Or.inr ⟨hv, t, t0, by omega, hE, fun t' r' h1 h2 h3 h4 => ?_⟩⟩)
        rcases Int.lt_trichotomy t t' with q | q | q
        · exact Or.inl q
        · refine Or.inr ⟨q, ?_⟩
          rw [← q] at h4
          rcases Int.lt_or_le r' v with z | z
          · exact absurd h4 (hx r' h3.1 z)
          · exact z
        · exact absurd h4 (ht t' r' h1 q h3)
  · rintro x (⟨rfl, hx⟩ | ⟨v, rfl, hx⟩)
    · exact Ret.s hx
    · exact Ret.s hx
theorem r_aheadM {M : jM} (h : jInv M) : Ret (f_X10_ahead M 62) (AheadR M) := by
  have hT := h.tl Fr.rfl
  have hn0 := hT.1
  have hn := hT.2.1
  have hR := h.1.2.2.2.1
  have hq := hR.2.2.1
  have hq0 := hR.2.1
  have hC : ∀ r, isRw M r → Ret (f_X10_cameBehind M 62 r) (fun c => (c = -5 ∧ ∀ t, 1 ≤ t → t ≤ M 63 4 → ¬ AhE M t r) ∨ (1 ≤ c ∧ c ≤ M 63 4 ∧ AhE M c r ∧ ∀ t, 1 ≤ t → t ≤ M 63 4 → AhE M t r → c ≤ t)) := by
    intro r hr
    obtain ⟨z0, z1⟩ := rowz_rng h hr
    refine Ret.m (r_came h.1.2.2.2.2.1 hR hr.1 hr.2) (fun c hc => ?_)
    rcases hc with ⟨q1, q2⟩ | ⟨q1, q2, q3, q4⟩
    · exact Or.inl ⟨q1, fun t t0 t1 ⟨s1, s2⟩ => q2 t s1 t1 s2⟩
    · have q1 : rowz M r ≤ c := q1
      refine Or.inr ⟨by omega, q2, ⟨q1, q3⟩, fun t t0 t1 ⟨s1, s2⟩ => ?_⟩
      rcases Int.lt_or_le t c with z | z
      · exact absurd s2 (q4 t s1 z)
      · exact z
  unfold f_X10_ahead
  rw [jp_62_1]
  refine Ret.bb (P := AheadR M) ?_ (fun v hv => Ret.s hv)
  refine Ret.it (fun S : Int × Int => -1 ≤ S.2 ∧ S.2 < M 63 0 ∧ ((S.1 = -5 ∧ ∀ t r, 1 ≤ t → t ≤ M 63 4 → S.2 < r → isRw M r → ¬ AhE M t r) ∨ (isRw M S.1 ∧ S.2 < S.1 ∧ ∃ t, 1 ≤ t ∧ t ≤ M 63 4 ∧ AhE M t S.1 ∧ ∀ t' r', 1 ≤ t' → t' ≤ M 63 4 → S.2 < r' → isRw M r' → AhE M t' r' → t < t' ∨ (t = t' ∧ S.1 ≤ r')))) (fun S => (S.2 + 1).toNat) ?_ 5000 (-5, M 63 0 - 1) ⟨by show -1 ≤ M 63 0 - 1; omega, by show M 63 0 - 1 < M 63 0; omega, Or.inl ⟨rfl, fun t r h1 h2 h3 h4 => by have h3 : M 63 0 - 1 < r := h3; have := h4.2; omega⟩⟩ (by show (M 63 0 - 1 + 1).toNat < 5000; omega)
  rintro ⟨best, r⟩ ⟨r0, r1, hs⟩
  dsimp only at r0 r1 hs
  unfold f_X10_ahead_L12 f_X10_ahead_47 f_X10_ahead_43 f_X10_ahead_48
  dsimp +instances only
  have hb : -5 ≤ best ∧ best ≤ 6 := by
    rcases hs with ⟨q, _⟩ | ⟨q, _⟩
    · omega
    · have := q.1; have := q.2; omega
  rw [w32_id (x := r) (by omega) (by omega), w32_id (x := best) (by omega) (by omega)]
  refine Ret.i (fun c => Rr ?_) (fun c => ?_)
  · rcases hs with ⟨q1, q2⟩ | ⟨q1, q2, t, t0, t1, q3, q4⟩
    · exact Or.inl ⟨q1, fun t r' h1 h2 h3 => q2 t r' h1 h2 (by have := h3.1; omega) h3⟩
    · exact Or.inr ⟨q1, t, t0, t1, q3, fun t' r' h1 h2 h3 => q4 t' r' h1 h2 (by have := h3.1; omega) h3⟩
  have hr : isRw M r := ⟨by omega, r1⟩
  have mu : (r + (-1) + 1).toNat < (r + 1).toNat := by omega
  refine Ret.bb (hC r hr) (fun k hk => ?_)
  have hk1 : -5 ≤ k ∧ k ≤ 24 := by rcases hk with ⟨q, _⟩ | ⟨q1, q2, _⟩ <;> omega
  rw [w32_id (x := k) (by omega) (by omega)]
  refine Ret.i (fun c2 => Rl ⟨⟨by show -1 ≤ r + (-1); omega, by show r + (-1) < M 63 0; omega, ?_⟩, mu⟩) (fun c2 => ?_)
  · have hno : ∀ t, 1 ≤ t → t ≤ M 63 4 → ¬ AhE M t r := by
      rcases hk with ⟨_, q⟩ | ⟨q1, _⟩
      · exact q
      · omega
    dsimp only
    rcases hs with ⟨q1, q2⟩ | ⟨q1, q2, t, t0, t1, q3, q4⟩
    · refine Or.inl ⟨q1, fun t r' h1 h2 h3 h4 => ?_⟩
      by_cases q : r' = r
      · rw [q]; exact hno t h1 h2
      · exact q2 t r' h1 h2 (by omega) h4
    · refine Or.inr ⟨q1, by omega, t, t0, t1, q3, fun t' r' h1 h2 h3 h4 h5 => ?_⟩
      by_cases q : r' = r
      · rw [q] at h5; exact absurd h5 (hno t' h1 h2)
      · exact q4 t' r' h1 h2 (by omega) h4 h5
  rcases hk with ⟨q, _⟩ | ⟨k0, k1, kE, kL⟩
  · exact absurd q c2
  refine Ret.i (fun c3 => Rl ⟨⟨by show -1 ≤ r + (-1); omega, by show r + (-1) < M 63 0; omega, ?_⟩, mu⟩) (fun c3 => ?_)
  · dsimp only
    rcases hs with ⟨q1, q2⟩ | ⟨q1, q2, _⟩
    · refine Or.inr ⟨hr, by omega, k, k0, k1, kE, fun t' r' h1 h2 h3 h4 h5 => ?_⟩
      by_cases q : r' = r
      · rw [q] at h5
        have := kL t' h1 h2 h5
        omega
      · exact absurd h5 (q2 t' r' h1 h2 (by omega) h4)
    · have := q1.1; omega
  rcases hs with ⟨q1, q2⟩ | ⟨q1, q2, t, t0, t1, q3, q4⟩
  · exact absurd q1 c3
  refine Ret.bb (hC best q1) (fun u hu => ?_)
  have hu1 : u = t := by
    rcases hu with ⟨_, z⟩ | ⟨u0, u1, uE, uL⟩
    · exact absurd q3 (z t t0 t1)
    · have := uL t t0 t1 q3
      have := q4 u best u0 u1 (by omega) q1 uE
      omega
  rw [hu1, w32_id (x := t) (by omega) (by omega)]
  refine Ret.i (fun c4 => Rl ⟨⟨by show -1 ≤ r + (-1); omega, by show r + (-1) < M 63 0; omega, Or.inr ⟨q1, by show r + (-1) < best; omega, t, t0, t1, q3, fun t' r' h1 h2 h3 h4 h5 => ?_⟩⟩, mu⟩) (fun c4 => Rl ⟨⟨by show -1 ≤ r + (-1); omega, by show r + (-1) < M 63 0; omega, Or.inr ⟨hr, by show r + (-1) < r; omega, k, k0, k1, kE, fun t' r' h1 h2 h3 h4 h5 => ?_⟩⟩, mu⟩)
  · have h3 : r + (-1) < r' := h3
    dsimp only
    by_cases q : r' = r
    · rw [q] at h5
      have := kL t' h1 h2 h5
      omega
    · exact q4 t' r' h1 h2 (by omega) h4 h5
  · have h3 : r + (-1) < r' := h3
    dsimp only
    by_cases q : r' = r
    · rw [q] at h5
      have := kL t' h1 h2 h5
      omega
    · have := q4 t' r' h1 h2 (by omega) h4 h5
      omega
theorem k_ahead {M : jM} (h : jInv M) : Ret (f_X9_ahead M 0) (fun a => Ret (f_X10_ahead M 62) (fun b => w32 a = w32 b)) := Ret.m (s_ahead h) (fun _ ha => Ret.m (r_aheadM h) (fun _ hb => by rw [ha.one hb]))
