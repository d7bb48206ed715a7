theorem Ret.ig {S X : Type} {b : S → Option (S ⊕ X)} {Q : X → Prop} (I : Nat → S → Prop) (N : Nat) (h : ∀ i s, I i s → Ret (b s) (fun r => (∀ t, r = .inl t → I (i + 1) t) ∧ (∀ x, r = .inr x → Q x))) (hN : ∀ i s, I i s → i < N) : ∀ (n i : Nat) (s : S), I i s → N ≤ n + i → Ret (iter b n s) Q := by
  intro n
  induction n with
  | zero => intro i s hs hn; have := hN i s hs; omega
  | succ n ih =>
    intro i s hs hn
    obtain ⟨r, h1, h2, h3⟩ := h i s hs
    unfold iter
    rw [h1]
    match r, h2, h3 with
    | .inl t, h2, _ => exact ih (i + 1) t (h2 t rfl) (by omega)
    | .inr x, _, h3 => exact ⟨x, rfl, h3 x rfl⟩
/-! Euclid's steps end soon -/
def EuI (i x y : Nat) : Prop := x < 9223372036854775808 ∧ y < 9223372036854775808 ∧ i < 128 ∧ (i = 0 ∨ (y ≤ x ∧ x * y * 2 ^ i < 2 ^ 127))
theorem eu_step {i x y : Nat} (h : EuI i x y) (hy : 0 < y) : EuI (i + 1) y (x % y) := by
  obtain ⟨h1, h2, h3, h4⟩ := h
  have hm := Nat.mod_lt x hy
  have hle := Nat.mod_le x y
  rcases h4 with h4 | ⟨h4, h5⟩
  · subst h4
    refine ⟨h2, by omega, by omega, Or.inr ⟨by omega, ?_⟩⟩
    have h6 : y * (x % y) ≤ 9223372036854775807 * 9223372036854775807 := Nat.mul_le_mul (by omega) (by omega)
    have e : (2 : Nat) ^ (0 + 1) = 2 := rfl
    rw [e]
    have : (2 : Nat) ^ 127 = 170141183460469231731687303715884105728 := by decide
    rw [this]
    omega
  · have hx : 0 < x := by omega
    have h6 : 2 ^ i ≤ x * y * 2 ^ i := Nat.le_mul_of_pos_left _ (Nat.mul_pos hx hy)
    have h7 : i < 127 := (Nat.pow_lt_pow_iff_right (a := 2) (by decide)).mp (by omega)
    refine ⟨h2, by omega, by omega, Or.inr ⟨by omega, ?_⟩⟩
    have hd : 1 ≤ x / y := Nat.div_pos h4 hy
    have hq : y * 1 ≤ y * (x / y) := Nat.mul_le_mul_left y hd
    have hs := Nat.mod_add_div x y
    have h8 : y * (x % y * 2) ≤ y * x := Nat.mul_le_mul_left y (by omega)
    have e1 : y * (x % y) * 2 ^ (i + 1) = y * (x % y * 2) * 2 ^ i := by
      rw [Nat.pow_succ, Nat.mul_comm (2 ^ i) 2, ← Nat.mul_assoc, Nat.mul_assoc y (x % y) 2]
    rw [e1]
    have h9 := Nat.mul_le_mul_right (2 ^ i) h8
    rw [Nat.mul_comm y x] at h9
    omega
theorem w64_n {n : Nat} (h : n < 9223372036854775808) : w64 (n : Int) = (n : Int) := w64_id (by omega) (by omega)
theorem s_divisor {M : jM} {x y : Nat} (hx : x < 9223372036854775808) (hy : y < 9223372036854775808) : Ret (f_X9_divisor M x y) (fun r => r = (Nat.gcd x y : Nat)) := by
  unfold f_X9_divisor
  refine Ret.bb (P := fun r => r = ((Nat.gcd x y : Nat) : Int)) ?_ (fun r hr => Ret.s hr)
  refine Ret.ig (fun i (S : Int × Int × Int) => ∃ a b : Nat, S = ((a : Int), (b : Int), (i : Int)) ∧ EuI i a b ∧ Nat.gcd a b = Nat.gcd x y) 128 ?_ (fun i S ⟨a, b, _, h, _⟩ => h.2.2.1) 5000 0 _ ⟨x, y, rfl, ⟨hx, hy, by decide, Or.inl rfl⟩, rfl⟩ (by decide)
  rintro i S ⟨a, b, rfl, h1, h2⟩
  obtain ⟨g1, g2, g3, g4⟩ := id h1
  unfold f_X9_divisor_L9
  dsimp only
  rw [w32_id (x := (i : Int)) (by omega) (by omega), w64_n g1, w64_n g2]
  refine Ret.f (by omega) (Ret.i (fun c => ?_) (fun c => Ret.g c ?_))
  · have : b = 0 := by omega
    subst this
    rw [Nat.gcd_zero_right] at h2
    exact Rr (by rw [h2])
  · refine Rl ⟨b, a % b, ?_, eu_step h1 (by omega), ?_⟩
    · rw [← Int.ofNat_tmod]
      rfl
    · rw [← h2, Nat.gcd_comm b, ← Nat.gcd_rec, Nat.gcd_comm]
theorem r_divisor {M : jM} {u : Int} {y : Nat} (h0 : -9223372036854775808 < u) (h1 : u < 9223372036854775808) (hy : y < 9223372036854775808) : Ret (f_X10_divisor M u y) (fun r => r = (Nat.gcd u.natAbs y : Nat)) := by
  have loop : ∀ x : Nat, x < 9223372036854775808 → Ret (f_X10_divisor_12 M y x) (fun r => r = ((Nat.gcd x y : Nat) : Int)) := by
    intro x hx
    unfold f_X10_divisor_12
    refine Ret.bb (P := fun r => r = ((Nat.gcd x y : Nat) : Int)) ?_ (fun r hr => Ret.s hr)
    refine Ret.ig (fun i (S : Int × Int) => ∃ a b : Nat, S = ((a : Int), (b : Int)) ∧ EuI i a b ∧ Nat.gcd a b = Nat.gcd x y) 128 ?_ (fun i S ⟨a, b, _, h, _⟩ => h.2.2.1) 5000 0 _ ⟨x, y, rfl, ⟨hx, hy, by decide, Or.inl rfl⟩, rfl⟩ (by decide)
    rintro i S ⟨a, b, rfl, h1, h2⟩
    obtain ⟨g1, g2, g3, g4⟩ := id h1
    unfold f_X10_divisor_L17
    dsimp only
    rw [w64_n g1, w64_n g2]
    refine Ret.i (fun c => ?_) (fun c => Ret.g c ?_)
    · have : b = 0 := by omega
      subst this
      rw [Nat.gcd_zero_right] at h2
      exact Rr (by rw [h2])
    · refine Rl ⟨b, a % b, ?_, eu_step h1 (by omega), ?_⟩
      · rw [← Int.ofNat_tmod]
      · rw [← h2, Nat.gcd_comm b, ← Nat.gcd_rec, Nat.gcd_comm]
  unfold f_X10_divisor
  rw [w64_id (x := u) (by omega) (by omega)]
  refine Ret.i (fun c => ?_) (fun c => ?_)
  · have := loop u.natAbs (by omega)
    rw [Int.natAbs_of_nonneg c] at this
    exact this
  · have := loop u.natAbs (by omega)
    have e : ((u.natAbs : Nat) : Int) = -u := by omega
    rw [e] at this
    exact this
/-- lowest terms -/
def low (u l p : Int) : Int := (if p = 0 then u else l).tdiv ((Nat.gcd u.natAbs l.natAbs : Nat) : Int)
theorem gcd_rng {u l : Int} (l0 : 0 < l) (l1 : l < 9223372036854775808) : 0 < Nat.gcd u.natAbs l.natAbs ∧ Nat.gcd u.natAbs l.natAbs < 9223372036854775808 := by
  have h1 : 0 < l.natAbs := by omega
  have := Nat.gcd_le_right u.natAbs h1
  exact ⟨Nat.gcd_pos_of_pos_right _ h1, by omega⟩
theorem s_fraction {M : jM} {u l p : Int} (h0 : -9223372036854775808 < u) (h1 : u < 9223372036854775808) (l0 : 0 < l) (l1 : l < 9223372036854775808) (hp : p = 0 ∨ p = 1) : Ret (f_X9_fraction M u l p) (fun r => r = low u l p) := by
  unfold f_X9_fraction
  obtain ⟨q0, q1⟩ := gcd_rng (u := u) l0 l1
  rw [w64_id (x := u) (by omega) (by omega), w64_id (x := l) (by omega) (by omega), w32_id (x := p) (by omega) (by omega)]
  have e1 : (if 0 < u then u else -u) = ((u.natAbs : Nat) : Int) := by split <;> omega
  have e2 : (if 0 < l then l else -l) = ((l.natAbs : Nat) : Int) := by split <;> omega
  rw [e1, e2]
  refine Ret.bb (s_divisor (by omega) (by omega)) (fun r hr => ?_)
  subst hr
  rw [w64_n q1]
  refine Ret.f (by omega) ?_
  unfold low
  rcases hp with rfl | rfl
  · exact Ret.t rfl (Ret.g (by omega) (Ret.s rfl))
  · exact Ret.f (by decide) (Ret.g (by omega) (Ret.s rfl))
theorem r_lowest {M : jM} {u l p : Int} (h0 : -9223372036854775808 < u) (h1 : u < 9223372036854775808) (l0 : 0 < l) (l1 : l < 9223372036854775808) (hp : p = 0 ∨ p = 1) : Ret (f_X10_lowest M u l p) (fun r => r = low u l p) := by
  unfold f_X10_lowest
  obtain ⟨q0, q1⟩ := gcd_rng (u := u) l0 l1
  rw [w32_id (x := p) (by omega) (by omega)]
  have hd := r_divisor (M := M) h0 h1 (y := l.natAbs) (by omega)
  rw [Int.natAbs_of_nonneg (Int.le_of_lt l0)] at hd
  unfold low
  rcases hp with rfl | rfl
  · refine Ret.t rfl ?_
    unfold f_X10_lowest_10
    refine Ret.bb hd (fun r hr => ?_)
    subst hr
    rw [w64_n q1, w64_id (x := u) (by omega) (by omega)]
    exact Ret.g (by omega) (Ret.s rfl)
  · refine Ret.f (by decide) ?_
    unfold f_X10_lowest_10
    refine Ret.bb hd (fun r hr => ?_)
    subst hr
    rw [w64_n q1, w64_id (x := l) (by omega) (by omega)]
    exact Ret.g (by omega) (Ret.s rfl)
/-- the same fraction has the same lowest terms -/
theorem low_same {a b c d p : Int} (hb : 0 < b) (hd : 0 < d) (h : a * d = c * b) : low a b p = low c d p := by
  have key : ∀ {a b c d : Int}, 0 < b → 0 < d → a * d = c * b → ∀ g1 g2 : Nat, g1 = Nat.gcd a.natAbs b.natAbs → g2 = Nat.gcd c.natAbs d.natAbs → a.tdiv g1 = c.tdiv g2 ∧ b.tdiv g1 = d.tdiv g2 := by
    intro a b c d hb hd h g1 g2 e1 e2
    have p1 : 0 < g1 := by rw [e1]; exact Nat.gcd_pos_of_pos_right _ (by omega)
    have p2 : 0 < g2 := by rw [e2]; exact Nat.gcd_pos_of_pos_right _ (by omega)
    obtain ⟨b', hb'⟩ : ∃ b', b.natAbs = g1 * b' := by rw [e1]; exact Nat.gcd_dvd_right _ _
    obtain ⟨a', ha'⟩ : ∃ a', a.natAbs = g1 * a' := by rw [e1]; exact Nat.gcd_dvd_left _ _
    obtain ⟨d', hd'⟩ : ∃ d', d.natAbs = g2 * d' := by rw [e2]; exact Nat.gcd_dvd_right _ _
    obtain ⟨c', hc'⟩ : ∃ c', c.natAbs = g2 * c' := by rw [e2]; exact Nat.gcd_dvd_left _ _
    have co1 : Nat.gcd a' b' = 1 := by
      have : g1 * Nat.gcd a' b' = g1 * 1 := by rw [← Nat.gcd_mul_left, ← ha', ← hb', ← e1, Nat.mul_one]
      exact Nat.eq_of_mul_eq_mul_left p1 this
    have co2 : Nat.gcd c' d' = 1 := by
      have : g2 * Nat.gcd c' d' = g2 * 1 := by rw [← Nat.gcd_mul_left, ← hc', ← hd', ← e2, Nat.mul_one]
      exact Nat.eq_of_mul_eq_mul_left p2 this
    have hab : a.natAbs * d.natAbs = c.natAbs * b.natAbs := by rw [← Int.natAbs_mul, ← Int.natAbs_mul, h]
    have hab' : a' * d' = c' * b' := by
      rw [ha', hb', hc', hd'] at hab
      have e3 : g1 * a' * (g2 * d') = g1 * g2 * (a' * d') := by
        rw [Nat.mul_assoc, Nat.mul_left_comm a' g2 d', ← Nat.mul_assoc]
      have e4 : g2 * c' * (g1 * b') = g1 * g2 * (c' * b') := by
        rw [Nat.mul_assoc, Nat.mul_left_comm c' g1 b', ← Nat.mul_assoc, Nat.mul_comm g2 g1]
      rw [e3, e4] at hab
      exact Nat.eq_of_mul_eq_mul_left (Nat.mul_pos p1 p2) hab
    have b0 : 0 < b' := by
      rcases Nat.eq_zero_or_pos b' with z | z
      · rw [z] at hb'; omega
      · exact z
    have hbd : b' = d' := by
      apply Nat.dvd_antisymm
      · have : b' ∣ a' * d' := ⟨c', by rw [hab', Nat.mul_comm]⟩
        exact Nat.Coprime.dvd_of_dvd_mul_left (show Nat.gcd b' a' = 1 by rw [Nat.gcd_comm]; exact co1) this
      · have : d' ∣ c' * b' := ⟨a', by rw [← hab', Nat.mul_comm]⟩
        exact Nat.Coprime.dvd_of_dvd_mul_left (show Nat.gcd d' c' = 1 by rw [Nat.gcd_comm]; exact co2) this
    have hac : a' = c' := by
      rw [← hbd] at hab'
      exact Nat.eq_of_mul_eq_mul_right b0 hab'
    have eb : b = (g1 : Int) * (b' : Int) := by
      rw [← Int.natCast_mul, ← hb']; omega
    have ed : d = (g2 : Int) * (b' : Int) := by
      rw [hbd, ← Int.natCast_mul, ← hd']; omega
    have eb2 : b.tdiv g1 = b' := by rw [eb]; exact Int.mul_tdiv_cancel_left _ (by omega)
    have ed2 : d.tdiv g2 = b' := by rw [ed]; exact Int.mul_tdiv_cancel_left _ (by omega)
    refine ⟨?_, by rw [eb2, ed2]⟩
    have sg : (0 ≤ a ↔ 0 ≤ c) := by
      constructor
      · intro q
        have : 0 ≤ c * b := by rw [← h]; exact Int.mul_nonneg q (Int.le_of_lt hd)
        exact Int.le_of_mul_le_mul_right (by rw [Int.zero_mul]; exact this) hb
      · intro q
        have : 0 ≤ a * d := by rw [h]; exact Int.mul_nonneg q (Int.le_of_lt hb)
        exact Int.le_of_mul_le_mul_right (by rw [Int.zero_mul]; exact this) hd
    by_cases q : 0 ≤ a
    · have q2 := sg.mp q
      have ea : a = (g1 : Int) * (a' : Int) := by rw [← Int.natCast_mul, ← ha']; omega
      have ec : c = (g2 : Int) * (a' : Int) := by rw [hac, ← Int.natCast_mul, ← hc']; omega
      have z1 : a.tdiv g1 = a' := by rw [ea]; exact Int.mul_tdiv_cancel_left _ (by omega)
      have z2 : c.tdiv g2 = a' := by rw [ec]; exact Int.mul_tdiv_cancel_left _ (by omega)
      rw [z1, z2]
    · have q2 : ¬ 0 ≤ c := fun z => q (sg.mpr z)
      have ea : a = (g1 : Int) * (-(a' : Int)) := by rw [Int.mul_neg, ← Int.natCast_mul, ← ha']; omega
      have ec : c = (g2 : Int) * (-(a' : Int)) := by rw [hac, Int.mul_neg, ← Int.natCast_mul, ← hc']; omega
      have z1 : a.tdiv g1 = -(a' : Int) := by rw [ea]; exact Int.mul_tdiv_cancel_left _ (by omega)
      have z2 : c.tdiv g2 = -(a' : Int) := by rw [ec]; exact Int.mul_tdiv_cancel_left _ (by omega)
      rw [z1, z2]
  obtain ⟨k1, k2⟩ := key hb hd h _ _ rfl rfl
  unfold low
  by_cases c : p = 0
  · rw [if_pos c, if_pos c]; exact k1
  · rw [if_neg c, if_neg c]; exact k2
