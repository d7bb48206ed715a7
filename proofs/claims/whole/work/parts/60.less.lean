/-! which of two fractions is less: both by continued fractions -/
theorem div_lt {a b c d : Nat} (hb : 0 < b) (hd : 0 < d) (h : a / b < c / d) : a * d < c * b := by
  have h1 : a < b * (a / b + 1) := by
    have := Nat.mod_lt a hb
    have := Nat.mod_add_div a b
    rw [Nat.mul_add]
    omega
  have h2 : b * (a / b + 1) ≤ b * (c / d) := Nat.mul_le_mul_left b h
  have h3 : d * (c / d) ≤ c := Nat.mul_div_le c d
  have h4 : a * d < b * (c / d) * d := Nat.mul_lt_mul_of_pos_right (Nat.lt_of_lt_of_le h1 h2) hd
  have h5 : b * (c / d) * d = b * (d * (c / d)) := by rw [Nat.mul_assoc, Nat.mul_comm (c / d) d]
  have h6 : b * (d * (c / d)) ≤ b * c := Nat.mul_le_mul_left b h3
  rw [Nat.mul_comm c b]
  omega
theorem div_tdiv {a b : Nat} (ha : a < 9223372036854775808) (hb : b < 9223372036854775808) : w64 ((w64 (a : Int)).tdiv (w64 (b : Int))) = ((a / b : Nat) : Int) := by
  rw [w64_n ha, w64_n hb, ← Int.ofNat_tdiv]
  exact w64_n (Nat.lt_of_le_of_lt (Nat.div_le_self a b) ha)
theorem mod_tmod {a b : Nat} (ha : a < 9223372036854775808) (hb : b < 9223372036854775808) : w64 ((w64 (a : Int)).tmod (w64 (b : Int))) = ((a % b : Nat) : Int) ∧ (w64 (a : Int)).tmod (w64 (b : Int)) = ((a % b : Nat) : Int) := by
  rw [w64_n ha, w64_n hb, ← Int.ofNat_tmod]
  exact ⟨w64_n (Nat.lt_of_le_of_lt (Nat.mod_le a b) ha), rfl⟩
theorem cross_step {a b c d : Nat} (h : a / b = c / d) : (d : Int) * ((a % b : Nat) : Int) - (b : Int) * ((c % d : Nat) : Int) = (a : Int) * d - (c : Int) * b := by
  have h1 := Nat.mod_add_div a b
  have h2 := Nat.mod_add_div c d
  rw [← h] at h2
  have e1 : (a : Int) = ((a % b : Nat) : Int) + (b : Int) * ((a / b : Nat) : Int) := by rw [← Int.natCast_mul, ← Int.natCast_add, h1]
  have e2 : (c : Int) = ((c % d : Nat) : Int) + (d : Int) * ((a / b : Nat) : Int) := by rw [← Int.natCast_mul, ← Int.natCast_add, h2]
  generalize ((a % b : Nat) : Int) = r at *
  generalize ((c % d : Nat) : Int) = s at *
  generalize ((a / b : Nat) : Int) = q at *
  rw [e1, e2, Int.add_mul, Int.add_mul, Int.mul_comm (d : Int) r, Int.mul_comm (b : Int) s, Int.mul_right_comm (b : Int) q (d : Int), Int.mul_right_comm (d : Int) q (b : Int), Int.mul_comm (d : Int) (b : Int)]
  omega
theorem mod_sub {c d : Nat} : (c : Int) - ((c / d : Nat) : Int) * (d : Int) = ((c % d : Nat) : Int) := by
  have h2 := Nat.mod_add_div c d
  have e2 : (c : Int) = ((c % d : Nat) : Int) + (d : Int) * ((c / d : Nat) : Int) := by rw [← Int.natCast_mul, ← Int.natCast_add, h2]
  rw [Int.mul_comm]
  omega
def Cmp (r K : Int) : Prop := (r = 1 ∧ 0 < K) ∨ (r = 0 ∧ K = 0) ∨ (r = -1 ∧ K < 0)
theorem s_compare {M : jM} {a b c d : Nat} (ha : a < 9223372036854775808) (hb : b < 9223372036854775808) (hc : c < 9223372036854775808) (hd : d < 9223372036854775808) (b0 : 0 < b) (d0 : 0 < d) : Ret (f_X9_compare M a b c d) (fun r => Cmp r ((a : Int) * d - (c : Int) * b)) := by
  obtain ⟨K, hK⟩ : ∃ K : Int, K = (a : Int) * d - (c : Int) * b := ⟨_, rfl⟩
  rw [← hK]
  unfold f_X9_compare
  refine Ret.bb (P := fun x : Unit ⊕ (Int × Int) ⊕ (Int × Int) => (∃ a b c d : Nat, x = .inr (.inl ((b : Int), (d : Int))) ∧ b < 9223372036854775808 ∧ d < 9223372036854775808 ∧ (b = 0 ∨ d = 0) ∧ (b = 0 → 0 < a) ∧ (d = 0 → 0 < c) ∧ K = (a : Int) * d - (c : Int) * b) ∨ (∃ a b c d : Nat, x = .inr (.inr (((a / b : Nat) : Int), ((c / d : Nat) : Int))) ∧ a < 9223372036854775808 ∧ c < 9223372036854775808 ∧ 0 < b ∧ 0 < d ∧ a / b ≠ c / d ∧ K = (a : Int) * d - (c : Int) * b)) ?_ ?_
  · refine Ret.ig (fun i (S : Int × Int × Int × Int × Int) => ∃ a b c d : Nat, S = ((a : Int), (b : Int), (c : Int), (d : Int), (i : Int)) ∧ EuI i a b ∧ EuI i c d ∧ (b = 0 → 0 < a) ∧ (d = 0 → 0 < c) ∧ K = (a : Int) * d - (c : Int) * b) 128 ?_ (fun i S ⟨a, b, c, d, _, h, _⟩ => h.2.2.1) 5000 0 _ ⟨a, b, c, d, rfl, ⟨ha, hb, by decide, Or.inl rfl⟩, ⟨hc, hd, by decide, Or.inl rfl⟩, fun z => by omega, fun z => by omega, hK⟩ (by decide)
    rintro i S ⟨a, b, c, d, rfl, h1, h2, hb0, hd0, hk⟩
    obtain ⟨p1, p2, p3, _⟩ := id h1
    obtain ⟨q1, q2, _, _⟩ := id h2
    unfold f_X9_compare_L17
    dsimp only
    rw [w32_id (x := (i : Int)) (by omega) (by omega), div_tdiv p1 p2, div_tdiv q1 q2, w64_n p2, w64_n q2, w64_n p1, w64_n q1]
    refine Ret.f (by omega) (Ret.i (fun c1 => Rr (Or.inl ⟨a, b, c, d, rfl, p2, q2, Or.inl (by omega), hb0, hd0, hk⟩)) (fun c1 => Ret.i (fun c2 => Rr (Or.inl ⟨a, b, c, d, rfl, p2, q2, Or.inr (by omega), hb0, hd0, hk⟩)) (fun c2 => Ret.g c1 (Ret.g c2 (Ret.i (fun c3 => Rl ?_) (fun c3 => Rr (Or.inr ⟨a, b, c, d, ?_, p1, q1, by omega, by omega, by omega, hk⟩)))))))
    · have c4 : a / b = c / d := by omega
      refine ⟨d, c % d, b, a % b, ?_, eu_step h2 (by omega), eu_step h1 (by omega), fun _ => by omega, fun _ => by omega, ?_⟩
      · rw [← Int.ofNat_tdiv, ← Int.ofNat_tdiv, mod_sub, mod_sub]
        rfl
      · rw [hk]; exact (cross_step c4).symm
    · rw [← Int.ofNat_tdiv, ← Int.ofNat_tdiv]
  · rintro x (⟨a, b, c, d, rfl, p2, q2, h0, hb0, hd0, hk⟩ | ⟨a, b, c, d, rfl, p1, q1, hb0, hd0, hne, hk⟩)
    · show Ret (if w64 (b : Int) = w64 (d : Int) then some 0 else (if w64 (b : Int) = 0 then some 1 else some (-1))) _
      rw [w64_n p2, w64_n q2]
      refine Ret.i (fun c1 => Ret.s ?_) (fun c1 => Ret.i (fun c2 => Ret.s ?_) (fun c2 => Ret.s ?_))
      · have e1 : b = 0 := by omega
        have e2 : d = 0 := by omega
        subst e1; subst e2
        exact Or.inr (Or.inl ⟨rfl, by rw [hk]; simp⟩)
      · have e1 : b = 0 := by omega
        subst e1
        have := Int.mul_pos (a := (a : Int)) (b := (d : Int)) (by have := hb0 rfl; omega) (by omega)
        refine Or.inl ⟨rfl, ?_⟩
        rw [hk]; simp; omega
      · have e1 : d = 0 := by omega
        subst e1
        have := Int.mul_pos (a := (c : Int)) (b := (b : Int)) (by have := hd0 rfl; omega) (by omega)
        refine Or.inr (Or.inr ⟨rfl, ?_⟩)
        rw [hk]; simp; omega
    · show Ret (if w64 ((c / d : Nat) : Int) ≤ w64 ((a / b : Nat) : Int) then some 1 else some (-1)) _
      have z1 := Nat.div_le_self a b
      have z2 := Nat.div_le_self c d
      rw [w64_n (by omega), w64_n (by omega)]
      refine Ret.i (fun c1 => Ret.s (Or.inl ⟨rfl, ?_⟩)) (fun c1 => Ret.s (Or.inr (Or.inr ⟨rfl, ?_⟩)))
      · have := div_lt (a := c) (b := d) (c := a) (d := b) hd0 hb0 (by omega)
        rw [hk, ← Int.natCast_mul, ← Int.natCast_mul]
        omega
      · have := div_lt (a := a) (b := b) (c := c) (d := d) hb0 hd0 (by omega)
        rw [hk, ← Int.natCast_mul, ← Int.natCast_mul]
        omega
theorem r_isLess {M : jM} {a b c d : Nat} (ha : a < 9223372036854775808) (hb : b < 9223372036854775808) (hc : c < 9223372036854775808) (hd : d < 9223372036854775808) (b0 : 0 < b) (d0 : 0 < d) : Ret (f_X10_isLess M a b c d) (fun r => (r = 1 ∧ (a : Int) * d - (c : Int) * b < 0) ∨ (r = 0 ∧ 0 ≤ (a : Int) * d - (c : Int) * b)) := by
  obtain ⟨K, hK⟩ : ∃ K : Int, K = (a : Int) * d - (c : Int) * b := ⟨_, rfl⟩
  rw [← hK]
  unfold f_X10_isLess
  refine Ret.bb (P := fun x : (Int × Int × Int × Int) ⊕ Unit ⊕ Unit => (∃ a b c d : Nat, x = .inl ((a : Int), (b : Int), (c : Int), (d : Int)) ∧ a < 9223372036854775808 ∧ b < 9223372036854775808 ∧ c < 9223372036854775808 ∧ d < 9223372036854775808 ∧ 0 < b ∧ 0 < d ∧ a / b ≠ c / d ∧ K = (a : Int) * d - (c : Int) * b) ∨ (x = .inr (.inl ()) ∧ 0 ≤ K) ∨ (x = .inr (.inr ()) ∧ K < 0)) ?_ ?_
  · refine Ret.ig (fun i (S : Int × Int × Int × Int) => ∃ a b c d : Nat, S = ((a : Int), (b : Int), (c : Int), (d : Int)) ∧ EuI i a b ∧ EuI i c d ∧ 0 < b ∧ 0 < d ∧ K = (a : Int) * d - (c : Int) * b) 128 ?_ (fun i S ⟨a, b, c, d, _, h, _⟩ => h.2.2.1) 5000 0 _ ⟨a, b, c, d, rfl, ⟨ha, hb, by decide, Or.inl rfl⟩, ⟨hc, hd, by decide, Or.inl rfl⟩, b0, d0, hK⟩ (by decide)
    rintro i S ⟨a, b, c, d, rfl, h1, h2, hb0, hd0, hk⟩
    obtain ⟨p1, p2, p3, _⟩ := id h1
    obtain ⟨q1, q2, _, _⟩ := id h2
    unfold f_X10_isLess_L14
    dsimp only
    rw [div_tdiv p1 p2, div_tdiv q1 q2, (mod_tmod p1 p2).1, (mod_tmod q1 q2).1, (mod_tmod p1 p2).2, (mod_tmod q1 q2).2, w64_n p2, w64_n q2]
    refine Ret.g (by omega) (Ret.g (by omega) (Ret.i (fun c3 => Ret.g (by omega) (Ret.g (by omega) ?_)) (fun c3 => Rr (Or.inl ⟨a, b, c, d, rfl, p1, p2, q1, q2, hb0, hd0, by omega, hk⟩))))
    have c4 : a / b = c / d := by omega
    have hx := cross_step c4
    rw [← hk] at hx
    refine Ret.i (fun c5 => Rr (Or.inr (Or.inl ⟨rfl, ?_⟩))) (fun c5 => Ret.i (fun c6 => Rr (Or.inr (Or.inr ⟨rfl, ?_⟩))) (fun c6 => Rl ⟨d, c % d, b, a % b, rfl, eu_step h2 hd0, eu_step h1 hb0, by omega, by omega, hx.symm⟩))
    · rw [c5, Int.mul_zero] at hx
      have := Int.mul_nonneg (a := (d : Int)) (b := ((a % b : Nat) : Int)) (by omega) (by omega)
      omega
    · rw [c6, Int.mul_zero] at hx
      have := Int.mul_pos (a := (b : Int)) (b := ((c % d : Nat) : Int)) (by omega) (by omega)
      omega
  · rintro x (⟨a, b, c, d, rfl, p1, p2, q1, q2, hb0, hd0, hne, hk⟩ | ⟨rfl, h⟩ | ⟨rfl, h⟩)
    · show Ret (grd (¬ w64 (b : Int) = 0) (grd (¬ w64 (d : Int) = 0) (if w64 ((w64 (c : Int)).tdiv (w64 (d : Int))) ≤ w64 ((w64 (a : Int)).tdiv (w64 (b : Int))) then some 0 else some 1))) _
      rw [div_tdiv p1 p2, div_tdiv q1 q2, w64_n p2, w64_n q2]
      refine Ret.g (by omega) (Ret.g (by omega) (Ret.i (fun c1 => Ret.s (Or.inr ⟨rfl, ?_⟩)) (fun c1 => Ret.s (Or.inl ⟨rfl, ?_⟩))))
      · have := div_lt (a := c) (b := d) (c := a) (d := b) hd0 hb0 (by omega)
        rw [hk, ← Int.natCast_mul, ← Int.natCast_mul]
        omega
      · have := div_lt (a := a) (b := b) (c := c) (d := d) hb0 hd0 (by omega)
        rw [hk, ← Int.natCast_mul, ← Int.natCast_mul]
        omega
    · exact Ret.s (Or.inr ⟨rfl, h⟩)
    · exact Ret.s (Or.inl ⟨rfl, h⟩)
