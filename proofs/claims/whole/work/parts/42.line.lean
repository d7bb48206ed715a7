/-! lines: digits d, n of them -/
def Ln (M : jM) (t : Int) (d : Int → Int) (n : Int) : Prop := 0 ≤ n ∧ n ≤ 24 ∧ M t 0 = n ∧ M t 1 = pk4 d n.toNat ∧ ∀ i, 0 ≤ i → i < n → 0 ≤ d i ∧ d i ≤ 2
theorem p4_e {k : Int} (h : 0 ≤ k) : (2 : Int) ^ (2 * k).toNat = 4 ^ k.toNat := by
  have e : (2 * k).toNat = 2 * k.toNat := by omega
  rw [e, Int.pow_mul]
  rfl
theorem p4_le : ∀ {a b : Nat}, a ≤ b → (4 : Int) ^ a ≤ 4 ^ b := by
  intro a b h
  obtain ⟨c, rfl⟩ := Nat.exists_eq_add_of_le h
  rw [Int.pow_add]
  have h1 : (0 : Int) < 4 ^ a := Int.pow_pos (by decide)
  have h2 : (1 : Int) ≤ 4 ^ c := Int.pow_pos (by decide)
  have := Int.mul_le_mul_of_nonneg_left h2 (Int.le_of_lt h1)
  omega
theorem Ln.dn {M : jM} {t : Int} {d : Int → Int} {n : Int} (h : Ln M t d n) : ∀ i : Nat, i < n.toNat → 0 ≤ d i ∧ d i ≤ 2 := fun i hi => h.2.2.2.2 i (by omega) (by have := h.1; omega)
theorem pk_bd {d : Int → Int} {n : Nat} (hn : n ≤ 24) (h : ∀ i : Nat, i < n → 0 ≤ d i ∧ d i ≤ 2) : 0 ≤ pk4 d n ∧ pk4 d n < 281474976710656 := by
  obtain ⟨h1, h2⟩ := pk4_rng h
  have h3 : (4 : Int) ^ n ≤ 4 ^ 24 := p4_le hn
  have h4 : (4 : Int) ^ 24 = 281474976710656 := by decide
  omega
theorem Ln.bd {M : jM} {t : Int} {d : Int → Int} {n : Int} (h : Ln M t d n) : 0 ≤ M t 1 ∧ M t 1 < 281474976710656 := by
  rw [h.2.2.2.1]
  exact pk_bd (by have := h.1; have := h.2.1; omega) h.dn
theorem iand3_g (n : Nat) : iand (n : Int) 3 = ((n % 4 : Nat) : Int) := by
  unfold iand
  rw [z_nI, show (Int32.ofInt 3) = (3 : Int32) from rfl, pk_and (nI n) 2 (by decide)]
  have e : (nI n).toBitVec.toNat % 2 ^ 2 = n % 4 := by
    show (n % 2 ^ 32) % 2 ^ 2 = n % 4
    omega
  rw [e]
  exact nI_toInt (by omega)
theorem iand3_z {a : Int} (h : 0 ≤ a) : iand a 3 = a % 4 := by
  have e1 : ((a.toNat : Nat) : Int) = a := Int.toNat_of_nonneg h
  have k := iand3_g a.toNat
  rw [e1] at k
  rw [k, Int.natCast_emod, e1]
  rfl
/-- the first k digits -/
theorem ln_first {M : jM} {t : Int} {d : Int → Int} {n k : Int} (h : Ln M t d n) (h0 : 0 ≤ k) (h1 : k ≤ n) : lshr (M t 1) (2 * (n - k)) = pk4 d k.toNat := by
  obtain ⟨b0, b1⟩ := h.bd
  have hn := h.2.1
  rw [lshr_e b0 (by omega) (by omega) (by omega), p4_e (by omega), h.2.2.2.1]
  have e : (n - k).toNat = n.toNat - k.toNat := by omega
  rw [e]
  exact pk4_div h.dn k.toNat (by omega)
theorem s_firstOnes {M : jM} {t : Int} {d : Int → Int} {n k : Int} (h : Ln M t d n) (h0 : 0 ≤ k) (h1 : k ≤ n) : f_X3_firstOnes M t k = some (pk4 d k.toNat) := by
  unfold f_X3_firstOnes
  rw [h.2.2.1, ln_first h h0 h1]
theorem ln_mask {a : Int} {k : Int} (h0 : 0 ≤ a) (h1 : a < 281474976710656) (k0 : 0 ≤ k) (k1 : k ≤ 24) : land a ((lshl 1 (2 * k)) - 1) = a % 4 ^ k.toNat := by
  have hb : (4 : Int) ^ k.toNat ≤ 4 ^ 24 := p4_le (by omega)
  have h4 : (4 : Int) ^ 24 = 281474976710656 := by decide
  rw [lshl_e (by decide) (by omega) (by omega) (by rw [p4_e k0]; omega), Int.one_mul]
  rw [land_m (k := (2 * k).toNat) h0 (by omega) (by omega), p4_e k0]
theorem s_lastOnes {M : jM} {t : Int} {d : Int → Int} {n k : Int} (h : Ln M t d n) (h0 : 0 ≤ k) (h1 : k ≤ n) : f_X3_lastOnes M t k = some (pk4 (fun i => d (n - k + i)) k.toNat) := by
  unfold f_X3_lastOnes
  obtain ⟨b0, b1⟩ := h.bd
  have hn := h.2.1
  have hn0 := h.1
  rw [ln_mask b0 b1 h0 (by omega), h.2.2.2.1, pk4_mod h.dn k.toNat (by omega)]
  congr 1
  exact pk4_cong (fun i _ => by show d _ = d _; congr 1; omega)
theorem s_signAt {M : jM} {t : Int} {d : Int → Int} {n k : Int} (h : Ln M t d n) (k0 : -2147483648 ≤ k) (k1 : k < 2147483648) : f_X3_signAt M t k = some (if 0 ≤ k ∧ k < n then d k else -1) := by
  unfold f_X3_signAt f_X3_signAt_12
  have hn := h.2.1
  have hn0 := h.1
  rw [h.2.2.1, w32_id k0 k1, w32_id (x := n) (by omega) (by omega)]
  by_cases c1 : k < 0
  · rw [if_pos c1, if_neg (by omega)]
  · rw [if_neg c1]
    by_cases c2 : k < n
    · rw [if_pos c2, if_pos ⟨by omega, c2⟩]
      have e : n - 1 - k = n - (k + 1) := by omega
      rw [e, ln_first h (by omega) (by omega)]
      have e2 : (k + 1).toNat = k.toNat + 1 := by omega
      obtain ⟨p0, p1⟩ := pk_bd (d := d) (n := k.toNat) (by omega) (fun i hi => h.2.2.2.2 i (by omega) (by omega))
      obtain ⟨d0, d1⟩ := h.2.2.2.2 k (by omega) c2
      have e3 : ((k.toNat : Nat) : Int) = k := Int.toNat_of_nonneg (by omega)
      rw [e2]
      show some (iand (4 * pk4 d k.toNat + d ((k.toNat : Nat) : Int)) 3) = _
      rw [e3, iand3_z (by omega)]
      congr 1
      omega
    · rw [if_neg c2, if_neg (by omega)]
/-- what the first t digits end with -/
def EndsW (d : Int → Int) (t : Int) (e : Int → Int) (m : Int) : Prop := ∀ j, 0 ≤ j → j < m → d (t - m + j) = e j
theorem s_endsAt {M : jM} {a b : Int} {d e : Int → Int} {n m t : Int} (ha : Ln M a d n) (hb : Ln M b e m) (t0 : -2147483648 ≤ t) (t1 : t < 2147483648) : ∃ r : Int, f_X3_endsAt M a b t = some r ∧ (r = 0 ∨ r = 1) ∧ (r = 1 ↔ m ≤ t ∧ t ≤ n ∧ EndsW d t e m) := by
  unfold f_X3_endsAt
  have hn := ha.2.1
  have hn0 := ha.1
  have hm := hb.2.1
  have hm0 := hb.1
  rw [hb.2.2.1, ha.2.2.1, w32_id t0 t1, w32_id (x := n) (by omega) (by omega), w32_id (x := m) (by omega) (by omega)]
  by_cases c1 : t < m
  · rw [if_pos c1]
    exact ⟨0, rfl, Or.inl rfl, ⟨fun h => by omega, fun h => by omega⟩⟩
  · rw [if_neg c1]
    by_cases c2 : n < t
    · rw [if_pos c2]
      exact ⟨0, rfl, Or.inl rfl, ⟨fun h => by omega, fun h => by omega⟩⟩
    · rw [if_neg c2, s_firstOnes ha (by omega) (by omega)]
      show ∃ r : Int, (if w64 (land (pk4 d t.toNat) _) = _ then _ else _) = some r ∧ _
      have hdt : ∀ i : Nat, i < t.toNat → 0 ≤ d i ∧ d i ≤ 2 := fun i hi => ha.2.2.2.2 i (by omega) (by omega)
      obtain ⟨p0, p1⟩ := pk_bd (d := d) (n := t.toNat) (by omega) hdt
      rw [ln_mask p0 p1 hm0 hm, pk4_mod hdt m.toNat (by omega), hb.2.2.2.1]
      have hd2 : ∀ i : Nat, i < m.toNat → 0 ≤ d (((t.toNat : Nat) : Int) - ((m.toNat : Nat) : Int) + (i : Int)) ∧ d (((t.toNat : Nat) : Int) - ((m.toNat : Nat) : Int) + (i : Int)) ≤ 2 := fun i hi => ha.2.2.2.2 _ (by omega) (by omega)
      obtain ⟨q0, q1⟩ := pk_bd (d := fun i => d (((t.toNat : Nat) : Int) - ((m.toNat : Nat) : Int) + i)) (n := m.toNat) (by omega) hd2
      obtain ⟨r0, r1⟩ := pk_bd (n := m.toNat) (by omega) hb.dn
      rw [w64_id (by omega) (by omega), w64_id (by omega) (by omega)]
      by_cases c3 : pk4 (fun i => d (((t.toNat : Nat) : Int) - ((m.toNat : Nat) : Int) + i)) m.toNat = pk4 e m.toNat
      · rw [if_pos c3]
        refine ⟨1, rfl, Or.inr rfl, ⟨fun _ => ⟨by omega, by omega, fun j j0 j1 => ?_⟩, fun _ => rfl⟩⟩
        have := pk4_inj (d := fun i => d (((t.toNat : Nat) : Int) - ((m.toNat : Nat) : Int) + i)) hd2 hb.dn c3 j.toNat (by omega)
        have e1 : ((j.toNat : Nat) : Int) = j := Int.toNat_of_nonneg j0
        have e2 : ((t.toNat : Nat) : Int) = t := Int.toNat_of_nonneg (by omega)
        have e3 : ((m.toNat : Nat) : Int) = m := Int.toNat_of_nonneg hm0
        simp only [e1, e2, e3] at this
        exact this
      · rw [if_neg c3]
        refine ⟨0, rfl, Or.inl rfl, ⟨fun h => by omega, fun h => ?_⟩⟩
        exfalso
        apply c3
        refine pk4_cong (fun i hi => ?_)
        have := h.2.2 i (by omega) (by omega)
        show d _ = e _
        rw [← this]
        congr 1
        omega
