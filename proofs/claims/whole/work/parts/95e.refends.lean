/-! the reference's table of first ends -/
theorem hv_bd {d : Int → Int} : ∀ {n : Nat}, (∀ j : Int, 0 ≤ j → j < n → 0 ≤ d j ∧ d j ≤ 2) → 0 ≤ hv d n ∧ hv d n < ((3 ^ n : Nat) : Int)
  | 0, _ => ⟨Int.le_refl _, by show (0 : Int) < 1; decide⟩
  | n + 1, hd => by
    have ih := hv_bd (n := n) (fun j j0 j1 => hd j j0 (by omega))
    have h0 := hd n (by omega) (by omega)
    have e1 : 3 ^ (n + 1) = 3 * 3 ^ n := by rw [Nat.pow_succ, Nat.mul_comm]
    rw [hv, e1]
    omega
theorem p3_le {n : Nat} (h : n ≤ 6) : 1 ≤ 3 ^ n ∧ 3 ^ n ≤ 729 := by
  have c : ∀ n : Nat, n < 7 → 1 ≤ 3 ^ n ∧ 3 ^ n ≤ 729 := by decide
  exact c n (by omega)
theorem r_threes {M : jM} {n : Int} (n0 : 0 ≤ n) (n1 : n ≤ 6) : Ret (f_X10_threes M n) (fun v => v = ((3 ^ n.toNat : Nat) : Int)) := by
  unfold f_X10_threes
  refine Ret.bb (P := fun v => v = ((3 ^ n.toNat : Nat) : Int)) ?_ (fun r hr => Ret.s hr)
  refine Ret.it (fun S : Int × Int => 0 ≤ S.2 ∧ S.2 ≤ n ∧ S.1 = ((3 ^ S.2.toNat : Nat) : Int)) (fun S => (n - S.2).toNat) ?_ 5000 (1, 0) ⟨by show (0 : Int) ≤ 0; omega, n0, rfl⟩ (by show (n - 0).toNat < 5000; omega)
  rintro ⟨a, k⟩ ⟨k0, k1, ha⟩
  dsimp only at k0 k1 ha
  unfold f_X10_threes_L4
  dsimp only
  rw [w32_id (x := n) (by omega) (by omega), w32_id (x := k) (by omega) (by omega)]
  refine Ret.i (fun c => Rr ?_) (fun c => Rl ⟨⟨by show 0 ≤ k + 1; omega, by show k + 1 ≤ n; omega, ?_⟩, by show (n - (k + 1)).toNat < (n - k).toNat; omega⟩)
  · rw [ha]
    have e : k = n := by omega
    rw [e]
  · dsimp only
    have e : (k + 1).toNat = k.toNat + 1 := by omega
    rw [e, ha, Nat.pow_succ]
    omega
theorem r_doesEnd {M : jM} {r : Int} {d : Int → Int} {n : Int} (hr : RRow M r d n) {c : Nat} (c0 : 1 ≤ c) (c1 : c < 1458) : Ret (f_X10_doesEnd M 62 c r) (fun v => (v = 0 ∨ v = 1) ∧ (v = 1 ↔ pre (rv d n.toNat) (uc c))) := by
  obtain ⟨a, b, n1, n6, e1, e2⟩ := id hr
  have hd : ∀ j : Int, 0 ≤ j → j < n.toNat → 0 ≤ d j ∧ d j ≤ 2 := fun j j0 j1 => (e2 j j0 (by omega)).2
  have hp := p3_le (n := n.toNat) (by omega)
  have hb := hv_bd (d := d) (n := n.toNat) hd
  unfold f_X10_doesEnd
  rw [jp_62_1, w32_id (x := 58 + r) (by omega) (by omega), e1]
  refine Ret.g ⟨by omega, by omega⟩ (Ret.bb (P := fun v => v = hv d n.toNat) ?_ (fun v hv' => ?_))
  · refine Ret.it (fun S : Int × Int => 0 ≤ S.2 ∧ S.2 ≤ n ∧ S.1 = hv d S.2.toNat) (fun S => (n - S.2).toNat) ?_ 5000 (0, 0) ⟨by show (0 : Int) ≤ 0; omega, by show (0 : Int) ≤ n; omega, rfl⟩ (by show (n - 0).toNat < 5000; omega)
    rintro ⟨s, k⟩ ⟨k0, k1, hs⟩
    dsimp only at k0 k1 hs
    unfold f_X10_doesEnd_L16
    dsimp +instances only
    rw [w32_id (x := n) (by omega) (by omega), w32_id (x := k) (by omega) (by omega), w32_id (x := 10 + 6 * r + k) (by omega) (by omega), jp_62_1]
    refine Ret.i (fun c => Rr ?_) (fun c => Ret.g ⟨by omega, by omega⟩ (Rl ⟨⟨by show 0 ≤ k + 1; omega, by show k + 1 ≤ n; omega, ?_⟩, by show (n - (k + 1)).toNat < (n - k).toNat; omega⟩))
    · rw [hs]
      have e : k = n := by omega
      rw [e]
    · dsimp only
      have e : (k + 1).toNat = k.toNat + 1 := by omega
      rw [e, hv, ← hs, (e2 k k0 (by omega)).1, Int.toNat_of_nonneg k0]
  · refine Ret.bb (r_threes (by omega) n6) (fun t ht => ?_)
    have hu := uc_pre (d := d) (n := n.toNat) (c := c) hd c0
    rw [ht, w32_id (x := (c : Int)) (by omega) (by omega), w32_id (x := ((3 ^ n.toNat : Nat) : Int)) (by omega) (by omega)]
    refine Ret.i (fun q => Ret.s ⟨Or.inl rfl, fun z => absurd z (by decide), fun z => ?_⟩) (fun q => Ret.bb (r_threes (by omega) n6) (fun t2 ht2 => ?_))
    · have := (hu.mp z).1
      omega
    · rw [ht2, hv', w32_id (x := ((3 ^ n.toNat : Nat) : Int)) (by omega) (by omega)]
      have em : (c : Int).tmod ((3 ^ n.toNat : Nat) : Int) = ((c % 3 ^ n.toNat : Nat) : Int) := rfl
      have hm : c % 3 ^ n.toNat < 3 ^ n.toNat := Nat.mod_lt _ (by omega)
      rw [em, w32_id (x := ((c % 3 ^ n.toNat : Nat) : Int)) (by omega) (by omega), w32_id (x := hv d n.toNat) (by omega) (by omega)]
      refine Ret.g (by omega) (Ret.i (fun q2 => Ret.s ⟨Or.inr rfl, fun _ => hu.mpr ⟨by omega, q2⟩, fun _ => rfl⟩) (fun q2 => Ret.s ⟨Or.inl rfl, fun z => absurd z (by decide), fun z => absurd (hu.mp z).2 q2⟩))
/-- a lawful row; its string; the least lawful row that ends a string -/
def LwR (M : jM) (r : Int) : Prop := isRw M r ∧ LawD (M 3 0) (rowd M r) (rowz M r)
def wr (M : jM) (r : Int) : List Int := rv (rowd M r) (rowz M r).toNat
def Win (M : jM) (x : List Int) (v no : Int) : Prop := (v = no ∧ ∀ r, LwR M r → ¬ pre (wr M r) x) ∨ (LwR M v ∧ pre (wr M v) x ∧ ∀ r, LwR M r → pre (wr M r) x → v ≤ r)
theorem LwR.rng {M : jM} (h : jInv M) {r : Int} (hr : LwR M r) : 0 ≤ r ∧ r < 6 := ⟨hr.1.1, by have := hr.1.2; have := h.1.2.2.2.1.2.2.1; omega⟩
theorem r_firstEnd {M0 M : jM} (h : jInv M0) (f : Fr8 M0 M) {c : Nat} (c0 : 1 ≤ c) (c1 : c < 1458) : Ret (f_X10_firstEnd M 62 c) (fun v => Win M0 (uc c) v (-1)) := by
  obtain ⟨w1, w2, w3, -⟩ := h.1.2.2.2.1
  unfold f_X10_firstEnd
  refine Ret.bb (P := fun y : Unit ⊕ Int => (y = .inl () ∧ ∀ r, LwR M0 r → ¬ pre (wr M0 r) (uc c)) ∨ ∃ v, y = .inr v ∧ LwR M0 v ∧ pre (wr M0 v) (uc c) ∧ ∀ r, LwR M0 r → pre (wr M0 r) (uc c) → v ≤ r) ?_ (fun y hy => ?_)
  · refine Ret.it (fun S : Int => 0 ≤ S ∧ S ≤ M0 63 0 ∧ ∀ r, LwR M0 r → pre (wr M0 r) (uc c) → S ≤ r) (fun S => (M0 63 0 - S).toNat) ?_ 5000 0 ⟨Int.le_refl _, w2, fun r hr _ => hr.1.1⟩ (by show (M0 63 0 - 0).toNat < 5000; omega)
    rintro k ⟨k0, k1, hk⟩
    unfold f_X10_firstEnd_L2 f_X10_firstEnd_31
    rw [jp_62_1, f 63 0 (kp_63 (by omega) (by omega) (by omega)) (by omega), w32_id (x := M0 63 0) (by omega) (by omega), w32_id (x := k) (by omega) (by omega)]
    refine Ret.i (fun q => Rr (Or.inl ⟨rfl, fun r hr hp => ?_⟩)) (fun q => ?_)
    · have := hk r hr hp
      have := hr.1.2
      omega
    · have hr := h.rr8 f k0 (by omega)
      refine Ret.bb (r_isLawful h f hr) (fun v ⟨v1, v2⟩ => ?_)
      rw [w32_id (x := v) (by omega) (by omega)]
      have mu : (M0 63 0 - (k + 1)).toNat < (M0 63 0 - k).toNat := by omega
      refine Ret.i (fun q2 => Rl ⟨⟨by omega, by omega, fun r r1 r2 => ?_⟩, mu⟩) (fun q2 => Ret.bb (r_doesEnd hr c0 c1) (fun v' ⟨u1, u2⟩ => ?_))
      · have := hk r r1 r2
        by_cases e : r = k
        · exfalso
          rw [e] at r1
          have := v2.mpr r1.2
          omega
        · omega
      · have lw : LwR M0 k := ⟨⟨k0, by omega⟩, v2.mp (by omega)⟩
        rw [w32_id (x := v') (by omega) (by omega)]
        refine Ret.i (fun q3 => Rl ⟨⟨by omega, by omega, fun r r1 r2 => ?_⟩, mu⟩) (fun q3 => Rr (Or.inr ⟨k, rfl, lw, u2.mp (by omega), hk⟩))
        have := hk r r1 r2
        by_cases e : r = k
        · exfalso
          rw [e] at r2
          have := u2.mpr r2
          omega
        · omega
  · rcases hy with ⟨e, e2⟩ | ⟨v, e, e2⟩
    · rw [e]
      exact Ret.s (Or.inl ⟨rfl, e2⟩)
    · rw [e]
      exact Ret.s (Or.inr e2)
theorem jp_62_17 : jpt 62 17 = 70 := rfl
def FEnds (M0 M : jM) : Prop := ∀ c : Nat, 1 ≤ c → c < 1458 → Win M0 (uc c) (M 70 c) (-1)
theorem r_looksForEnds {M0 M : jM} (h : jInv M0) (f : Fr8 M0 M) : Ret (f_X10_looksForEnds M 62) (fun M' => (∀ a b, a ≠ 70 → M' a b = M a b) ∧ FEnds M0 M') := by
  unfold f_X10_looksForEnds
  refine Ret.bb (P := fun M' : jM => (∀ a b, a ≠ 70 → M' a b = M a b) ∧ FEnds M0 M') ?_ (fun r hr => Ret.s hr)
  refine Ret.it (fun S : jM × Int => 1 ≤ S.2 ∧ S.2 ≤ 1458 ∧ (∀ a b, a ≠ 70 → S.1 a b = M a b) ∧ ∀ c : Nat, 1 ≤ c → (c : Int) < S.2 → Win M0 (uc c) (S.1 70 c) (-1)) (fun S => (1458 - S.2).toNat) ?_ 5000 (M, 1) ⟨Int.le_refl _, by show (1 : Int) ≤ 1458; decide, fun _ _ _ => rfl, fun c c0 c1 => by have c1 : (c : Int) < 1 := c1; omega⟩ (by show (1458 - 1 : Int).toNat < 5000; decide)
  rintro ⟨M1, k⟩ ⟨k0, k1, e, hk⟩
  dsimp only at k0 k1 e hk
  unfold f_X10_looksForEnds_L2
  dsimp +instances only
  rw [w32_id (x := k) (by omega) (by omega), jp_62_17]
  refine Ret.i (fun q => Rr ⟨e, fun c c0 c1 => hk c c0 (by omega)⟩) (fun q => ?_)
  obtain ⟨c, rfl⟩ : ∃ c : Nat, k = c := ⟨k.toNat, by omega⟩
  have f1 : Fr8 M0 M1 := fun a b q1 q2 => (e a b (by unfold kp at q1; omega)).trans (f a b q1 q2)
  refine Ret.bb (r_firstEnd h f1 (c := c) (by omega) (by omega)) (fun v hv => Ret.g ⟨by omega, by omega⟩ (Ret.l (Rl ⟨⟨by show 1 ≤ (c : Int) + 1; omega, by show (c : Int) + 1 ≤ 1458; omega, fun a b q1 => ?_, fun x x0 x1 => ?_⟩, by show (1458 - ((c : Int) + 1)).toNat < (1458 - (c : Int)).toNat; omega⟩)))
  · dsimp only
    rw [sto_ne (by omega)]
    exact e a b q1
  · have x1 : (x : Int) < (c : Int) + 1 := x1
    dsimp only
    by_cases q2 : x = c
    · rw [q2, sto_eq rfl rfl]
      exact hv
    · rw [sto_ne (by omega)]
      exact hk x x0 (by omega)
