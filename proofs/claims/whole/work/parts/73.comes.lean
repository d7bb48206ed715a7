/-! the reference's rows on their way, and what it picks up -/
theorem dgN_step {g n i k : Nat} (hk : k < n) : i / g ^ (n - 1 - k) / g = i / g ^ (n - k) := by
  rw [Nat.div_div_eq_div_mul, ← Nat.pow_succ]
  congr 2
  omega
theorem r_rowsOf {M0 M : jM} (h : jInv M0) (f : Fr M0 M) {n : Int} (n0 : 1 ≤ n) (n1 : n ≤ 4) : Ret (f_X10_rowsOf M 62 n) (fun v => v = (((M0 3 0).toNat ^ n.toNat : Nat) : Int)) := by
  obtain ⟨g0, g1, -⟩ := h.st
  unfold f_X10_rowsOf
  refine Ret.bb (P := fun v => v = (((M0 3 0).toNat ^ n.toNat : Nat) : Int)) ?_ (fun v hv => Ret.s hv)
  refine Ret.it (fun S : Int × Int => 0 ≤ S.2 ∧ S.2 ≤ n ∧ S.1 = (((M0 3 0).toNat ^ S.2.toNat : Nat) : Int)) (fun S => (n - S.2).toNat) ?_ 5000 (1, 0) ⟨by show (0 : Int) ≤ 0; omega, by show (0 : Int) ≤ n; omega, by show (1 : Int) = (((M0 3 0).toNat ^ 0 : Nat) : Int); rw [Nat.pow_zero]; rfl⟩ (by show (n - 0).toNat < 5000; omega)
  rintro ⟨a, k⟩ ⟨k0, k1, ha⟩
  dsimp only at k0 k1 ha
  unfold f_X10_rowsOf_L4
  dsimp only
  rw [w32_id (x := n) (by omega) (by omega), w32_id (x := k) (by omega) (by omega), r_signs h f.f8]
  refine Ret.i (fun c => Rr ?_) (fun c => Ret.b ⟨_, rfl, Rl ⟨⟨by show 0 ≤ k + 1; omega, by show k + 1 ≤ n; omega, ?_⟩, by show (n - (k + 1)).toNat < (n - k).toNat; omega⟩⟩)
  · have : k = n := by omega
    subst this
    exact ha
  · dsimp only
    rw [show (k + 1).toNat = k.toNat + 1 by omega, Nat.pow_succ, Int.natCast_mul, ha, Int.toNat_of_nonneg (by omega)]
/-- what coming leaves: the way alone -/
def ExW (M M' : jM) : Prop := ∀ a b, ¬ (a = 63 ∧ ((52 ≤ b ∧ b < 58) ∨ b = 65)) → M' a b = M a b
theorem ExW.fr {M0 M M' : jM} (f : Fr M0 M) (h : ExW M M') : Fr M0 M' := fun a b k => (h a b (by unfold kp at k; omega)).trans (f a b k)
theorem ExW.pt {M0 M M' : jM} (f : Pt M0 M) (h : ExW M M') : Pt M0 M' := f.tr ⟨h _ _ (by omega), h _ _ (by omega), h _ _ (by omega), h _ _ (by omega)⟩
theorem r_comes {M0 M : jM} (h : jInv M0) (f : Fr M0 M) {n : Int} {i : Nat} (n0 : 1 ≤ n) (n1 : n ≤ 4) (hi : i < (M0 3 0).toNat ^ n.toNat) : Ret (f_X10_comes M 62 i n) (fun M' => ExW M M' ∧ RRow M' 7 (dg (M0 3 0) n i) n) := by
  obtain ⟨g0, g1, -⟩ := h.st
  have h81 := pw_rng g0 g1 n0 n1
  unfold f_X10_comes
  rw [jp_62_1]
  refine Ret.l (Ret.bb (P := fun M' => ExW M M' ∧ RRow M' 7 (dg (M0 3 0) n i) n) ?_ (fun v hv => Ret.s hv))
  refine Ret.it (fun S : jM × Int × Int => ExW M S.1 ∧ S.1 63 65 = n ∧ -1 ≤ S.2.2 ∧ S.2.2 ≤ n - 1 ∧ S.2.1 = ((i / (M0 3 0).toNat ^ (n.toNat - 1 - S.2.2).toNat : Nat) : Int) ∧ ∀ j, S.2.2 < j → j < n → S.1 63 (52 + j) = dg (M0 3 0) n i j) (fun S => (S.2.2 + 1).toNat) ?_ 5000 (sto M 63 65 n, (i : Int), n - 1) ⟨fun a b q => by show sto M 63 65 n a b = _; rw [sto_ne (by omega)], by show sto M 63 65 n 63 65 = n; exact sto_eq rfl rfl, by show -1 ≤ n - 1; omega, by show n - 1 ≤ n - 1; omega, ?_, fun j j0 j1 => by have j0 : n - 1 < j := j0; omega⟩ (by show (n - 1 + 1).toNat < 5000; omega)
  · rintro ⟨M1, rest, k⟩ ⟨he, h65, k0, k1, hr, hd⟩
    dsimp only at he h65 k0 k1 hr hd
    unfold f_X10_comes_L15
    dsimp +instances only
    have f1 := he.fr f
    have hr0 : 0 ≤ rest ∧ rest ≤ 81 := by
      rw [hr]
      exact ⟨Int.natCast_nonneg _, Int.ofNat_le.mpr (Nat.le_trans (Nat.div_le_self i _) (show i ≤ 81 by omega))⟩
    rw [r_signs h f1.f8, w32_id (x := k) (by omega) (by omega), jp_62_1]
    refine Ret.i (fun c => Rr ⟨he, by decide, by decide, n0, by omega, h65, fun j j0 j1 => ⟨?_, (dg_rng g0 g1 j).1, (dg_rng g0 g1 j).2.1⟩⟩) (fun c => Ret.b ⟨_, rfl, ?_⟩)
    · have := hd j (by omega) j1
      rw [← this]
      rfl
    · dsimp only
      rw [w32_id (x := M0 3 0) (by omega) (by omega), w32_id (x := 52 + k) (by omega) (by omega), w32_id (x := rest) (by omega) (by omega)]
      refine Ret.g (by omega) (Ret.g ⟨by omega, by omega⟩ (Ret.l ?_))
      have e2 : ∀ a b, ¬ (a = 63 ∧ b = 52 + k) → sto M1 63 (52 + k) (rest.tmod (M0 3 0)) a b = M1 a b := fun a b q => sto_ne q
      have e3 : sto M1 63 (52 + k) (rest.tmod (M0 3 0)) 63 (52 + k) = rest.tmod (M0 3 0) := sto_eq rfl rfl
      generalize sto M1 63 (52 + k) (rest.tmod (M0 3 0)) = M2 at e2 e3 ⊢
      have f2 : Fr M0 M2 := f1.tr (fun a b kk => e2 a b (by unfold kp at kk; omega))
      rw [r_signs h f2.f8]
      refine Ret.b ⟨_, rfl, ?_⟩
      dsimp only
      rw [w32_id (x := M0 3 0) (by omega) (by omega)]
      have eg : (((M0 3 0).toNat : Nat) : Int) = M0 3 0 := Int.toNat_of_nonneg (by omega)
      have ek : (n.toNat - 1 - k).toNat = n.toNat - 1 - k.toNat := by omega
      refine Ret.g (by omega) (Rl ⟨⟨fun a b q => (e2 a b (by omega)).trans (he a b q), (e2 _ _ (by omega)).trans h65, by show -1 ≤ k + (-1); omega, by show k + (-1) ≤ n - 1; omega, ?_, fun j j0 j1 => ?_⟩, by show (k + (-1) + 1).toNat < (k + 1).toNat; omega⟩)
      · dsimp only
        rw [hr, ek]
        have e5 : (((M0 3 0).toNat : Nat) : Int) = M0 3 0 := eg
        rw [show (n.toNat - 1 - (k + (-1)) : Int).toNat = n.toNat - k.toNat by omega, ← dgN_step (g := (M0 3 0).toNat) (n := n.toNat) (i := i) (k := k.toNat) (by omega), Int.ofNat_tdiv (i / (M0 3 0).toNat ^ (n.toNat - 1 - k.toNat)) (M0 3 0).toNat, eg]
      · have j0 : k + (-1) < j := j0
        dsimp only
        by_cases q : j = k
        · rw [q, e3, hr, ek]
          unfold dg dgN
          rw [Int.ofNat_tmod, eg]
        · rw [e2 _ _ (by omega)]
          exact hd j (by omega) j1
  · dsimp only
    rw [show (n.toNat - 1 - (n - 1) : Int).toNat = 0 by omega, Nat.pow_zero, Nat.div_one]
/-- what picking leaves: the picked row alone -/
def ExP (M M' : jM) : Prop := ∀ a b, ¬ (a = 63 ∧ ((46 ≤ b ∧ b < 52) ∨ b = 64)) → M' a b = M a b
theorem ExP.fr {M0 M M' : jM} (f : Fr M0 M) (h : ExP M M') : Fr M0 M' := fun a b k => (h a b (by unfold kp at k; omega)).trans (f a b k)
theorem ExP.pt {M0 M M' : jM} (f : Pt M0 M) (h : ExP M M') : Pt M0 M' := f.tr ⟨h _ _ (by omega), h _ _ (by omega), h _ _ (by omega), h _ _ (by omega)⟩
theorem r_copies {M : jM} {fr n : Int} {d : Int → Int} (n0 : 1 ≤ n) (n1 : n ≤ 6) (f0 : 10 ≤ fr) (f1 : fr + n ≤ 46 ∨ (52 ≤ fr ∧ fr + n ≤ 64) ∨ 65 ≤ fr) (f2 : fr + n ≤ 952) (hd : ∀ j, 0 ≤ j → j < n → M 63 (fr + j) = d j ∧ 0 ≤ d j ∧ d j ≤ 2) : Ret (f_X10_copies M 62 fr n 6) (fun M' => ExP M M' ∧ RRow M' 6 d n) := by
  unfold f_X10_copies
  rw [jp_62_1]
  refine Ret.bb (P := fun M' => ExP M M' ∧ ∀ j, 0 ≤ j → j < n → M' 63 (46 + j) = d j) ?_ (fun M1 h1 => ?_)
  · refine Ret.it (fun S : jM × Int => ExP M S.1 ∧ 0 ≤ S.2 ∧ S.2 ≤ 6 ∧ ∀ j, 0 ≤ j → j < S.2 → j < n → S.1 63 (46 + j) = d j) (fun S => (6 - S.2).toNat) ?_ 5000 (M, 0) ⟨fun _ _ _ => rfl, by show (0 : Int) ≤ 0; decide, by show (0 : Int) ≤ 6; decide, fun j j0 j1 _ => by have j1 : j < 0 := j1; omega⟩ (by show (6 - 0 : Int).toNat < 5000; decide)
    rintro ⟨M1, k⟩ ⟨he, k0, k1, hk⟩
    dsimp only at he k0 k1 hk
    unfold f_X10_copies_L3 f_X10_copies_43
    dsimp +instances only
    rw [w32_id (x := k) (by omega) (by omega), w32_id (x := n) (by omega) (by omega), jp_62_1, w32_id (x := 10 + 6 * 6 + k) (by omega) (by omega), w32_id (x := fr + k) (by omega) (by omega)]
    have fin : k < 6 → ∀ v, (k < n → v = d k) → Ret (grd (0 ≤ 10 + 6 * 6 + k ∧ 10 + 6 * 6 + k < 952) (lt1 (sto M1 63 (10 + 6 * 6 + k) v) fun M4 => (some (Sum.inl (M4, k + 1)) : Option ((jM × Int) ⊕ jM)))) (fun r => (∀ t, r = .inl t → ((ExP M t.1 ∧ 0 ≤ t.2 ∧ t.2 ≤ 6 ∧ ∀ j, 0 ≤ j → j < t.2 → j < n → t.1 63 (46 + j) = d j) ∧ (6 - t.2).toNat < (6 - k).toNat)) ∧ (∀ x, r = .inr x → ExP M x ∧ ∀ j, 0 ≤ j → j < n → x 63 (46 + j) = d j)) := by
      intro c v hv
      refine Ret.g ⟨by omega, by omega⟩ (Ret.l (Rl ⟨⟨fun a b q => ?_, by show 0 ≤ k + 1; omega, by show k + 1 ≤ 6; omega, fun j j0 j1 j2 => ?_⟩, by show (6 - (k + 1)).toNat < (6 - k).toNat; omega⟩))
      · dsimp only
        rw [sto_ne (by omega)]; exact he a b q
      · have j1 : j < k + 1 := j1
        dsimp only
        by_cases q : j = k
        · rw [sto_eq rfl (by omega), q]; exact hv (by omega)
        · rw [sto_ne (by omega)]; exact hk j j0 (by omega) j2
    refine Ret.i (fun c => Rr ⟨he, fun j j0 j1 => hk j j0 (by omega) j1⟩) (fun c => Ret.i (fun c2 => fin (by omega) 0 (by omega)) (fun c2 => Ret.g ⟨by omega, by omega⟩ (fin (by omega) _ (fun _ => ?_))))
    rw [he _ _ (by omega)]
    exact (hd k k0 (by omega)).1
  · obtain ⟨he, hk⟩ := h1
    rw [show w32 (58 + 6) = 64 from w32_id (by decide) (by decide)]
    refine Ret.g (by decide) (Ret.l (Ret.s ⟨fun a b q => ?_, by decide, by decide, n0, n1, ?_, fun j j0 j1 => ⟨?_, (hd j j0 j1).2⟩⟩))
    · rw [sto_ne (by omega)]; exact he a b q
    · exact sto_eq rfl rfl
    · rw [sto_ne (by omega), show (10 : Int) + 6 * 6 + j = 46 + j by omega]
      exact hk j j0 j1
theorem r_picks {M : jM} {n : Int} {d : Int → Int} (hr : RRow M 7 d n) : Ret (f_X10_picks M 62) (fun M' => ExP M M' ∧ RRow M' 6 d n) := by
  obtain ⟨a, b, c, e, e1, e2⟩ := hr
  unfold f_X10_picks
  have e1 : M 63 65 = n := e1
  rw [jp_62_1, e1]
  exact Ret.bb (r_copies (fr := 52) c e (by decide) (Or.inr (Or.inl ⟨by decide, by omega⟩)) (by omega) (fun j j0 j1 => e2 j j0 j1)) (fun v hv => Ret.s hv)
