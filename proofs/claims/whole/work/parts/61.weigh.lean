/-! weights of the stall that holds -/
def gOf (M : jM) : Int := M 3 0
def wOf (M : jM) (s : Int) : Int := if 0 ≤ s ∧ s < M 3 0 then min 4 (1 + loadSum M 3 (M 3 0) s (M 1 4) (M 3 3).toNat) else 0
def aOf (M : jM) : Int := wOf M 0 + wOf M 1 + wOf M 2
def Fr8 (M M' : jM) : Prop := ∀ a b, kp a b → ¬ (a = 63 ∧ b = 8) → M' a b = M a b
theorem Fr.f8 {M M' : jM} (h : Fr M M') : Fr8 M M' := fun a b k _ => h a b k
theorem Fr8.tr {M M1 M2 : jM} (h : Fr8 M M1) (h2 : Fr8 M1 M2) : Fr8 M M2 := fun a b k n => (h2 a b k n).trans (h a b k n)
theorem Fr8.sto {M M' : jM} (h : Fr8 M M') {a b v : Int} (hk : ¬ kp a b ∨ (a = 63 ∧ b = 8)) : Fr8 M (sto M' a b v) := fun x y k n => by
  rw [sto_ne (fun e => by
    rcases hk with hk | hk
    · exact hk (by rw [← e.1, ← e.2]; exact k)
    · exact n ⟨e.1.trans hk.1, e.2.trans hk.2⟩)]
  exact h x y k n
theorem loadSum_nn {M : jM} {H g sg dy : Int} : ∀ {n : Nat}, (∀ i : Int, 0 ≤ i → i < n → 0 ≤ M (H + 1) i ∧ M (H + 1) i ≤ 99) → 0 ≤ loadSum M H g sg dy n ∧ loadSum M H g sg dy n ≤ 99 * n
  | 0, _ => by show (0 : Int) ≤ 0 ∧ (0 : Int) ≤ 99 * ((0 : Nat) : Int); omega
  | n + 1, h => by
    obtain ⟨h1, h2⟩ := loadSum_nn (M := M) (H := H) (g := g) (sg := sg) (dy := dy) (n := n) (fun i i0 i1 => h i i0 (by omega))
    obtain ⟨h3, h4⟩ := h n (by omega) (by omega)
    show 0 ≤ loadSum M H g sg dy n + (if _ = 0 then 0 else M (H + 1) n) ∧ loadSum M H g sg dy n + (if _ = 0 then 0 else M (H + 1) n) ≤ _
    split <;> omega
/-- what the invariant says of the stall that holds -/
theorem jInv.st {M : jM} (h : jInv M) : 2 ≤ M 3 0 ∧ M 3 0 ≤ 3 ∧ 0 ≤ M 3 3 ∧ M 3 3 ≤ 10 ∧ (∀ i, 0 ≤ i → i < M 3 3 → 0 ≤ M 4 i ∧ M 4 i ≤ 99) ∧ 0 ≤ M 3 1 ∧ M 3 1 ≤ 99 ∧ 0 ≤ M 3 2 ∧ M 3 2 ≤ 99 ∧ M 1 4 = M 63 7 ∧ 0 ≤ M 1 4 ∧ M 1 4 ≤ 9 ∧ M 63 8 = 0 := by
  obtain ⟨t1, ⟨n1, n2, n3, n4, n5, n6, n7⟩, t3, t4, t5, t6, t7⟩ := h.1
  rcases t7 with ⟨a, b, c, d, e⟩ | ⟨a1, a2, a3, a4, a5, a6, a7, a8, a9, a10, a11, a12, a13, a14, a15, a16, a17, a18⟩
  · have b : M 3 0 = 2 := b
    have c : M 3 1 = 1 := c
    have d : M 3 2 = 10 := d
    have e : M 3 3 = 0 := e
    exact ⟨by omega, by omega, by omega, by omega, fun i i0 i1 => by omega, by omega, by omega, by omega, by omega, n4, by omega, by omega, n7⟩
  · have a3 : M 3 0 = (if 2 < M 63 (232 + M 63 6) then 3 else 2) := a3
    refine ⟨by rw [a3]; split <;> omega, by rw [a3]; split <;> omega, a12, a13, a14, a7, a8, a10, a11, n4, by omega, by omega, n7⟩
theorem wOf_rng {M : jM} (h : jInv M) {s : Int} (s0 : 0 ≤ s) (s1 : s < M 3 0) : 1 ≤ wOf M s ∧ wOf M s ≤ 4 := by
  obtain ⟨g0, g1, h0, h1, hl, -⟩ := h.st
  unfold wOf
  rw [if_pos ⟨s0, s1⟩]
  have := loadSum_nn (M := M) (H := 3) (g := M 3 0) (sg := s) (dy := M 1 4) (n := (M 3 3).toNat) (fun i i0 i1 => hl i i0 (by omega))
  omega
theorem wOf_hi {M : jM} {s : Int} (s1 : M 3 0 ≤ s) : wOf M s = 0 := by
  unfold wOf
  rw [if_neg (by omega)]
theorem wOf_4 {M : jM} (h : jInv M) {s : Int} (s0 : 0 ≤ s) : 0 ≤ wOf M s ∧ wOf M s ≤ 4 := by
  by_cases c : s < M 3 0
  · have := wOf_rng h s0 c; omega
  · rw [wOf_hi (by omega)]; decide
theorem jInv.wb {M : jM} (h : jInv M) : WtB (M 3 0) (wOf M) (aOf M) := by
  obtain ⟨g0, g1, -⟩ := h.st
  refine ⟨g0, g1, fun s s0 s1 => ?_, fun s s1 => wOf_hi s1, rfl⟩
  have := wOf_rng h s0 s1
  omega
theorem wOf_fr {M M' : jM} (h : jInv M) (f : Fr8 M M') : M' 3 0 = M 3 0 ∧ wOf M' = wOf M ∧ aOf M' = aOf M := by
  have e0 : M' 3 0 = M 3 0 := f 3 0 (kp_lo (by decide)) (by omega)
  have e : wOf M' = wOf M := by
    funext s
    unfold wOf
    rw [e0, f 1 4 (kp_lo (by decide)) (by omega), f 3 3 (kp_lo (by decide)) (by omega), loadSum_fr (fun i _ => ⟨f _ _ (kp_lo (by decide)) (by omega), f _ _ (kp_lo (by decide)) (by omega)⟩)]
  exact ⟨e0, e, by unfold aOf; rw [e]⟩
/-! the class's -/
theorem jp_3_4 : jpt 3 4 = 4 := rfl
theorem jp_3_5 : jpt 3 5 = 5 := rfl
theorem b2_land {a : Int} : land a 1 = 0 ∨ land a 1 = 1 := by
  unfold land
  obtain ⟨n, hn, e⟩ := wb_of (Int64.ofInt a)
  rw [e, show Int64.ofInt 1 = (1 : Int64) from rfl, g_and1 hn, pf_lI (by omega)]
  omega
theorem s_stallW {M : jM} {g s dy h : Int} (h0 : M 3 0 = g) (h1 : M 3 3 = h) (g0 : 2 ≤ g) (g1 : g ≤ 3) (c0 : 0 ≤ h) (c1 : h ≤ 10) (hl : ∀ i, 0 ≤ i → i < h → 0 ≤ M 4 i ∧ M 4 i ≤ 99) : Ret (f_X7_weightOf M 3 s dy) (fun r => r = min 4 (1 + loadSum M 3 g s dy h.toNat)) := by
  unfold f_X7_weightOf
  refine Ret.bb (P := fun r => r = 1 + loadSum M 3 g s dy h.toNat) ?_ (fun r hr => ?_)
  · refine Ret.it (fun S : Int × Int => 0 ≤ S.2 ∧ S.2 ≤ h ∧ S.1 = 1 + loadSum M 3 g s dy S.2.toNat) (fun S => (h - S.2).toNat) ?_ 5000 (1, 0) ⟨by show (0 : Int) ≤ 0; omega, c0, rfl⟩ (by show (h - 0).toNat < 5000; omega)
    rintro ⟨a, k⟩ ⟨k0, k1, ha⟩
    dsimp only at k0 k1 ha
    unfold f_X7_weightOf_L5 f_X7_weightOf_48 f_X7_place
    dsimp only
    rw [h1, h0, jp_3_4, jp_3_5, w32_id (x := h) (by omega) (by omega), w32_id (x := k) (by omega) (by omega)]
    have e : (k + 1).toNat = k.toNat + 1 := by omega
    have z : loadSum M 3 g s dy (k.toNat + 1) = loadSum M 3 g s dy k.toNat + (if land (lshr (M 5 k) ((g - 2) * 3 * 10 + s * 10 + dy)) 1 = 0 then 0 else M 4 k) := by
      show loadSum M 3 g s dy k.toNat + (if land (lshr (M (3 + 2) (k.toNat : Int)) (((g - 2) * 3 + s) * 10 + dy)) 1 = 0 then 0 else M (3 + 1) (k.toNat : Int)) = _
      rw [Int.toNat_of_nonneg k0, show ((g - 2) * 3 + s) * 10 + dy = (g - 2) * 3 * 10 + s * 10 + dy by omega]
      rfl
    refine Ret.i (fun c => Rr ?_) (fun c => Ret.g ⟨k0, by omega⟩ (Ret.b ⟨_, rfl, ?_⟩))
    · have : k = h := by omega
      subst this
      exact ha
    · dsimp only
      have mu : (h - (k + 1)).toNat < (h - k).toNat := by omega
      have eb : (g - 2) * 3 * 10 + s * 10 + dy = ((g - 2) * 3 + s) * 10 + dy := by omega
      rw [eb] at z
      have hb := b2_land (a := lshr (M 5 k) (((g - 2) * 3 + s) * 10 + dy))
      rw [w64_id (x := land (lshr (M 5 k) (((g - 2) * 3 + s) * 10 + dy)) 1) (by omega) (by omega)]
      refine Ret.i (fun c2 => Rl ⟨⟨by show 0 ≤ k + 1; omega, by show k + 1 ≤ h; omega, ?_⟩, mu⟩) (fun c2 => Ret.g ⟨k0, by omega⟩ (Rl ⟨⟨by show 0 ≤ k + 1; omega, by show k + 1 ≤ h; omega, ?_⟩, mu⟩))
      · dsimp only
        rw [e, z, if_pos c2, ha, Int.add_zero]
      · dsimp only
        rw [e, z, if_neg c2, ha]
        omega
  · have := loadSum_nn (M := M) (H := 3) (g := g) (sg := s) (dy := dy) (n := h.toNat) (fun i i0 i1 => hl i i0 (by omega))
    refine Ret.s ?_
    rw [hr, w32_id (x := 1 + loadSum M 3 g s dy h.toNat) (by omega) (by omega), w32_id (x := 4) (by decide) (by decide)]
    omega
