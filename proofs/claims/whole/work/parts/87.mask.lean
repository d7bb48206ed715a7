/-! masks: a bit a place -/
def bitI (W k : Int) : Bool := (Int64.ofInt W).toBitVec.getLsbD k.toNat
theorem bit_shr {x : Int64} {k : Nat} (hk : k < 64) : (x >>> lN k).toBitVec.getLsbD 0 = x.toBitVec.getLsbD k := by
  have e : (x >>> lN k).toBitVec = x.toBitVec.sshiftRight' ((lN k).toBitVec.smod 64) := rfl
  rw [e, wb_tb, wb_sm k hk]
  show (x.toBitVec.sshiftRight (BitVec.ofNat 64 k).toNat).getLsbD 0 = _
  rw [BitVec.toNat_ofNat, Nat.mod_eq_of_lt (show k < 2 ^ 64 by omega), BitVec.getLsbD_sshiftRight]
  simp [hk]
theorem bit_land {W k : Int} (h0 : 0 ≤ k) (h1 : k < 64) : land (lshr W k) 1 = if bitI W k then 1 else 0 := by
  unfold land lshr bitI
  rw [Int64.ofInt_toInt]
  have ek : ((k.toNat : Nat) : Int) = k := Int.toNat_of_nonneg h0
  rw [show Int32.ofInt k = nI k.toNat by rw [← z_nI, ek], wb_c k.toNat (by omega), ← bit_shr (x := Int64.ofInt W) (k := k.toNat) (by omega)]
  obtain ⟨n, hn, e⟩ := wb_of (Int64.ofInt W >>> lN k.toNat)
  rw [e, show Int64.ofInt 1 = (1 : Int64) from rfl, g_and1 hn, pf_lI (by omega), wb_tb, BitVec.getLsbD_ofNat]
  have hz : n.testBit 0 = decide (n % 2 = 1) := Nat.testBit_zero n
  simp only [hz]
  by_cases c : n % 2 = 1
  · rw [c]; simp
  · have c2 : n % 2 = 0 := by omega
    rw [c2]; simp
theorem bit_and {a b k : Int} : bitI (land a b) k = (bitI a k && bitI b k) := by
  unfold bitI land
  rw [Int64.ofInt_toInt, Int64.toBitVec_and, BitVec.getLsbD_and]
theorem bit_or {a b k : Int} : bitI (lor a b) k = (bitI a k || bitI b k) := by
  unfold bitI lor
  rw [Int64.ofInt_toInt, Int64.toBitVec_or, BitVec.getLsbD_or]
theorem bit_not {a k : Int} (h1 : k < 64) : bitI (lxor a (-1)) k = !(bitI a k) := by
  unfold bitI lxor
  rw [Int64.ofInt_toInt, Int64.toBitVec_xor, BitVec.getLsbD_xor]
  have e : (Int64.ofInt (-1)).toBitVec = BitVec.allOnes 64 := by decide
  rw [e, BitVec.getLsbD_allOnes]
  have : decide (k.toNat < 64) = true := decide_eq_true (by omega)
  rw [this]
  simp
theorem bit_0 {k : Int} : bitI 0 k = false := by
  unfold bitI
  have e : (Int64.ofInt 0).toBitVec = 0#64 := by decide
  rw [e]
  simp
theorem bit_tab : ∀ j : Fin 60, ∀ k : Fin 60, bitI (lshl 1 (j.val : Int)) (k.val : Int) = decide (k.val = j.val) := by decide +kernel
theorem bit_1 {j k : Int} (j0 : 0 ≤ j) (j1 : j < 60) (k0 : 0 ≤ k) (k1 : k < 60) : bitI (lshl 1 j) k = decide (k = j) := by
  have := bit_tab ⟨j.toNat, by omega⟩ ⟨k.toNat, by omega⟩
  dsimp only at this
  rw [Int.toNat_of_nonneg j0, Int.toNat_of_nonneg k0] at this
  rw [this]
  by_cases c : k = j
  · rw [decide_eq_true c, decide_eq_true (by omega)]
  · rw [decide_eq_false c, decide_eq_false (by omega)]
/-- the mask of a test -/
def MaskOf (W : Int) (tv : jTV) : Prop := ∀ g sg dy, 2 ≤ g → g ≤ 3 → 0 ≤ sg → sg ≤ 2 → 0 ≤ dy → dy ≤ 9 → bitI W (placeOf g sg dy) = tv g sg dy
theorem place_rng {g sg dy : Int} (g0 : 2 ≤ g) (g1 : g ≤ 3) (s0 : 0 ≤ sg) (s1 : sg ≤ 2) (d0 : 0 ≤ dy) (d1 : dy ≤ 9) : 0 ≤ placeOf g sg dy ∧ placeOf g sg dy < 60 := by
  unfold placeOf; omega
/-- the test at a place -/
def hAt (w h v k : Int) : Bool := tvT w h v (2 + k / 30) (k / 10 % 3) (k % 10)
theorem hAt_place {w h v g sg dy : Int} (g0 : 2 ≤ g) (g1 : g ≤ 3) (s0 : 0 ≤ sg) (s1 : sg ≤ 2) (d0 : 0 ≤ dy) (d1 : dy ≤ 9) : hAt w h v (placeOf g sg dy) = tvT w h v g sg dy := by
  unfold hAt placeOf
  have e1 : 2 + (((g - 2) * 3 + sg) * 10 + dy) / 30 = g := by omega
  have e2 : (((g - 2) * 3 + sg) * 10 + dy) / 10 % 3 = sg := by omega
  have e3 : (((g - 2) * 3 + sg) * 10 + dy) % 10 = dy := by omega
  rw [e1, e2, e3]
theorem s_holds {M : jM} {x h v : Int} (x0 : 0 ≤ x) (x1 : x ≤ 9) (h0 : 60 ≤ h) (h1 : h ≤ 62) (v0 : 0 ≤ v) (v1 : v ≤ 99) : f_X7_holds M x h v = some (if (if h - 60 = 0 then decide (x < v) else if h - 60 = 1 then decide (x = v) else decide (v < x)) = true then 1 else 0) := by
  unfold f_X7_holds
  rw [w32_id (x := h) (by omega) (by omega), w32_id (x := x) (by omega) (by omega), w32_id (x := v) (by omega) (by omega)]
  have hh : h = 60 ∨ h = 61 ∨ h = 62 := by omega
  rcases hh with rfl | rfl | rfl
  · rw [if_pos rfl, if_pos (show (60 : Int) - 60 = 0 by decide)]
    by_cases c : v ≤ x
    · rw [if_pos c, if_neg (by simp; omega)]
    · rw [if_neg c, if_pos (by simp; omega)]
  · rw [if_neg (by decide), if_neg (by decide), if_neg (show ¬ (61 : Int) - 60 = 0 by decide), if_pos (show (61 : Int) - 60 = 1 by decide)]
    by_cases c : x = v
    · rw [if_pos c, if_pos (by simp; exact c)]
    · rw [if_neg c, if_neg (by simp; exact c)]
  · rw [if_neg (by decide), if_pos rfl, if_neg (show ¬ (62 : Int) - 60 = 0 by decide), if_neg (show ¬ (62 : Int) - 60 = 1 by decide)]
    by_cases c : x ≤ v
    · rw [if_pos c, if_neg (by simp; omega)]
    · rw [if_neg c, if_pos (by simp; omega)]
/-- the mask after the first places -/
def MkI (w h v W cur : Int) : Prop := ∀ k, 0 ≤ k → k < 60 → bitI W k = (decide (k < cur) && hAt w h v k)
theorem mk_step {M : jM} {l h v W g sg dy : Int} (hl : l = 115 ∨ l = 103 ∨ l = 100) (h0 : 60 ≤ h) (h1 : h ≤ 62) (v0 : 0 ≤ v) (v1 : v ≤ 99) (g0 : 2 ≤ g) (g1 : g ≤ 3) (s0 : 0 ≤ sg) (s1 : sg ≤ 2) (d0 : 0 ≤ dy) (d1 : dy ≤ 9) (hm : MkI (letN l) (h - 60) v W (placeOf g sg dy)) : Ret (f_X7_placesOf_L23 M l h v g sg (W, dy)) (fun r => ∃ W', r = .inl (W', dy + 1) ∧ MkI (letN l) (h - 60) v W' (placeOf g sg dy + 1)) := by
  have hp := place_rng g0 g1 s0 s1 d0 d1
  have key : ∀ x, x = (if letN l = 0 then sg else if letN l = 1 then g else dy) → Ret (f_X7_placesOf_54 M l h v W g sg dy x) (fun r => ∃ W', r = .inl (W', dy + 1) ∧ MkI (letN l) (h - 60) v W' (placeOf g sg dy + 1)) := by
    intro x hx
    have hxr : 0 ≤ x ∧ x ≤ 9 := by
      rw [hx]; split
      · omega
      · split <;> omega
    have hat : hAt (letN l) (h - 60) v (placeOf g sg dy) = (if h - 60 = 0 then decide (x < v) else if h - 60 = 1 then decide (x = v) else decide (v < x)) := by
      rw [hAt_place g0 g1 s0 s1 d0 d1, hx]
      rfl
    unfold f_X7_placesOf_54 f_X7_placesOf_80 f_X7_place
    rw [s_holds hxr.1 hxr.2 h0 h1 v0 v1, ← hat]
    refine Ret.b ⟨_, rfl, ?_⟩
    dsimp only
    by_cases c : hAt (letN l) (h - 60) v (placeOf g sg dy) = true
    · rw [if_pos c]
      refine Ret.f w32_1n (Ret.b ⟨_, rfl, Ret.s ⟨_, rfl, fun k k0 k1 => ?_⟩⟩)
      show bitI (lor W (lshl 1 (placeOf g sg dy))) k = _
      rw [bit_or, hm k k0 k1, bit_1 hp.1 hp.2 k0 k1]
      by_cases q : k = placeOf g sg dy
      · rw [q, c, decide_eq_true (show placeOf g sg dy < placeOf g sg dy + 1 by omega)]; simp
      · rw [decide_eq_false q]
        by_cases q2 : k < placeOf g sg dy
        · rw [decide_eq_true q2, decide_eq_true (show k < placeOf g sg dy + 1 by omega)]; simp
        · rw [decide_eq_false q2, decide_eq_false (show ¬ k < placeOf g sg dy + 1 by omega)]; simp
    · rw [if_neg c]
      refine Ret.t w32_0 (Ret.s ⟨_, rfl, fun k k0 k1 => ?_⟩)
      rw [hm k k0 k1]
      by_cases q : k = placeOf g sg dy
      · rw [q]
        have c2 : hAt (letN l) (h - 60) v (placeOf g sg dy) = false := by simpa using c
        rw [c2]; simp
      · by_cases q2 : k < placeOf g sg dy
        · rw [decide_eq_true q2, decide_eq_true (show k < placeOf g sg dy + 1 by omega)]
        · rw [decide_eq_false q2, decide_eq_false (show ¬ k < placeOf g sg dy + 1 by omega)]
  unfold f_X7_placesOf_L23
  dsimp only
  rw [w32_id (x := dy) (by omega) (by omega)]
  refine Ret.f (by omega) ?_
  rcases hl with rfl | rfl | rfl
  · rw [show w32 115 = 115 from w32_id (by decide) (by decide)]
    exact Ret.t rfl (key _ (by rw [if_pos (by rfl)]))
  · rw [show w32 103 = 103 from w32_id (by decide) (by decide)]
    exact Ret.f (by decide) (Ret.t rfl (key _ (by rw [if_neg (by decide), if_pos (by rfl)])))
  · rw [show w32 100 = 100 from w32_id (by decide) (by decide)]
    exact Ret.f (by decide) (Ret.f (by decide) (key _ (by rw [if_neg (by decide), if_neg (by decide)])))
theorem s_placesOf {M : jM} {l h v : Int} (hl : l = 115 ∨ l = 103 ∨ l = 100) (h0 : 60 ≤ h) (h1 : h ≤ 62) (v0 : 0 ≤ v) (v1 : v ≤ 99) : Ret (f_X7_placesOf M l h v) (fun W => MaskOf W (tvT (letN l) (h - 60) v)) := by
  unfold f_X7_placesOf
  refine Ret.bb (P := fun W => MkI (letN l) (h - 60) v W 60) ?_ (fun W hW => Ret.s (fun g sg dy g0 g1 s0 s1 d0 d1 => ?_))
  · refine Ret.it (fun S : Int × Int => 2 ≤ S.2 ∧ S.2 ≤ 4 ∧ MkI (letN l) (h - 60) v S.1 (placeOf S.2 0 0)) (fun S => (4 - S.2).toNat) ?_ 5000 (0, 2) ⟨by show (2 : Int) ≤ 2; decide, by show (2 : Int) ≤ 4; decide, fun k k0 k1 => ?_⟩ (by show (4 - 2 : Int).toNat < 5000; decide)
    · rintro ⟨W, g⟩ ⟨g0, g1, hm⟩
      dsimp only at g0 g1 hm
      unfold f_X7_placesOf_L5
      dsimp only
      rw [w32_id (x := g) (by omega) (by omega)]
      refine Ret.i (fun c => Rr ?_) (fun c => ?_)
      · have : g = 4 := by omega
        rw [this] at hm
        exact hm
      · refine Ret.bb (P := fun W' => MkI (letN l) (h - 60) v W' (placeOf (g + 1) 0 0)) ?_ (fun W' hW' => Rl ⟨⟨by show 2 ≤ g + 1; omega, by show g + 1 ≤ 4; omega, hW'⟩, by show (4 - (g + 1)).toNat < (4 - g).toNat; omega⟩)
        refine Ret.it (fun S : Int × Int => 0 ≤ S.2 ∧ S.2 ≤ 3 ∧ MkI (letN l) (h - 60) v S.1 (placeOf g S.2 0)) (fun S => (3 - S.2).toNat) ?_ 5000 (W, 0) ⟨by show (0 : Int) ≤ 0; decide, by show (0 : Int) ≤ 3; decide, hm⟩ (by show (3 - 0 : Int).toNat < 5000; decide)
        rintro ⟨W2, sg⟩ ⟨s0, s1, hm2⟩
        dsimp only at s0 s1 hm2
        unfold f_X7_placesOf_L14
        dsimp only
        rw [w32_id (x := sg) (by omega) (by omega)]
        refine Ret.i (fun c2 => Rr ?_) (fun c2 => ?_)
        · have : sg = 3 := by omega
          rw [this] at hm2
          have e : placeOf g 3 0 = placeOf (g + 1) 0 0 := by unfold placeOf; omega
          rw [← e]; exact hm2
        · refine Ret.bb (P := fun W' => MkI (letN l) (h - 60) v W' (placeOf g (sg + 1) 0)) ?_ (fun W' hW' => Rl ⟨⟨by show 0 ≤ sg + 1; omega, by show sg + 1 ≤ 3; omega, hW'⟩, by show (3 - (sg + 1)).toNat < (3 - sg).toNat; omega⟩)
          refine Ret.it (fun S : Int × Int => 0 ≤ S.2 ∧ S.2 ≤ 10 ∧ MkI (letN l) (h - 60) v S.1 (placeOf g sg S.2)) (fun S => (10 - S.2).toNat) ?_ 5000 (W2, 0) ⟨by show (0 : Int) ≤ 0; decide, by show (0 : Int) ≤ 10; decide, hm2⟩ (by show (10 - 0 : Int).toNat < 5000; decide)
          rintro ⟨W3, dy⟩ ⟨d0, d1, hm3⟩
          dsimp only at d0 d1 hm3
          by_cases c3 : dy = 10
          · unfold f_X7_placesOf_L23
            dsimp only
            rw [w32_id (x := dy) (by omega) (by omega)]
            refine Ret.t (by omega) (Rr ?_)
            rw [c3] at hm3
            have e : placeOf g sg 10 = placeOf g (sg + 1) 0 := by unfold placeOf; omega
            rw [← e]; exact hm3
          · obtain ⟨r, hr, W', e, hm4⟩ := mk_step (M := M) hl h0 h1 v0 v1 g0 (by omega) s0 (by omega) d0 (by omega) hm3
            rw [hr, e]
            refine Rl ⟨⟨by show 0 ≤ dy + 1; omega, by show dy + 1 ≤ 10; omega, ?_⟩, by show (10 - (dy + 1)).toNat < (10 - dy).toNat; omega⟩
            have e2 : placeOf g sg (dy + 1) = placeOf g sg dy + 1 := by unfold placeOf; omega
            show MkI (letN l) (h - 60) v W' (placeOf g sg (dy + 1))
            rw [e2]; exact hm4
    · have e : placeOf 2 0 0 = 0 := rfl
      rw [bit_0, show decide (k < placeOf ((0 : Int), (2 : Int)).2 0 0) = false from decide_eq_false (by show ¬ k < placeOf 2 0 0; rw [e]; omega)]
      rfl
  · have hp := place_rng g0 g1 s0 s1 d0 d1
    rw [hW _ hp.1 hp.2, decide_eq_true hp.2, hAt_place g0 g1 s0 s1 d0 d1]
    rfl
