theorem actB_1 {rec : jM → Int → Int → Int → Int → Int → Option (Int × jM)} {x deep up : Int} {r9 : jM} : actB rec x deep 1 up r9 = some (x + (r9 60 4), r9) := by
  unfold actB
  rw [show w32 1 = 1 from w32_id (by decide) (by decide)]
  rfl
theorem actB_2 {rec : jM → Int → Int → Int → Int → Int → Option (Int × jM)} {x deep up : Int} {r9 : jM} : actB rec x deep 2 up r9 = (rec r9 60 (r9 60 2) 0 x (deep + 1)).bind fun r12 => some (r12.1 - (r12.2 60 3), r12.2) := by
  unfold actB
  rw [show w32 2 = 2 from w32_id (by decide) (by decide)]
  rfl
theorem actB_3 {rec : jM → Int → Int → Int → Int → Int → Option (Int × jM)} {x deep up : Int} {r9 : jM} : actB rec x deep 3 up r9 = (rec r9 60 (r9 60 2) 1 x (deep + 1)).bind fun r14 => some (r14.1 * 2, r14.2) := by
  unfold actB
  rw [show w32 3 = 3 from w32_id (by decide) (by decide)]
  rfl
theorem actB_11 {rec : jM → Int → Int → Int → Int → Int → Option (Int × jM)} {x deep up : Int} {r9 : jM} : actB rec x deep 11 up r9 = (rec r9 60 up 0 (x * 3) (deep + 1)).bind fun r16 => some (r16.1, r16.2) := by
  unfold actB
  rw [show w32 11 = 11 from w32_id (by decide) (by decide)]
  rfl
theorem actB_21 {rec : jM → Int → Int → Int → Int → Int → Option (Int × jM)} {x deep up : Int} {r9 : jM} : actB rec x deep 21 up r9 = (rec r9 60 up 1 x (deep + 1)).bind fun r18 => some ((-r18.1), r18.2) := by
  unfold actB
  rw [show w32 21 = 21 from w32_id (by decide) (by decide)]
  rfl
theorem actB_31 {rec : jM → Int → Int → Int → Int → Int → Option (Int × jM)} {x deep up : Int} {r9 : jM} : actB rec x deep 31 up r9 = (rec r9 60 up 2 x (deep + 1)).bind fun r20 => some (ixor r20.1 7, r20.2) := by
  unfold actB
  rw [show w32 31 = 31 from w32_id (by decide) (by decide)]
  rfl
theorem actB_41 {rec : jM → Int → Int → Int → Int → Int → Option (Int × jM)} {x deep up : Int} {r9 : jM} : actB rec x deep 41 up r9 = (rec r9 60 up 2 (x - 1) (deep + 1)).bind fun r22 => (rec r22.2 60 (r22.2 60 2) 0 2 (deep + 1)).bind fun r23 => some (r22.1 + r23.1, r23.2) := by
  unfold actB
  rw [show w32 41 = 41 from w32_id (by decide) (by decide)]
  rfl
theorem actB_51 {rec : jM → Int → Int → Int → Int → Int → Option (Int × jM)} {x deep up : Int} {r9 : jM} : actB rec x deep 51 up r9 = (rec r9 60 up 0 x (deep + 1)).bind fun r25 => some (ixor r25.1 (r25.2 60 4), r25.2) := by
  unfold actB
  rw [show w32 51 = 51 from w32_id (by decide) (by decide)]
  rfl
theorem actB_61 {rec : jM → Int → Int → Int → Int → Int → Option (Int × jM)} {x deep up : Int} {r9 : jM} : actB rec x deep 61 up r9 = (rec r9 60 up 1 x (deep + 1)).bind fun r27 => some (r27.1 + (r27.2 60 3), r27.2) := by
  unfold actB
  rw [show w32 61 = 61 from w32_id (by decide) (by decide)]
  rfl
/-- what the acts read -/
def AE (M0 : jM) (K : Nat) (i v : Int) : Prop := M0 60 2 = (K : Int) ∧ M0 60 4 = i ∧ M0 60 3 = v
theorem TC.e {M0 M : jM} {l : List Int} {K : Nat} {i v : Int} (h : TC M0 M l) (e : AE M0 K i v) : AE M K i v := ⟨by rw [h.1 _ _ (by omega) (by decide)]; exact e.1, by rw [h.1 _ _ (by omega) (by decide)]; exact e.2.1, by rw [h.1 _ _ (by omega) (by decide)]; exact e.2.2⟩
theorem c_PP {d f K : Nat} {x deep i v : Int} {M0 M : jM} {l : List Int} (e : AE M0 K i v) (hf : f < 7) (hb : rBd f 0 = 1) (d0 : 0 ≤ deep) (d1 : deep < 20) (h : TC M0 M l) (hl : l.length < 400) : Ret (fx_ac (d + 1) 0 M 60 (f : Int) 0 x deep) (fun r => TC M0 r.2 (1 :: l) ∧ r.1 = aPP i x) := by
  refine c_step (a := 0) hf (by decide) d0 d1 h (by omega) (fun M' h' => ?_)
  rw [hb] at h' ⊢
  rw [actB_1]
  exact Ret.s ⟨h', by dsimp only; rw [(h'.e e).2.1]; rfl⟩
theorem c_PA {d K : Nat} {x deep i v : Int} {M0 M : jM} {l : List Int} (e : AE M0 K i v) (hK : K < 7) (d0 : 0 ≤ deep) (d1 : deep < 19) (h : TC M0 M l) (hl : l.length < 390) : Ret (fx_ac (d + 2) 0 M 60 (K : Int) 0 x deep) (fun r => TC M0 r.2 (bPA K ++ l) ∧ r.1 = aPA K i x) := by
  have k : K = 0 ∨ K = 1 ∨ K = 2 ∨ K = 3 ∨ K = 4 ∨ K = 5 ∨ K = 6 := by omega
  have simple : rBd K 0 = 1 → bPA K = [1] → aPA K i x = aPP i x → Ret (fx_ac (d + 2) 0 M 60 (K : Int) 0 x deep) (fun r => TC M0 r.2 (bPA K ++ l) ∧ r.1 = aPA K i x) := fun q1 q2 q3 => by
    rw [q2, q3]
    exact c_PP (l := l) e hK q1 d0 (by omega) h (by omega)
  have eleven : rBd K 0 = 11 → rUp (rAt K 0) = ((0 : Nat) : Int) → bPA K = [1, 11] → aPA K i x = aPP i (x * 3) → Ret (fx_ac (d + 2) 0 M 60 (K : Int) 0 x deep) (fun r => TC M0 r.2 (bPA K ++ l) ∧ r.1 = aPA K i x) := fun q1 q2 q3 q4 => by
    rw [q3, q4]
    refine c_step (a := 0) hK (by decide) d0 (by omega) h (by omega) (fun M' h' => ?_)
    rw [q1] at h' ⊢
    rw [q2, actB_11]
    exact Ret.bb (c_PP e (by decide) rfl (by omega) (by omega) h' (by show l.length + 1 < 400; omega)) (fun r hr => Ret.s hr)
  rcases k with rfl | rfl | rfl | rfl | rfl | rfl | rfl
  · exact simple rfl rfl rfl
  · exact eleven rfl rfl rfl rfl
  · exact simple rfl rfl rfl
  · exact simple rfl rfl rfl
  · exact eleven rfl rfl rfl rfl
  · refine c_step (a := 0) hK (by decide) d0 (by omega) h (by omega) (fun M' h' => ?_)
    have h' : TC M0 M' (51 :: l) := h'
    show Ret (actB (fx_ac (d + 1) 0) x deep 51 ((2 : Nat) : Int) M') _
    rw [actB_51]
    refine Ret.bb (c_PP e (by decide) rfl (by omega) (by omega) h' (by show l.length + 1 < 400; omega)) (fun r hr => Ret.s ⟨hr.1, ?_⟩)
    dsimp only
    rw [hr.2, (hr.1.e e).2.1]
    rfl
  · exact simple rfl rfl rfl
theorem c_YP {d f K : Nat} {x deep i v : Int} {M0 M : jM} {l : List Int} (e : AE M0 K i v) (hK : K < 7) (hf : f < 7) (hb : rBd f 1 = 2) (d0 : 0 ≤ deep) (d1 : deep < 18) (h : TC M0 M l) (hl : l.length < 380) : Ret (fx_ac (d + 3) 0 M 60 (f : Int) 1 x deep) (fun r => TC M0 r.2 (bPA K ++ (2 :: l)) ∧ r.1 = aYP K i v x) := by
  refine c_step (a := 1) hf (by decide) d0 (by omega) h (by omega) (fun M' h' => ?_)
  rw [hb] at h' ⊢
  rw [actB_2, (h'.e e).1]
  refine Ret.bb (c_PA e hK (by omega) (by omega) h' (by show l.length + 1 < 390; omega)) (fun r hr => Ret.s ⟨hr.1, ?_⟩)
  dsimp only
  rw [hr.2, (hr.1.e e).2.2]
  rfl
theorem c_YA {d K : Nat} {x deep i v : Int} {M0 M : jM} {l : List Int} (e : AE M0 K i v) (hK : K < 7) (d0 : 0 ≤ deep) (d1 : deep < 17) (h : TC M0 M l) (hl : l.length < 370) : Ret (fx_ac (d + 4) 0 M 60 (K : Int) 1 x deep) (fun r => TC M0 r.2 (bYA K ++ l) ∧ r.1 = aYA K i v x) := by
  have k : K = 0 ∨ K = 1 ∨ K = 2 ∨ K = 3 ∨ K = 4 ∨ K = 5 ∨ K = 6 := by omega
  have simple : rBd K 1 = 2 → bYA K = bPA K ++ [2] → aYA K i v x = aYP K i v x → Ret (fx_ac (d + 4) 0 M 60 (K : Int) 1 x deep) (fun r => TC M0 r.2 (bYA K ++ l) ∧ r.1 = aYA K i v x) := fun q1 q2 q3 => by
    rw [q2, q3, List.append_assoc]
    exact c_YP (l := l) e hK hK q1 d0 (by omega) h (by omega)
  have two1 : rBd K 1 = 21 → rUp (rAt K 1) = ((0 : Nat) : Int) → bYA K = bPA K ++ [2, 21] → aYA K i v x = -(aYP K i v x) → Ret (fx_ac (d + 4) 0 M 60 (K : Int) 1 x deep) (fun r => TC M0 r.2 (bYA K ++ l) ∧ r.1 = aYA K i v x) := fun q1 q2 q3 q4 => by
    rw [q3, q4, List.append_assoc]
    refine c_step (a := 1) hK (by decide) d0 (by omega) h (by omega) (fun M' h' => ?_)
    rw [q1] at h' ⊢
    rw [q2, actB_21]
    refine Ret.bb (c_YP e hK (by decide) rfl (by omega) (by omega) h' (by show l.length + 1 < 380; omega)) (fun r hr => Ret.s ⟨hr.1, ?_⟩)
    dsimp only
    rw [hr.2]
  rcases k with rfl | rfl | rfl | rfl | rfl | rfl | rfl
  · exact simple rfl rfl rfl
  · exact simple rfl rfl rfl
  · exact two1 rfl rfl rfl rfl
  · exact simple rfl rfl rfl
  · exact simple rfl rfl rfl
  · exact two1 rfl rfl rfl rfl
  · refine c_step (a := 1) hK (by decide) d0 (by omega) h (by omega) (fun M' h' => ?_)
    have h' : TC M0 M' (61 :: l) := h'
    show Ret (actB (fx_ac (d + 3) 0) x deep 61 ((3 : Nat) : Int) M') _
    rw [actB_61]
    refine Ret.bb (c_YP e hK (by decide) rfl (by omega) (by omega) h' (by show l.length + 1 < 380; omega)) (fun r hr => Ret.s ⟨hr.1, ?_⟩)
    dsimp only
    rw [hr.2, (hr.1.e e).2.2]
    rfl
theorem c_TP {d f K : Nat} {x deep i v : Int} {M0 M : jM} {l : List Int} (e : AE M0 K i v) (hK : K < 7) (hf : f < 7) (hb : rBd f 2 = 3) (d0 : 0 ≤ deep) (d1 : deep < 16) (h : TC M0 M l) (hl : l.length < 360) : Ret (fx_ac (d + 5) 0 M 60 (f : Int) 2 x deep) (fun r => TC M0 r.2 (bYA K ++ (3 :: l)) ∧ r.1 = aTP K i v x) := by
  refine c_step (a := 2) hf (by decide) d0 (by omega) h (by omega) (fun M' h' => ?_)
  rw [hb] at h' ⊢
  rw [actB_3, (h'.e e).1]
  refine Ret.bb (c_YA e hK (by omega) (by omega) h' (by show l.length + 1 < 370; omega)) (fun r hr => Ret.s ⟨hr.1, ?_⟩)
  dsimp only
  rw [hr.2]
  rfl
theorem c_TA {d K : Nat} {x deep i v : Int} {M0 M : jM} {l : List Int} (e : AE M0 K i v) (hK : K < 7) (d0 : 0 ≤ deep) (d1 : deep < 15) (h : TC M0 M l) (hl : l.length < 350) : Ret (fx_ac (d + 6) 0 M 60 (K : Int) 2 x deep) (fun r => TC M0 r.2 (bTA K ++ l) ∧ r.1 = aTA K i v x) := by
  have k : K = 0 ∨ K = 1 ∨ K = 2 ∨ K = 3 ∨ K = 4 ∨ K = 5 ∨ K = 6 := by omega
  have simple : rBd K 2 = 3 → bTA K = bYA K ++ [3] → aTA K i v x = aTP K i v x → Ret (fx_ac (d + 6) 0 M 60 (K : Int) 2 x deep) (fun r => TC M0 r.2 (bTA K ++ l) ∧ r.1 = aTA K i v x) := fun q1 q2 q3 => by
    rw [q2, q3, List.append_assoc]
    exact c_TP (l := l) e hK hK q1 d0 (by omega) h (by omega)
  have three1 : rBd K 2 = 31 → rUp (rAt K 2) = ((0 : Nat) : Int) → bTA K = bYA K ++ [3, 31] → aTA K i v x = ixor (aTP K i v x) 7 → Ret (fx_ac (d + 6) 0 M 60 (K : Int) 2 x deep) (fun r => TC M0 r.2 (bTA K ++ l) ∧ r.1 = aTA K i v x) := fun q1 q2 q3 q4 => by
    rw [q3, q4, List.append_assoc]
    refine c_step (a := 2) hK (by decide) d0 (by omega) h (by omega) (fun M' h' => ?_)
    rw [q1] at h' ⊢
    rw [q2, actB_31]
    refine Ret.bb (c_TP e hK (by decide) rfl (by omega) (by omega) h' (by show l.length + 1 < 360; omega)) (fun r hr => Ret.s ⟨hr.1, ?_⟩)
    dsimp only
    rw [hr.2]
  rcases k with rfl | rfl | rfl | rfl | rfl | rfl | rfl
  · exact simple rfl rfl rfl
  · exact simple rfl rfl rfl
  · exact simple rfl rfl rfl
  · exact three1 rfl rfl rfl rfl
  · refine c_step (a := 2) hK (by decide) d0 (by omega) h (by omega) (fun M' h' => ?_)
    have h' : TC M0 M' (41 :: l) := h'
    show Ret (actB (fx_ac (d + 5) 0) x deep 41 ((1 : Nat) : Int) M') _
    rw [actB_41]
    refine Ret.bb (c_TP e hK (by decide) rfl (by omega) (by omega) h' (by show l.length + 1 < 360; omega)) ?_
    rintro ⟨y, M2⟩ ⟨h2, hy⟩
    dsimp only at h2 hy ⊢
    rw [(h2.e e).1]
    have hl2 : (bYA ((4 : Nat) : Int)).length ≤ 4 := b_len.2.1
    refine Ret.bb (c_PA (d := d + 3) e hK (by omega) (by omega) h2 (by rw [List.length_append]; show _ + (l.length + 1 + 1) < 390; omega)) (fun r hr => Ret.s ⟨?_, ?_⟩)
    · have := hr.1
      show TC M0 r.2 ((bPA 4 ++ (bYA 4 ++ [3, 41])) ++ l)
      rw [List.append_assoc, List.append_assoc]
      exact this
    · dsimp only
      rw [hr.2, hy]
      rfl
  · exact simple rfl rfl rfl
  · exact three1 rfl rfl rfl rfl
/-! the reference's -/
def RE (M0 : jM) (K i v : Int) : Prop := M0 62 20 = K ∧ M0 62 21 = i ∧ M0 62 22 = v ∧ 0 ≤ K ∧ K ≤ 6
theorem TR.e {M0 M : jM} {l : List Int} {K i v : Int} (h : TR M0 M l) (e : RE M0 K i v) : RE M K i v := ⟨by rw [h.1 _ _ (by omega) (by decide)]; exact e.1, by rw [h.1 _ _ (by omega) (by decide)]; exact e.2.1, by rw [h.1 _ _ (by omega) (by decide)]; exact e.2.2.1, e.2.2.2⟩
theorem r_under (M : jM) {K k : Int} (K0 : 0 ≤ K) (K1 : K ≤ 6) (k0 : 1 ≤ k) (k1 : k ≤ 3) : f_X10_isUnder M K k = some (if K = k ∨ K = k + 3 then 1 else 0) := by
  unfold f_X10_isUnder f_X10_isUnder_25
  rw [w32_id (x := k) (by omega) (by omega), w32_id (x := K) (by omega) (by omega), w32_id (x := k + 3) (by omega) (by omega), if_neg (by omega)]
  by_cases c : k = K
  · rw [if_pos c, if_pos (Or.inl c.symm)]
  · rw [if_neg c, if_neg (by omega), if_neg (by omega)]
    by_cases c2 : K = k + 3
    · rw [if_pos c2, if_pos (Or.inr c2)]
    · rw [if_neg c2, if_neg (by omega)]
theorem rr_PP {M0 M : jM} {K i v x : Int} {l : List Int} (e : RE M0 K i v) (h : TR M0 M l) (hl : l.length < 400) : Ret (f_X10_plainPicks M 62 x) (fun r => TR M0 r.2 (1 :: l) ∧ r.1 = aPP i x) := by
  unfold f_X10_plainPicks
  refine Ret.bb (r_note h (by omega)) (fun M' h' => Ret.s ⟨h', ?_⟩)
  dsimp only
  rw [(h'.e e).2.1]
  rfl
theorem rr_PA {M0 M : jM} {K i v x : Int} {l : List Int} (e : RE M0 K i v) (h : TR M0 M l) (hl : l.length < 390) : Ret (f_X10_picksActs M 62 x) (fun r => TR M0 r.2 (bPA K ++ l) ∧ r.1 = aPA K i x) := by
  have eK := (h.e e).1
  have K0 := e.2.2.2.1
  have K1 := e.2.2.2.2
  unfold f_X10_picksActs
  rw [eK, r_under M K0 K1 (by decide) (by decide), w32_id (x := K) (by omega) (by omega)]
  by_cases c : K = 1 ∨ K = 1 + 3
  · rw [if_pos c]
    refine Ret.b ⟨1, rfl, Ret.f w32_1n (Ret.bb (r_note (b := 11) h (by omega)) (fun M' h' => Ret.bb (rr_PP e h' (by show l.length + 1 < 400; omega)) (fun r hr => Ret.s ?_)))⟩
    have b1 : bPA K = [1, 11] := by unfold bPA; rw [if_pos (by omega)]
    have a1 : aPA K i x = aPP i (x * 3) := by unfold aPA; rw [if_pos (by omega)]
    rw [b1, a1]
    exact hr
  · rw [if_neg c]
    refine Ret.b ⟨0, rfl, Ret.t w32_0 (Ret.i (fun c2 => Ret.bb (r_note (b := 51) h (by omega)) (fun M' h' => Ret.bb (rr_PP e h' (by show l.length + 1 < 400; omega)) (fun r hr => Ret.s ?_))) (fun c2 => Ret.bb (rr_PP e h (by omega)) (fun r hr => Ret.s ?_)))⟩
    · have b1 : bPA K = [1, 51] := by unfold bPA; rw [if_neg (by omega), if_pos c2]
      have a1 : aPA K i x = ixor (aPP i x) i := by unfold aPA; rw [if_neg (by omega), if_pos c2]
      rw [b1, a1]
      refine ⟨hr.1, ?_⟩
      dsimp only
      rw [hr.2, (hr.1.e e).2.1]
    · have b1 : bPA K = [1] := by unfold bPA; rw [if_neg (by omega), if_neg c2]
      have a1 : aPA K i x = aPP i x := by unfold aPA; rw [if_neg (by omega), if_neg c2]
      rw [b1, a1]
      exact hr
theorem rr_YP {M0 M : jM} {K i v x : Int} {l : List Int} (e : RE M0 K i v) (h : TR M0 M l) (hl : l.length < 380) : Ret (f_X10_plainPays M 62 x) (fun r => TR M0 r.2 (bPA K ++ (2 :: l)) ∧ r.1 = aYP K i v x) := by
  unfold f_X10_plainPays
  refine Ret.bb (r_note h (by omega)) (fun M' h' => Ret.bb (rr_PA e h' (by show l.length + 1 < 390; omega)) (fun r hr => Ret.s ⟨hr.1, ?_⟩))
  dsimp only
  rw [hr.2, (hr.1.e e).2.2.1]
  rfl
theorem rr_YA {M0 M : jM} {K i v x : Int} {l : List Int} (e : RE M0 K i v) (h : TR M0 M l) (hl : l.length < 370) : Ret (f_X10_paysActs M 62 x) (fun r => TR M0 r.2 (bYA K ++ l) ∧ r.1 = aYA K i v x) := by
  have eK := (h.e e).1
  have K0 := e.2.2.2.1
  have K1 := e.2.2.2.2
  unfold f_X10_paysActs
  rw [eK, r_under M K0 K1 (by decide) (by decide), w32_id (x := K) (by omega) (by omega)]
  by_cases c : K = 2 ∨ K = 2 + 3
  · rw [if_pos c]
    refine Ret.b ⟨1, rfl, Ret.f w32_1n (Ret.bb (r_note (b := 21) h (by omega)) (fun M' h' => Ret.bb (rr_YP e h' (by show l.length + 1 < 380; omega)) (fun r hr => Ret.s ?_)))⟩
    have b1 : bYA K = bPA K ++ [2, 21] := by unfold bYA; rw [if_pos (by omega)]
    have a1 : aYA K i v x = -(aYP K i v x) := by unfold aYA; rw [if_pos (by omega)]
    rw [b1, a1, List.append_assoc]
    exact ⟨hr.1, by dsimp only; rw [hr.2]⟩
  · rw [if_neg c]
    refine Ret.b ⟨0, rfl, Ret.t w32_0 (Ret.i (fun c2 => Ret.bb (r_note (b := 61) h (by omega)) (fun M' h' => Ret.bb (rr_YP e h' (by show l.length + 1 < 380; omega)) (fun r hr => Ret.s ?_))) (fun c2 => Ret.bb (rr_YP e h (by omega)) (fun r hr => Ret.s ?_)))⟩
    · have b1 : bYA K = bPA K ++ [2, 61] := by unfold bYA; rw [if_neg (by omega), if_pos c2]
      have a1 : aYA K i v x = aYP K i v x + v := by unfold aYA; rw [if_neg (by omega), if_pos c2]
      rw [b1, a1, List.append_assoc]
      refine ⟨hr.1, ?_⟩
      dsimp only
      rw [hr.2, (hr.1.e e).2.2.1]
    · have b1 : bYA K = bPA K ++ [2] := by unfold bYA; rw [if_neg (by omega), if_neg c2]
      have a1 : aYA K i v x = aYP K i v x := by unfold aYA; rw [if_neg (by omega), if_neg c2]
      rw [b1, a1, List.append_assoc]
      exact hr
theorem rr_TP {M0 M : jM} {K i v x : Int} {l : List Int} (e : RE M0 K i v) (h : TR M0 M l) (hl : l.length < 360) : Ret (f_X10_plainTells M 62 x) (fun r => TR M0 r.2 (bYA K ++ (3 :: l)) ∧ r.1 = aTP K i v x) := by
  unfold f_X10_plainTells
  refine Ret.bb (r_note h (by omega)) (fun M' h' => Ret.bb (rr_YA e h' (by show l.length + 1 < 370; omega)) (fun r hr => Ret.s ⟨hr.1, ?_⟩))
  dsimp only
  rw [hr.2]
  rfl
theorem rr_TA {M0 M : jM} {K i v x : Int} {l : List Int} (e : RE M0 K i v) (h : TR M0 M l) (hl : l.length < 350) : Ret (f_X10_tellsActs M 62 x) (fun r => TR M0 r.2 (bTA K ++ l) ∧ r.1 = aTA K i v x) := by
  have eK := (h.e e).1
  have K0 := e.2.2.2.1
  have K1 := e.2.2.2.2
  unfold f_X10_tellsActs
  rw [eK, r_under M K0 K1 (by decide) (by decide), w32_id (x := K) (by omega) (by omega)]
  by_cases c : K = 3 ∨ K = 3 + 3
  · rw [if_pos c]
    refine Ret.b ⟨1, rfl, Ret.f w32_1n (Ret.bb (r_note (b := 31) h (by omega)) (fun M' h' => Ret.bb (rr_TP e h' (by show l.length + 1 < 360; omega)) (fun r hr => Ret.s ?_)))⟩
    have b1 : bTA K = bYA K ++ [3, 31] := by unfold bTA; rw [if_pos (by omega)]
    have a1 : aTA K i v x = ixor (aTP K i v x) 7 := by unfold aTA; rw [if_pos (by omega)]
    rw [b1, a1, List.append_assoc]
    exact ⟨hr.1, by dsimp only; rw [hr.2]⟩
  · rw [if_neg c]
    refine Ret.b ⟨0, rfl, Ret.t w32_0 (Ret.i (fun c2 => Ret.bb (r_note (b := 41) h (by omega)) (fun M' h' => Ret.bb (rr_TP e h' (by show l.length + 1 < 360; omega)) ?_)) (fun c2 => Ret.bb (rr_TP e h (by omega)) (fun r hr => Ret.s ?_)))⟩
    · rintro ⟨y, M2⟩ ⟨h2, hy⟩
      dsimp only at h2 hy ⊢
      have hl2 := (b_len (K := K)).2.1
      refine Ret.bb (rr_PA e h2 (by rw [List.length_append]; show _ + (l.length + 1 + 1) < 390; omega)) (fun r hr => Ret.s ?_)
      have b1 : bTA K = bPA K ++ (bYA K ++ [3, 41]) := by unfold bTA; rw [if_neg (by omega), if_pos c2]
      have a1 : aTA K i v x = aTP K i v (x - 1) + aPA K i 2 := by unfold aTA; rw [if_neg (by omega), if_pos c2]
      rw [b1, a1, List.append_assoc, List.append_assoc]
      exact ⟨hr.1, by dsimp only; rw [hr.2, hy]⟩
    · have b1 : bTA K = bYA K ++ [3] := by unfold bTA; rw [if_neg (by omega), if_neg c2]
      have a1 : aTA K i v x = aTP K i v x := by unfold aTA; rw [if_neg (by omega), if_neg c2]
      rw [b1, a1, List.append_assoc]
      exact hr
