set_option maxHeartbeats 4000000 in
theorem w_X5_readF_29 {p : Program} {l : Launch} {e : Env} {R : Room} {s : State} {m : MethodId} {args : Array Value} {below : List Frame} {meth : Method} {c : Code} {H : Heap} {locs : List Loc} {ls : Array Slot} {G : jG} {Fd Ld : Nat} {r_X5_readE : jM → Int → Int → Option (Int × jM)} {r_X5_readT : jM → Int → Int → Option (Int × jM)} {r_X5_readF : jM → Int → Int → Option (Int × jM)} (C : jCx p s m args meth c cX5_readF 6 RX5 (Cond.code yX5_readF cX5_readF 6 (some .long)) (some .long)) (hRf : 7 ≤ R.frames) (hRl : 223 ≤ R.locals) (Hr_X5_readE : ∀ (G : jG) (M : jM) (a0 a1 : Int) (q : Int × jM), r_X5_readE M a0 a1 = some q → jkd a0 = (5, 0) → Met l yX5_readE (Cond.code yX5_readE cX5_readE 5 (some .long) :: wsL_law) ({ frames := Fd, cells := 0, slots := 0, locals := Ld } : Room) (va_Pc [jR G a0, vI a1] (fun U => jRep G M U)) (jQ G (some (vL q.1)) q.2) 0 0 (jA G)) (Hr_X5_readT : ∀ (G : jG) (M : jM) (a0 a1 : Int) (q : Int × jM), r_X5_readT M a0 a1 = some q → jkd a0 = (5, 0) → Met l yX5_readT (Cond.code yX5_readT cX5_readT 5 (some .long) :: wsL_law) ({ frames := Fd, cells := 0, slots := 0, locals := Ld } : Room) (va_Pc [jR G a0, vI a1] (fun U => jRep G M U)) (jQ G (some (vL q.1)) q.2) 0 0 (jA G)) (Hr_X5_readF : ∀ (G : jG) (M : jM) (a0 a1 : Int) (q : Int × jM), r_X5_readF M a0 a1 = some q → jkd a0 = (5, 0) → Met l yX5_readF (Cond.code yX5_readF cX5_readF 6 (some .long) :: wsL_law) ({ frames := Fd, cells := 0, slots := 0, locals := Ld } : Room) (va_Pc [jR G a0, vI a1] (fun U => jRep G M U)) (jQ G (some (vL q.1)) q.2) 0 0 (jA G)) (hFd : Fd + 1 ≤ R.frames) (hLd : Ld + 25 ≤ R.locals) (M : jM) (l0 : Int) (h0 : jkd l0 = (5, 0)) {fin : Int × jM} (hf : f_X5_readF_29 r_X5_readE r_X5_readT r_X5_readF M l0 = some fin) (hO : jOk G M s H locs) (hl : lv_has ls 6 [(0, jR G l0)]) : W p l e R s m args below meth c H locs 0 0 (MQ below (jQ G (some (vL fin.1)) fin.2) args s 0 0 (jA G)) (F0 m 29 ls []) := by
  unfold f_X5_readF_29 at hf
  refine lv_aload_n C.1 C.2.1 dX5_readF_29 rfl (lv_at hl 0 rfl) ?_
  refine lv_iconst (v := Int32.ofInt 1) C.1 C.2.1 dX5_readF_30 rfl ?_
  obtain ⟨M4, hM4, hf⟩ := lt1_e hf
  refine j_put C hO (ci := 5) (k := 3) (x := 1) h0 rfl inlX5 tyX5_ok nmX5 (by decide) kF_7_20 rfl rfl (jz_n (Or.inr rfl)) (jz_f (Or.inr rfl)) (by simp [jfl]) (fs_5_3) dX5_readF_31 (fun H locs hO => ?_)
  rw [← hM4] at hO
  refine lv_lconst (v := Int64.ofInt 0) C.1 C.2.1 dX5_readF_34 (by decide) ?_
  have hf := som_e hf
  subst hf
  exact j_lret C hO dX5_readF_35
set_option maxHeartbeats 4000000 in
theorem w_X5_readF_17 {p : Program} {l : Launch} {e : Env} {R : Room} {s : State} {m : MethodId} {args : Array Value} {below : List Frame} {meth : Method} {c : Code} {H : Heap} {locs : List Loc} {ls : Array Slot} {G : jG} {Fd Ld : Nat} {r_X5_readE : jM → Int → Int → Option (Int × jM)} {r_X5_readT : jM → Int → Int → Option (Int × jM)} {r_X5_readF : jM → Int → Int → Option (Int × jM)} (C : jCx p s m args meth c cX5_readF 6 RX5 (Cond.code yX5_readF cX5_readF 6 (some .long)) (some .long)) (hRf : 7 ≤ R.frames) (hRl : 223 ≤ R.locals) (Hr_X5_readE : ∀ (G : jG) (M : jM) (a0 a1 : Int) (q : Int × jM), r_X5_readE M a0 a1 = some q → jkd a0 = (5, 0) → Met l yX5_readE (Cond.code yX5_readE cX5_readE 5 (some .long) :: wsL_law) ({ frames := Fd, cells := 0, slots := 0, locals := Ld } : Room) (va_Pc [jR G a0, vI a1] (fun U => jRep G M U)) (jQ G (some (vL q.1)) q.2) 0 0 (jA G)) (Hr_X5_readT : ∀ (G : jG) (M : jM) (a0 a1 : Int) (q : Int × jM), r_X5_readT M a0 a1 = some q → jkd a0 = (5, 0) → Met l yX5_readT (Cond.code yX5_readT cX5_readT 5 (some .long) :: wsL_law) ({ frames := Fd, cells := 0, slots := 0, locals := Ld } : Room) (va_Pc [jR G a0, vI a1] (fun U => jRep G M U)) (jQ G (some (vL q.1)) q.2) 0 0 (jA G)) (Hr_X5_readF : ∀ (G : jG) (M : jM) (a0 a1 : Int) (q : Int × jM), r_X5_readF M a0 a1 = some q → jkd a0 = (5, 0) → Met l yX5_readF (Cond.code yX5_readF cX5_readF 6 (some .long) :: wsL_law) ({ frames := Fd, cells := 0, slots := 0, locals := Ld } : Room) (va_Pc [jR G a0, vI a1] (fun U => jRep G M U)) (jQ G (some (vL q.1)) q.2) 0 0 (jA G)) (hFd : Fd + 1 ≤ R.frames) (hLd : Ld + 25 ≤ R.locals) (M : jM) (l0 l1 l2 : Int) (h0 : jkd l0 = (5, 0)) {fin : Int × jM} (hf : f_X5_readF_17 r_X5_readE r_X5_readT r_X5_readF M l0 l1 l2 = some fin) (hO : jOk G M s H locs) (hl : lv_has ls 6 [(0, jR G l0), (1, vI l1), (2, vI l2)]) : W p l e R s m args below meth c H locs 0 0 (MQ below (jQ G (some (vL fin.1)) fin.2) args s 0 0 (jA G)) (F0 m 17 ls []) := by
  unfold f_X5_readF_17 at hf
  refine lv_aload_n C.1 C.2.1 dX5_readF_17 rfl (lv_at hl 0 rfl) ?_
  refine j_get C hO (ci := 5) (k := 3) (v := vI (M l0 3)) h0 rfl inlX5 (by decide) kF_7_20 rfl rfl dX5_readF_18 ?_
  refine j_if_ne (tgt := 29) C rfl dX5_readF_21 (by decide) (fun c3 => ?_) (fun c3 => ?_)
  · have hf := (if_neg c3).symm.trans hf
    exact w_X5_readF_29 C hRf hRl Hr_X5_readE Hr_X5_readT Hr_X5_readF hFd hLd M l0 h0 hf hO (lv_sub hl [0] rfl)
  · have hf := (if_pos c3).symm.trans hf
    refine lv_iload_n C.1 C.2.1 dX5_readF_24 rfl (lv_at hl 1 rfl) ?_
    refine lv_iconst (v := Int32.ofInt 5) C.1 C.2.1 dX5_readF_25 rfl ?_
    refine j_icmp_lt (tgt := 36) C rfl (w32_id (by decide) (by decide)) dX5_readF_26 (by decide) (fun c5 => ?_) (fun c5 => ?_)
    · have hf := (if_pos c5).symm.trans hf
      refine lv_aload_n C.1 C.2.1 dX5_readF_36 rfl (lv_at hl 0 rfl) ?_
      refine lv_dup C.1 C.2.1 dX5_readF_37 rfl ?_
      refine j_get C hO (ci := 5) (k := 2) (v := vI (M l0 2)) h0 rfl inlX5 (by decide) kF_7_19 rfl rfl dX5_readF_38 ?_
      refine lv_iconst (v := Int32.ofInt 1) C.1 C.2.1 dX5_readF_41 rfl ?_
      refine j_iadd C dX5_readF_42 ?_
      obtain ⟨M6, hM6, hf⟩ := lt1_e hf
      refine j_put C hO (ci := 5) (k := 2) (x := (M l0 2) + 1) h0 rfl inlX5 tyX5_ok nmX5 (by decide) kF_7_19 rfl rfl rfl rfl (by simp [jfl]) (fs_5_2) dX5_readF_43 (fun H locs hO => ?_)
      rw [← hM6] at hO
      refine lv_iload_n C.1 C.2.1 dX5_readF_46 rfl (lv_at hl 2 rfl) ?_
      refine lv_bipush (v := Int32.ofInt 33) C.1 C.2.1 dX5_readF_47 (by decide) ?_
      refine j_icmp_ne (tgt := 64) C rfl (w32_id (by decide) (by decide)) dX5_readF_49 (by decide) (fun c7 => ?_) (fun c7 => ?_)
      · have hf := (if_neg c7).symm.trans hf
        refine lv_aload_n C.1 C.2.1 dX5_readF_64 rfl (lv_at hl 0 rfl) ?_
        refine lv_iload_n C.1 C.2.1 dX5_readF_65 rfl (lv_at hl 1 rfl) ?_
        refine lv_iconst (v := Int32.ofInt 1) C.1 C.2.1 dX5_readF_66 rfl ?_
        refine j_iadd C dX5_readF_67 ?_
        obtain ⟨r8, hr8, hf⟩ := bnd_e hf
        refine j_callV C hO (n := 1) (As := [vI (l1 + 1)]) (st1 := [vL r8.1]) (Hr_X5_readE G M6 l0 (l1 + 1) r8 hr8 h0) h0 rfl kC_11_2 kM_10_23 kI_11_0 kS_11_1 kN_2_0 ⟨by decide, by decide, by decide⟩ ⟨hFd, jle (by decide) hLd⟩ rfl rfl rfl hl.1 rfl (Nat.le_of_ble_eq_true rfl) ⟨Nat.zero_le _, Nat.zero_le _⟩ dX5_readF_68 rfl (fun H locs hO => ?_)
        refine lv_lstore_n (lv' := [(3, vL r8.1), (0, jR G l0), (1, vI l1), (2, vI l2)]) C.1 C.2.1 dX5_readF_71 rfl hl (by decide) rfl (fun ls hl => ?_)
        refine lv_aload_n C.1 C.2.1 dX5_readF_72 rfl (lv_at hl 1 rfl) ?_
        refine lv_bipush (v := Int32.ofInt 41) C.1 C.2.1 dX5_readF_73 (by decide) ?_
        obtain ⟨r9, hr9, hf⟩ := bnd_e hf
        refine j_callV C hO (n := 1) (As := [vI 41]) (st1 := []) (c_X5_take l G r8.2 l0 41 h0 hr9) h0 rfl kC_10_18 kM_10_15 kI_10_16 kS_10_17 kN_2_0 ⟨by decide, by decide, by decide⟩ ⟨Nat.le_trans (by decide) hRf, Nat.le_trans (by decide) hRl⟩ rfl rfl rfl hl.1 rfl (Nat.le_of_ble_eq_true rfl) ⟨Nat.zero_le _, Nat.zero_le _⟩ dX5_readF_75 rfl (fun H locs hO => ?_)
        refine lv_lload_n C.1 C.2.1 dX5_readF_78 rfl (lv_at hl 0 rfl) ?_
        have hf := som_e hf
        subst hf
        exact j_lret C hO dX5_readF_79
      · have hf := (if_pos c7).symm.trans hf
        refine lv_aload_n C.1 C.2.1 dX5_readF_52 rfl (lv_at hl 0 rfl) ?_
        refine lv_iload_n C.1 C.2.1 dX5_readF_53 rfl (lv_at hl 1 rfl) ?_
        refine lv_iconst (v := Int32.ofInt 1) C.1 C.2.1 dX5_readF_54 rfl ?_
        refine j_iadd C dX5_readF_55 ?_
        obtain ⟨r10, hr10, hf⟩ := bnd_e hf
        refine j_callV C hO (n := 1) (As := [vI (l1 + 1)]) (st1 := [vL r10.1]) (Hr_X5_readF G M6 l0 (l1 + 1) r10 hr10 h0) h0 rfl kC_11_6 kM_11_8 kI_11_9 kS_11_10 kN_2_0 ⟨by decide, by decide, by decide⟩ ⟨hFd, jle (by decide) hLd⟩ rfl rfl rfl hl.1 rfl (Nat.le_of_ble_eq_true rfl) ⟨Nat.zero_le _, Nat.zero_le _⟩ dX5_readF_56 rfl (fun H locs hO => ?_)
        refine j_ldc2 (x := (-1)) C kL_11_7 (by decide) dX5_readF_59 ?_
        refine j_lxor C dX5_readF_62 ?_
        have hf := som_e hf
        subst hf
        exact j_lret C hO dX5_readF_63
    · have hf := (if_neg c5).symm.trans hf
      exact w_X5_readF_29 C hRf hRl Hr_X5_readE Hr_X5_readT Hr_X5_readF hFd hLd M l0 h0 hf hO (lv_sub hl [0] rfl)
set_option maxHeartbeats 4000000 in
theorem w_X5_readF {p : Program} {l : Launch} {e : Env} {R : Room} {s : State} {m : MethodId} {args : Array Value} {below : List Frame} {meth : Method} {c : Code} {H : Heap} {locs : List Loc} {ls : Array Slot} {G : jG} {Fd Ld : Nat} {r_X5_readE : jM → Int → Int → Option (Int × jM)} {r_X5_readT : jM → Int → Int → Option (Int × jM)} {r_X5_readF : jM → Int → Int → Option (Int × jM)} (C : jCx p s m args meth c cX5_readF 6 RX5 (Cond.code yX5_readF cX5_readF 6 (some .long)) (some .long)) (hRf : 7 ≤ R.frames) (hRl : 223 ≤ R.locals) (Hr_X5_readE : ∀ (G : jG) (M : jM) (a0 a1 : Int) (q : Int × jM), r_X5_readE M a0 a1 = some q → jkd a0 = (5, 0) → Met l yX5_readE (Cond.code yX5_readE cX5_readE 5 (some .long) :: wsL_law) ({ frames := Fd, cells := 0, slots := 0, locals := Ld } : Room) (va_Pc [jR G a0, vI a1] (fun U => jRep G M U)) (jQ G (some (vL q.1)) q.2) 0 0 (jA G)) (Hr_X5_readT : ∀ (G : jG) (M : jM) (a0 a1 : Int) (q : Int × jM), r_X5_readT M a0 a1 = some q → jkd a0 = (5, 0) → Met l yX5_readT (Cond.code yX5_readT cX5_readT 5 (some .long) :: wsL_law) ({ frames := Fd, cells := 0, slots := 0, locals := Ld } : Room) (va_Pc [jR G a0, vI a1] (fun U => jRep G M U)) (jQ G (some (vL q.1)) q.2) 0 0 (jA G)) (Hr_X5_readF : ∀ (G : jG) (M : jM) (a0 a1 : Int) (q : Int × jM), r_X5_readF M a0 a1 = some q → jkd a0 = (5, 0) → Met l yX5_readF (Cond.code yX5_readF cX5_readF 6 (some .long) :: wsL_law) ({ frames := Fd, cells := 0, slots := 0, locals := Ld } : Room) (va_Pc [jR G a0, vI a1] (fun U => jRep G M U)) (jQ G (some (vL q.1)) q.2) 0 0 (jA G)) (hFd : Fd + 1 ≤ R.frames) (hLd : Ld + 25 ≤ R.locals) (M : jM) (l0 l1 : Int) (h0 : jkd l0 = (5, 0)) {fin : Int × jM} (hf : fb_X5_readF r_X5_readE r_X5_readT r_X5_readF M l0 l1 = some fin) (hO : jOk G M s H locs) (hl : lv_has ls 6 [(0, jR G l0), (1, vI l1)]) : W p l e R s m args below meth c H locs 0 0 (MQ below (jQ G (some (vL fin.1)) fin.2) args s 0 0 (jA G)) (F0 m 0 ls []) := by
  unfold fb_X5_readF at hf
  refine lv_aload_n C.1 C.2.1 dX5_readF_0 rfl (lv_at hl 0 rfl) ?_
  obtain ⟨r1, hr1, hf⟩ := bnd_e hf
  refine j_callV C hO (n := 0) (As := []) (st1 := [vI r1]) (c_X5_next l G M l0 h0 hr1) h0 rfl kC_8_9 kM_8_6 kI_8_7 kS_8_8 kN_2_0 ⟨by decide, by decide, by decide⟩ ⟨Nat.le_trans (by decide) hRf, Nat.le_trans (by decide) hRl⟩ rfl rfl rfl hl.1 rfl (Nat.le_of_ble_eq_true rfl) ⟨Nat.zero_le _, Nat.zero_le _⟩ dX5_readF_1 rfl (fun H locs hO => ?_)
  refine lv_istore_n (lv' := [(2, vI r1), (0, jR G l0), (1, vI l1)]) C.1 C.2.1 dX5_readF_4 rfl hl (by decide) rfl (fun ls hl => ?_)
  refine lv_iload_n C.1 C.2.1 dX5_readF_5 rfl (lv_at hl 0 rfl) ?_
  refine lv_bipush (v := Int32.ofInt 33) C.1 C.2.1 dX5_readF_6 (by decide) ?_
  refine j_icmp_eq (tgt := 17) C rfl (w32_id (by decide) (by decide)) dX5_readF_8 (by decide) (fun c2 => ?_) (fun c2 => ?_)
  · have hf := (if_pos c2).symm.trans hf
    exact w_X5_readF_17 C hRf hRl Hr_X5_readE Hr_X5_readT Hr_X5_readF hFd hLd M l0 l1 r1 h0 hf hO (lv_sub hl [1, 2, 0] rfl)
  · have hf := (if_neg c2).symm.trans hf
    refine lv_iload_n C.1 C.2.1 dX5_readF_11 rfl (lv_at hl 0 rfl) ?_
    refine lv_bipush (v := Int32.ofInt 40) C.1 C.2.1 dX5_readF_12 (by decide) ?_
    refine j_icmp_ne (tgt := 80) C rfl (w32_id (by decide) (by decide)) dX5_readF_14 (by decide) (fun c11 => ?_) (fun c11 => ?_)
    · have hf := (if_neg c11).symm.trans hf
      refine lv_aload_n C.1 C.2.1 dX5_readF_80 rfl (lv_at hl 1 rfl) ?_
      refine j_ldcS (x := 4) C hO (tx := "sgd") (by decide) dX5_readF_81 ?_
      obtain ⟨r12, hr12, hf⟩ := bnd_e hf
      refine j_callV C hO (n := 1) (As := [jS G 4]) (st1 := [vI r12.1]) (c_X5_takeOneOf l G M l0 4 h0 (⟨by decide, by decide⟩ : (0 : Int) ≤ 4 ∧ (4 : Int) < 6) hr12) h0 rfl kC_11_14 kM_11_11 kI_11_12 kS_11_13 kN_2_0 ⟨by decide, by decide, by decide⟩ ⟨Nat.le_trans (by decide) hRf, Nat.le_trans (by decide) hRl⟩ rfl rfl rfl hl.1 rfl (Nat.le_of_ble_eq_true rfl) ⟨Nat.zero_le _, Nat.zero_le _⟩ dX5_readF_83 rfl (fun H locs hO => ?_)
      refine lv_istore_n (lv' := [(3, vI r12.1), (2, vI r1), (0, jR G l0), (1, vI l1)]) C.1 C.2.1 dX5_readF_86 rfl hl (by decide) rfl (fun ls hl => ?_)
      refine lv_aload_n C.1 C.2.1 dX5_readF_87 rfl (lv_at hl 2 rfl) ?_
      refine j_ldcS (x := 5) C hO (tx := "<=>") (by decide) dX5_readF_88 ?_
      obtain ⟨r13, hr13, hf⟩ := bnd_e hf
      refine j_callV C hO (n := 1) (As := [jS G 5]) (st1 := [vI r13.1]) (c_X5_takeOneOf l G r12.2 l0 5 h0 (⟨by decide, by decide⟩ : (0 : Int) ≤ 5 ∧ (5 : Int) < 6) hr13) h0 rfl kC_11_14 kM_11_11 kI_11_12 kS_11_13 kN_2_0 ⟨by decide, by decide, by decide⟩ ⟨Nat.le_trans (by decide) hRf, Nat.le_trans (by decide) hRl⟩ rfl rfl rfl hl.1 rfl (Nat.le_of_ble_eq_true rfl) ⟨Nat.zero_le _, Nat.zero_le _⟩ dX5_readF_90 rfl (fun H locs hO => ?_)
      refine lv_istore (lv' := [(4, vI r13.1), (3, vI r12.1), (2, vI r1), (0, jR G l0), (1, vI l1)]) C.1 C.2.1 dX5_readF_93 hl (by decide) rfl (fun ls hl => ?_)
      refine lv_aload_n C.1 C.2.1 dX5_readF_95 rfl (lv_at hl 3 rfl) ?_
      obtain ⟨r14, hr14, hf⟩ := bnd_e hf
      refine j_callV C hO (n := 0) (As := []) (st1 := [vI r14.1]) (c_X5_readNumber l G r13.2 l0 h0 hr14) h0 rfl kC_10_22 kM_10_19 kI_10_20 kS_10_21 kN_2_0 ⟨by decide, by decide, by decide⟩ ⟨Nat.le_trans (by decide) hRf, Nat.le_trans (by decide) hRl⟩ rfl rfl rfl hl.1 rfl (Nat.le_of_ble_eq_true rfl) ⟨Nat.zero_le _, Nat.zero_le _⟩ dX5_readF_96 rfl (fun H locs hO => ?_)
      refine lv_istore (lv' := [(5, vI r14.1), (4, vI r13.1), (3, vI r12.1), (2, vI r1), (0, jR G l0), (1, vI l1)]) C.1 C.2.1 dX5_readF_99 hl (by decide) rfl (fun ls hl => ?_)
      refine lv_aload_n C.1 C.2.1 dX5_readF_101 rfl (lv_at hl 4 rfl) ?_
      refine j_get C hO (ci := 5) (k := 3) (v := vI (r14.2 l0 3)) h0 rfl inlX5 (by decide) kF_7_20 rfl rfl dX5_readF_102 ?_
      refine j_if_eq (tgt := 112) C rfl dX5_readF_105 (by decide) (fun c15 => ?_) (fun c15 => ?_)
      · have hf := (if_pos c15).symm.trans hf
        refine lv_iload_n C.1 C.2.1 dX5_readF_112 rfl (lv_at hl 2 rfl) ?_
        refine lv_iload C.1 C.2.1 dX5_readF_113 (lv_at hl 1 rfl) ?_
        refine lv_iload C.1 C.2.1 dX5_readF_115 (lv_at hl 0 rfl) ?_
        obtain ⟨r16, hr16, hf⟩ := bnd_e hf
        refine j_callS C hO (n := 3) (As := [vI r12.1, vI r13.1, vI r14.1]) (st1 := [vL r16]) (c_X7_placesOf l G r14.2 r12.1 r13.1 r14.1  hr16) kC_11_17 kM_11_15 kT_11_16 kN_1_20 ⟨by decide, by decide, by decide⟩ ⟨Nat.le_trans (by decide) hRf, Nat.le_trans (by decide) hRl⟩ rfl rfl rfl hl.1 rfl (Nat.le_of_ble_eq_true rfl) ⟨Nat.zero_le _, Nat.zero_le _⟩ dX5_readF_117 rfl (fun H locs hO => ?_)
        have hf := som_e hf
        subst hf
        exact j_lret C hO dX5_readF_120
      · have hf := (if_neg c15).symm.trans hf
        refine lv_lconst (v := Int64.ofInt 0) C.1 C.2.1 dX5_readF_108 (by decide) ?_
        refine lv_goto (tgt := 120) C.1 C.2.1 dX5_readF_109 (by decide) ?_
        have hf := som_e hf
        subst hf
        exact j_lret C hO dX5_readF_120
    · have hf := (if_pos c11).symm.trans hf
      exact w_X5_readF_17 C hRf hRl Hr_X5_readE Hr_X5_readT Hr_X5_readF hFd hLd M l0 l1 r1 h0 hf hO (lv_sub hl [1, 2, 0] rfl)
set_option maxHeartbeats 1000000 in
theorem cb_X5_readF (l : Launch) (G : jG) {Fd Ld F0 L0 : Nat} (hF0 : 7 ≤ F0) (hL0 : 223 ≤ L0) (r_X5_readE : jM → Int → Int → Option (Int × jM)) (r_X5_readT : jM → Int → Int → Option (Int × jM)) (r_X5_readF : jM → Int → Int → Option (Int × jM)) (Hr_X5_readE : ∀ (G : jG) (M : jM) (a0 a1 : Int) (q : Int × jM), r_X5_readE M a0 a1 = some q → jkd a0 = (5, 0) → Met l yX5_readE (Cond.code yX5_readE cX5_readE 5 (some .long) :: wsL_law) ({ frames := Fd, cells := 0, slots := 0, locals := Ld } : Room) (va_Pc [jR G a0, vI a1] (fun U => jRep G M U)) (jQ G (some (vL q.1)) q.2) 0 0 (jA G)) (Hr_X5_readT : ∀ (G : jG) (M : jM) (a0 a1 : Int) (q : Int × jM), r_X5_readT M a0 a1 = some q → jkd a0 = (5, 0) → Met l yX5_readT (Cond.code yX5_readT cX5_readT 5 (some .long) :: wsL_law) ({ frames := Fd, cells := 0, slots := 0, locals := Ld } : Room) (va_Pc [jR G a0, vI a1] (fun U => jRep G M U)) (jQ G (some (vL q.1)) q.2) 0 0 (jA G)) (Hr_X5_readF : ∀ (G : jG) (M : jM) (a0 a1 : Int) (q : Int × jM), r_X5_readF M a0 a1 = some q → jkd a0 = (5, 0) → Met l yX5_readF (Cond.code yX5_readF cX5_readF 6 (some .long) :: wsL_law) ({ frames := Fd, cells := 0, slots := 0, locals := Ld } : Room) (va_Pc [jR G a0, vI a1] (fun U => jRep G M U)) (jQ G (some (vL q.1)) q.2) 0 0 (jA G)) (hFd : Fd + 1 ≤ F0) (hLd : Ld + 25 ≤ L0) (M : jM) (l0 l1 : Int) (h0 : jkd l0 = (5, 0)) {fin : Int × jM} (h : fb_X5_readF r_X5_readE r_X5_readT r_X5_readF M l0 l1 = some fin) : Met l yX5_readF (Cond.code yX5_readF cX5_readF 6 (some .long) :: wsL_law) ({ frames := F0, cells := 0, slots := 0, locals := L0 } : Room) (va_Pc [jR G l0, vI l1] (fun U => jRep G M U)) (jQ G (some (vL fin.1)) fin.2) 0 0 (jA G) := by
  refine Met.ofW (cc := cX5_readF) (maxL := 6) (ret := (some .long)) (by decide) rfl ?_
  intro p e s m args below meth c s₁ B hml hv
  obtain ⟨rfl, hR0⟩ := hv
  have C : jCx p s m ([jR G l0, vI l1] : List Value).toArray meth c cX5_readF 6 RX5 (Cond.code yX5_readF cX5_readF 6 (some .long)) (some .long) := ⟨B.exec, B.bytes, hml, findClass_of_methodNamed B.named, atoms_spec B.pre, B.returns, B.notSynchronized⟩
  have hO := hR0.ok
  have hl := lv_entry ([jR G l0, vI l1]) (n := 6) (Nat.le_of_ble_eq_true rfl)
  rw [lg_entry_eq]
  generalize (lg_sl ([jR G l0, vI l1]) ++ List.replicate (6 - (lg_sl ([jR G l0, vI l1])).length) Slot.unset).toArray = ls at hl ⊢
  have hl : lv_has ls 6 [(0, jR G l0), (1, vI l1)] := hl
  exact w_X5_readF C hF0 hL0 Hr_X5_readE Hr_X5_readT Hr_X5_readF hFd hLd M l0 l1 h0 h hO hl
set_option maxHeartbeats 1000000 in
theorem cx_fx_rd (l : Launch) : ∀ d : Nat, (∀ (G : jG) (M : jM) (a0 a1 : Int) (q : Int × jM), fx_rd d 0 M a0 a1 = some q → jkd a0 = (5, 0) → Met l yX5_readE (Cond.code yX5_readE cX5_readE 5 (some .long) :: wsL_law) ({ frames := 20 + d, cells := 0, slots := 0, locals := 2800 + 80 * d } : Room) (va_Pc [jR G a0, vI a1] (fun U => jRep G M U)) (jQ G (some (vL q.1)) q.2) 0 0 (jA G)) ∧ (∀ (G : jG) (M : jM) (a0 a1 : Int) (q : Int × jM), fx_rd d 1 M a0 a1 = some q → jkd a0 = (5, 0) → Met l yX5_readT (Cond.code yX5_readT cX5_readT 5 (some .long) :: wsL_law) ({ frames := 20 + d, cells := 0, slots := 0, locals := 2800 + 80 * d } : Room) (va_Pc [jR G a0, vI a1] (fun U => jRep G M U)) (jQ G (some (vL q.1)) q.2) 0 0 (jA G)) ∧ (∀ (G : jG) (M : jM) (a0 a1 : Int) (q : Int × jM), fx_rd d 2 M a0 a1 = some q → jkd a0 = (5, 0) → Met l yX5_readF (Cond.code yX5_readF cX5_readF 6 (some .long) :: wsL_law) ({ frames := 20 + d, cells := 0, slots := 0, locals := 2800 + 80 * d } : Room) (va_Pc [jR G a0, vI a1] (fun U => jRep G M U)) (jQ G (some (vL q.1)) q.2) 0 0 (jA G)) := by
  intro d
  induction d with
  | zero => exact ⟨(fun _ _ _ _  _ h => by cases h), (fun _ _ _ _  _ h => by cases h), (fun _ _ _ _  _ h => by cases h)⟩
  | succ d ih =>
    obtain ⟨ih0, ih1, ih2⟩ := ih
    exact ⟨(fun G M a0 a1 q h h0 => cb_X5_readE l G (Fd := 20 + d) (Ld := 2800 + 80 * d) (F0 := 20 + (d + 1)) (L0 := 2800 + 80 * (d + 1)) (by omega) (by omega) (fx_rd d 0) (fx_rd d 1) (fx_rd d 2) ih0 ih1 ih2 (by omega) (by omega) M a0 a1 h0 h),
      (fun G M a0 a1 q h h0 => cb_X5_readT l G (Fd := 20 + d) (Ld := 2800 + 80 * d) (F0 := 20 + (d + 1)) (L0 := 2800 + 80 * (d + 1)) (by omega) (by omega) (fx_rd d 0) (fx_rd d 1) (fx_rd d 2) ih0 ih1 ih2 (by omega) (by omega) M a0 a1 h0 h),
      (fun G M a0 a1 q h h0 => cb_X5_readF l G (Fd := 20 + d) (Ld := 2800 + 80 * d) (F0 := 20 + (d + 1)) (L0 := 2800 + 80 * (d + 1)) (by omega) (by omega) (fx_rd d 0) (fx_rd d 1) (fx_rd d 2) ih0 ih1 ih2 (by omega) (by omega) M a0 a1 h0 h)⟩
theorem ct_X5_readE (l : Launch) (G : jG) (M : jM) (a0 a1 : Int) (h0 : jkd a0 = (5, 0)) {q : Int × jM} (h : ft_X5_readE M a0 a1 = some q) : Met l yX5_readE (Cond.code yX5_readE cX5_readE 5 (some .long) :: wsL_law) ({ frames := 60, cells := 0, slots := 0, locals := 6000 } : Room) (va_Pc [jR G a0, vI a1] (fun U => jRep G M U)) (jQ G (some (vL q.1)) q.2) 0 0 (jA G) := (cx_fx_rd l 40).1 G M a0 a1 q h h0
theorem ct_X5_readT (l : Launch) (G : jG) (M : jM) (a0 a1 : Int) (h0 : jkd a0 = (5, 0)) {q : Int × jM} (h : ft_X5_readT M a0 a1 = some q) : Met l yX5_readT (Cond.code yX5_readT cX5_readT 5 (some .long) :: wsL_law) ({ frames := 60, cells := 0, slots := 0, locals := 6000 } : Room) (va_Pc [jR G a0, vI a1] (fun U => jRep G M U)) (jQ G (some (vL q.1)) q.2) 0 0 (jA G) := (cx_fx_rd l 40).2.1 G M a0 a1 q h h0
theorem ct_X5_readF (l : Launch) (G : jG) (M : jM) (a0 a1 : Int) (h0 : jkd a0 = (5, 0)) {q : Int × jM} (h : ft_X5_readF M a0 a1 = some q) : Met l yX5_readF (Cond.code yX5_readF cX5_readF 6 (some .long) :: wsL_law) ({ frames := 60, cells := 0, slots := 0, locals := 6000 } : Room) (va_Pc [jR G a0, vI a1] (fun U => jRep G M U)) (jQ G (some (vL q.1)) q.2) 0 0 (jA G) := (cx_fx_rd l 40).2.2 G M a0 a1 q h h0
set_option maxHeartbeats 4000000 in
theorem w_X5_readClause_73 {p : Program} {l : Launch} {e : Env} {R : Room} {s : State} {m : MethodId} {args : Array Value} {below : List Frame} {meth : Method} {c : Code} {H : Heap} {locs : List Loc} {ls : Array Slot} {G : jG}  (C : jCx p s m args meth c cX5_readClause 3 RX5 (Cond.code yX5_readClause cX5_readClause 3 none) none) (hRf : 61 ≤ R.frames) (hRl : 6024 ≤ R.locals)  (M : jM) (s0 s1 : Int) (g0 : jkd s0 = (7, 0)) {fin : jM} (hf : f_X5_readClause_73 M s0 s1 = some fin) (hO : jOk G M s H locs) (hl : lv_has ls 3 []) : W p l e R s m args below meth c H locs 0 0 (MQ below (jQ G none fin) args s 0 0 (jA G)) (F0 m 73 ls [vI s1, jR G s0]) := by
  unfold f_X5_readClause_73 at hf
  obtain ⟨M17, hM17, hf⟩ := lt1_e hf
  refine j_put C hO (ci := 7) (k := 0) (x := s1) g0 rfl inlX7 tyX7_ok nmX7 (by decide) kF_8_3 rfl rfl rfl rfl (by simp [jfl]) (fs_7_0) dX5_readClause_73 (fun H locs hO => ?_)
  rw [← hM17] at hO
  refine lv_goto (tgt := 122) C.1 C.2.1 dX5_readClause_76 (by decide) ?_
  have hf := som_e hf
  subst hf
  exact j_vret C hO dX5_readClause_122
set_option maxHeartbeats 4000000 in
theorem w_X5_readClause {p : Program} {l : Launch} {e : Env} {R : Room} {s : State} {m : MethodId} {args : Array Value} {below : List Frame} {meth : Method} {c : Code} {H : Heap} {locs : List Loc} {ls : Array Slot} {G : jG}  (C : jCx p s m args meth c cX5_readClause 3 RX5 (Cond.code yX5_readClause cX5_readClause 3 none) none) (hRf : 61 ≤ R.frames) (hRl : 6024 ≤ R.locals)  (M : jM) (l0 : Int) (h0 : jkd l0 = (5, 0)) {fin : jM} (hf : f_X5_readClause M l0 = some fin) (hO : jOk G M s H locs) (hl : lv_has ls 3 [(0, jR G l0)]) : W p l e R s m args below meth c H locs 0 0 (MQ below (jQ G none fin) args s 0 0 (jA G)) (F0 m 0 ls []) := by
  unfold f_X5_readClause at hf
  refine lv_aload_n C.1 C.2.1 dX5_readClause_0 rfl (lv_at hl 0 rfl) ?_
  obtain ⟨r1, hr1, hf⟩ := bnd_e hf
  refine j_callV C hO (n := 0) (As := []) (st1 := [vI r1]) (c_X5_next l G M l0 h0 hr1) h0 rfl kC_8_9 kM_8_6 kI_8_7 kS_8_8 kN_2_0 ⟨by decide, by decide, by decide⟩ ⟨Nat.le_trans (by decide) hRf, Nat.le_trans (by decide) hRl⟩ rfl rfl rfl hl.1 rfl (Nat.le_of_ble_eq_true rfl) ⟨Nat.zero_le _, Nat.zero_le _⟩ dX5_readClause_1 rfl (fun H locs hO => ?_)
  refine lv_istore_n (lv' := [(1, vI r1), (0, jR G l0)]) C.1 C.2.1 dX5_readClause_4 rfl hl (by decide) rfl (fun ls hl => ?_)
  refine lv_iload_n C.1 C.2.1 dX5_readClause_5 rfl (lv_at hl 0 rfl) ?_
  refine lv_bipush (v := Int32.ofInt 104) C.1 C.2.1 dX5_readClause_6 (by decide) ?_
  refine j_icmp_ne (tgt := 44) C rfl (w32_id (by decide) (by decide)) dX5_readClause_8 (by decide) (fun c2 => ?_) (fun c2 => ?_)
  · have hf := (if_neg c2).symm.trans hf
    refine lv_iload_n C.1 C.2.1 dX5_readClause_44 rfl (lv_at hl 0 rfl) ?_
    refine lv_bipush (v := Int32.ofInt 115) C.1 C.2.1 dX5_readClause_45 (by decide) ?_
    refine j_icmp_ne (tgt := 79) C rfl (w32_id (by decide) (by decide)) dX5_readClause_47 (by decide) (fun c3 => ?_) (fun c3 => ?_)
    · have hf := (if_neg c3).symm.trans hf
      refine lv_iload_n C.1 C.2.1 dX5_readClause_79 rfl (lv_at hl 0 rfl) ?_
      refine lv_bipush (v := Int32.ofInt 102) C.1 C.2.1 dX5_readClause_80 (by decide) ?_
      refine j_icmp_ne (tgt := 105) C rfl (w32_id (by decide) (by decide)) dX5_readClause_82 (by decide) (fun c4 => ?_) (fun c4 => ?_)
      · have hf := (if_neg c4).symm.trans hf
        refine lv_aload_n C.1 C.2.1 dX5_readClause_105 rfl (lv_at hl 1 rfl) ?_
        refine j_ldcS (x := 3) C hO (tx := "prize ") (by decide) dX5_readClause_106 ?_
        obtain ⟨r5, hr5, hf⟩ := bnd_e hf
        refine j_callV C hO (n := 1) (As := [jS G 3]) (st1 := []) (c_X5_readWord l G M l0 3 h0 (⟨by decide, by decide⟩ : (0 : Int) ≤ 3 ∧ (3 : Int) < 6) hr5) h0 rfl kC_8_13 kM_8_10 kI_8_11 kS_8_12 kN_2_0 ⟨by decide, by decide, by decide⟩ ⟨Nat.le_trans (by decide) hRf, Nat.le_trans (by decide) hRl⟩ rfl rfl rfl hl.1 rfl (Nat.le_of_ble_eq_true rfl) ⟨Nat.zero_le _, Nat.zero_le _⟩ dX5_readClause_108 rfl (fun H locs hO => ?_)
        refine lv_aload_n C.1 C.2.1 dX5_readClause_111 rfl (lv_at hl 1 rfl) ?_
        obtain ⟨g6, hf⟩ := grd_e hf
        refine j_get C hO (ci := 5) (k := 4) (v := jN G (r5 l0 4)) h0 rfl inlX5 (by decide) kF_7_21 rfl rfl dX5_readClause_112 ?_
        rw [jN_p (jkd_in g6 (by decide)).1]
        refine lv_aload_n C.1 C.2.1 dX5_readClause_115 rfl (lv_at hl 1 rfl) ?_
        obtain ⟨r7, hr7, hf⟩ := bnd_e hf
        refine j_callV C hO (n := 0) (As := []) (st1 := [vI r7.1, jR G (r5 l0 4)]) (c_X5_readNumber l G r5 l0 h0 hr7) h0 rfl kC_10_22 kM_10_19 kI_10_20 kS_10_21 kN_2_0 ⟨by decide, by decide, by decide⟩ ⟨Nat.le_trans (by decide) hRf, Nat.le_trans (by decide) hRl⟩ rfl rfl rfl hl.1 rfl (Nat.le_of_ble_eq_true rfl) ⟨Nat.zero_le _, Nat.zero_le _⟩ dX5_readClause_116 rfl (fun H locs hO => ?_)
        obtain ⟨M8, hM8, hf⟩ := lt1_e hf
        refine j_put C hO (ci := 7) (k := 2) (x := r7.1) g6 rfl inlX7 tyX7_ok nmX7 (by decide) kF_8_5 rfl rfl rfl rfl (by simp [jfl]) (fs_7_2) dX5_readClause_119 (fun H locs hO => ?_)
        rw [← hM8] at hO
        have hf := som_e hf
        subst hf
        exact j_vret C hO dX5_readClause_122
      · have hf := (if_pos c4).symm.trans hf
        refine lv_aload_n C.1 C.2.1 dX5_readClause_85 rfl (lv_at hl 1 rfl) ?_
        refine j_ldcS (x := 2) C hO (tx := "fee ") (by decide) dX5_readClause_86 ?_
        obtain ⟨r9, hr9, hf⟩ := bnd_e hf
        refine j_callV C hO (n := 1) (As := [jS G 2]) (st1 := []) (c_X5_readWord l G M l0 2 h0 (⟨by decide, by decide⟩ : (0 : Int) ≤ 2 ∧ (2 : Int) < 6) hr9) h0 rfl kC_8_13 kM_8_10 kI_8_11 kS_8_12 kN_2_0 ⟨by decide, by decide, by decide⟩ ⟨Nat.le_trans (by decide) hRf, Nat.le_trans (by decide) hRl⟩ rfl rfl rfl hl.1 rfl (Nat.le_of_ble_eq_true rfl) ⟨Nat.zero_le _, Nat.zero_le _⟩ dX5_readClause_88 rfl (fun H locs hO => ?_)
        refine lv_aload_n C.1 C.2.1 dX5_readClause_91 rfl (lv_at hl 1 rfl) ?_
        obtain ⟨g10, hf⟩ := grd_e hf
        refine j_get C hO (ci := 5) (k := 4) (v := jN G (r9 l0 4)) h0 rfl inlX5 (by decide) kF_7_21 rfl rfl dX5_readClause_92 ?_
        rw [jN_p (jkd_in g10 (by decide)).1]
        refine lv_aload_n C.1 C.2.1 dX5_readClause_95 rfl (lv_at hl 1 rfl) ?_
        obtain ⟨r11, hr11, hf⟩ := bnd_e hf
        refine j_callV C hO (n := 0) (As := []) (st1 := [vI r11.1, jR G (r9 l0 4)]) (c_X5_readNumber l G r9 l0 h0 hr11) h0 rfl kC_10_22 kM_10_19 kI_10_20 kS_10_21 kN_2_0 ⟨by decide, by decide, by decide⟩ ⟨Nat.le_trans (by decide) hRf, Nat.le_trans (by decide) hRl⟩ rfl rfl rfl hl.1 rfl (Nat.le_of_ble_eq_true rfl) ⟨Nat.zero_le _, Nat.zero_le _⟩ dX5_readClause_96 rfl (fun H locs hO => ?_)
        obtain ⟨M12, hM12, hf⟩ := lt1_e hf
        refine j_put C hO (ci := 7) (k := 1) (x := r11.1) g10 rfl inlX7 tyX7_ok nmX7 (by decide) kF_8_4 rfl rfl rfl rfl (by simp [jfl]) (fs_7_1) dX5_readClause_99 (fun H locs hO => ?_)
        rw [← hM12] at hO
        refine lv_goto (tgt := 122) C.1 C.2.1 dX5_readClause_102 (by decide) ?_
        have hf := som_e hf
        subst hf
        exact j_vret C hO dX5_readClause_122
    · have hf := (if_pos c3).symm.trans hf
      refine lv_aload_n C.1 C.2.1 dX5_readClause_50 rfl (lv_at hl 1 rfl) ?_
      refine j_ldcS (x := 1) C hO (tx := "signs ") (by decide) dX5_readClause_51 ?_
      obtain ⟨r13, hr13, hf⟩ := bnd_e hf
      refine j_callV C hO (n := 1) (As := [jS G 1]) (st1 := []) (c_X5_readWord l G M l0 1 h0 (⟨by decide, by decide⟩ : (0 : Int) ≤ 1 ∧ (1 : Int) < 6) hr13) h0 rfl kC_8_13 kM_8_10 kI_8_11 kS_8_12 kN_2_0 ⟨by decide, by decide, by decide⟩ ⟨Nat.le_trans (by decide) hRf, Nat.le_trans (by decide) hRl⟩ rfl rfl rfl hl.1 rfl (Nat.le_of_ble_eq_true rfl) ⟨Nat.zero_le _, Nat.zero_le _⟩ dX5_readClause_53 rfl (fun H locs hO => ?_)
      refine lv_aload_n C.1 C.2.1 dX5_readClause_56 rfl (lv_at hl 1 rfl) ?_
      obtain ⟨g14, hf⟩ := grd_e hf
      refine j_get C hO (ci := 5) (k := 4) (v := jN G (r13 l0 4)) h0 rfl inlX5 (by decide) kF_7_21 rfl rfl dX5_readClause_57 ?_
      rw [jN_p (jkd_in g14 (by decide)).1]
      refine lv_aload_n C.1 C.2.1 dX5_readClause_60 rfl (lv_at hl 1 rfl) ?_
      obtain ⟨r15, hr15, hf⟩ := bnd_e hf
      refine j_callV C hO (n := 0) (As := []) (st1 := [vI r15.1, jR G (r13 l0 4)]) (c_X5_readNumber l G r13 l0 h0 hr15) h0 rfl kC_10_22 kM_10_19 kI_10_20 kS_10_21 kN_2_0 ⟨by decide, by decide, by decide⟩ ⟨Nat.le_trans (by decide) hRf, Nat.le_trans (by decide) hRl⟩ rfl rfl rfl hl.1 rfl (Nat.le_of_ble_eq_true rfl) ⟨Nat.zero_le _, Nat.zero_le _⟩ dX5_readClause_61 rfl (fun H locs hO => ?_)
      refine lv_iconst (v := Int32.ofInt 2) C.1 C.2.1 dX5_readClause_64 rfl ?_
      refine j_icmp_le (tgt := 72) C rfl (w32_id (by decide) (by decide)) dX5_readClause_65 (by decide) (fun c16 => ?_) (fun c16 => ?_)
      · have hf := (if_pos c16).symm.trans hf
        refine lv_iconst (v := Int32.ofInt 2) C.1 C.2.1 dX5_readClause_72 rfl ?_
        exact w_X5_readClause_73 C hRf hRl r15.2 (r13 l0 4) 2 g14 hf hO (lv_sub hl [] rfl)
      · have hf := (if_neg c16).symm.trans hf
        refine lv_iconst (v := Int32.ofInt 3) C.1 C.2.1 dX5_readClause_68 rfl ?_
        refine lv_goto (tgt := 73) C.1 C.2.1 dX5_readClause_69 (by decide) ?_
        exact w_X5_readClause_73 C hRf hRl r15.2 (r13 l0 4) 3 g14 hf hO (lv_sub hl [] rfl)
  · have hf := (if_pos c2).symm.trans hf
    refine lv_aload_n C.1 C.2.1 dX5_readClause_11 rfl (lv_at hl 1 rfl) ?_
    refine j_ldcS (x := 0) C hO (tx := "heavy ") (by decide) dX5_readClause_12 ?_
    obtain ⟨r18, hr18, hf⟩ := bnd_e hf
    refine j_callV C hO (n := 1) (As := [jS G 0]) (st1 := []) (c_X5_readWord l G M l0 0 h0 (⟨by decide, by decide⟩ : (0 : Int) ≤ 0 ∧ (0 : Int) < 6) hr18) h0 rfl kC_8_13 kM_8_10 kI_8_11 kS_8_12 kN_2_0 ⟨by decide, by decide, by decide⟩ ⟨Nat.le_trans (by decide) hRf, Nat.le_trans (by decide) hRl⟩ rfl rfl rfl hl.1 rfl (Nat.le_of_ble_eq_true rfl) ⟨Nat.zero_le _, Nat.zero_le _⟩ dX5_readClause_14 rfl (fun H locs hO => ?_)
    refine lv_aload_n C.1 C.2.1 dX5_readClause_17 rfl (lv_at hl 1 rfl) ?_
    obtain ⟨r19, hr19, hf⟩ := bnd_e hf
    refine j_callV C hO (n := 0) (As := []) (st1 := [vI r19.1]) (c_X5_readNumber l G r18 l0 h0 hr19) h0 rfl kC_10_22 kM_10_19 kI_10_20 kS_10_21 kN_2_0 ⟨by decide, by decide, by decide⟩ ⟨Nat.le_trans (by decide) hRf, Nat.le_trans (by decide) hRl⟩ rfl rfl rfl hl.1 rfl (Nat.le_of_ble_eq_true rfl) ⟨Nat.zero_le _, Nat.zero_le _⟩ dX5_readClause_18 rfl (fun H locs hO => ?_)
    refine lv_istore_n (lv' := [(2, vI r19.1), (1, vI r1), (0, jR G l0)]) C.1 C.2.1 dX5_readClause_21 rfl hl (by decide) rfl (fun ls hl => ?_)
    refine lv_aload_n C.1 C.2.1 dX5_readClause_22 rfl (lv_at hl 2 rfl) ?_
    refine lv_bipush (v := Int32.ofInt 32) C.1 C.2.1 dX5_readClause_23 (by decide) ?_
    obtain ⟨r20, hr20, hf⟩ := bnd_e hf
    refine j_callV C hO (n := 1) (As := [vI 32]) (st1 := []) (c_X5_take l G r19.2 l0 32 h0 hr20) h0 rfl kC_10_18 kM_10_15 kI_10_16 kS_10_17 kN_2_0 ⟨by decide, by decide, by decide⟩ ⟨Nat.le_trans (by decide) hRf, Nat.le_trans (by decide) hRl⟩ rfl rfl rfl hl.1 rfl (Nat.le_of_ble_eq_true rfl) ⟨Nat.zero_le _, Nat.zero_le _⟩ dX5_readClause_25 rfl (fun H locs hO => ?_)
    refine lv_aload_n C.1 C.2.1 dX5_readClause_28 rfl (lv_at hl 2 rfl) ?_
    obtain ⟨g21, hf⟩ := grd_e hf
    refine j_get C hO (ci := 5) (k := 4) (v := jN G (r20 l0 4)) h0 rfl inlX5 (by decide) kF_7_21 rfl rfl dX5_readClause_29 ?_
    rw [jN_p (jkd_in g21 (by decide)).1]
    refine lv_iload_n C.1 C.2.1 dX5_readClause_32 rfl (lv_at hl 0 rfl) ?_
    refine lv_aload_n C.1 C.2.1 dX5_readClause_33 rfl (lv_at hl 2 rfl) ?_
    refine lv_iconst (v := Int32.ofInt 0) C.1 C.2.1 dX5_readClause_34 rfl ?_
    obtain ⟨r22, hr22, hf⟩ := bnd_e hf
    refine j_callV C hO (n := 1) (As := [vI 0]) (st1 := [vL r22.1, vI r19.1, jR G (r20 l0 4)]) (ct_X5_readE l G r20 l0 0 h0 hr22) h0 rfl kC_11_2 kM_10_23 kI_11_0 kS_11_1 kN_2_0 ⟨by decide, by decide, by decide⟩ ⟨Nat.le_trans (by decide) hRf, Nat.le_trans (by decide) hRl⟩ rfl rfl rfl hl.1 rfl (Nat.le_of_ble_eq_true rfl) ⟨Nat.zero_le _, Nat.zero_le _⟩ dX5_readClause_35 rfl (fun H locs hO => ?_)
    obtain ⟨r23, hr23, hf⟩ := bnd_e hf
    refine j_callV C hO (n := 2) (As := [vI r19.1, vL r22.1]) (st1 := []) (c_X7_addHeavy l G r22.2 (r20 l0 4) r19.1 r22.1 g21 hr23) g21 rfl kC_12_4 kM_12_1 kI_12_2 kS_12_3 kN_1_20 ⟨by decide, by decide, by decide⟩ ⟨Nat.le_trans (by decide) hRf, Nat.le_trans (by decide) hRl⟩ rfl rfl rfl hl.1 rfl (Nat.le_of_ble_eq_true rfl) ⟨Nat.zero_le _, Nat.zero_le _⟩ dX5_readClause_38 rfl (fun H locs hO => ?_)
    refine lv_goto (tgt := 122) C.1 C.2.1 dX5_readClause_41 (by decide) ?_
    have hf := som_e hf
    subst hf
    exact j_vret C hO dX5_readClause_122
set_option maxHeartbeats 1000000 in
theorem c_X5_readClause (l : Launch) (G : jG)  (M : jM) (l0 : Int) (h0 : jkd l0 = (5, 0)) {fin : jM} (h : f_X5_readClause M l0 = some fin) : Met l yX5_readClause (Cond.code yX5_readClause cX5_readClause 3 none :: wsL_law) ({ frames := 61, cells := 0, slots := 0, locals := 6024 } : Room) (va_Pc [jR G l0] (fun U => jRep G M U)) (jQ G none fin) 0 0 (jA G) := by
  refine Met.ofW (cc := cX5_readClause) (maxL := 3) (ret := none) (by decide) rfl ?_
  intro p e s m args below meth c s₁ B hml hv
  obtain ⟨rfl, hR0⟩ := hv
  have C : jCx p s m ([jR G l0] : List Value).toArray meth c cX5_readClause 3 RX5 (Cond.code yX5_readClause cX5_readClause 3 none) none := ⟨B.exec, B.bytes, hml, findClass_of_methodNamed B.named, atoms_spec B.pre, B.returns, B.notSynchronized⟩
  have hO := hR0.ok
  have hl := lv_entry ([jR G l0]) (n := 3) (Nat.le_of_ble_eq_true rfl)
  rw [lg_entry_eq]
  generalize (lg_sl ([jR G l0]) ++ List.replicate (3 - (lg_sl ([jR G l0])).length) Slot.unset).toArray = ls at hl ⊢
  have hl : lv_has ls 3 [(0, jR G l0)] := hl
  exact w_X5_readClause C (Nat.le_refl _) (Nat.le_refl _) M l0 h0 h hO hl
set_option maxHeartbeats 4000000 in
theorem w_X5_read_L40 {p : Program} {l : Launch} {e : Env} {R : Room} {s : State} {m : MethodId} {args : Array Value} {below : List Frame} {meth : Method} {c : Code} {H : Heap} {locs : List Loc} {ls : Array Slot} {G : jG}  (C : jCx p s m args meth c cX5_read 5 RX5 (Cond.code yX5_read cX5_read 5 (some .int)) (some .int)) (hRf : 62 ≤ R.frames) (hRl : 6046 ≤ R.locals)  (M : jM) (l0 : Int) (h0 : jkd l0 = (5, 0)) {fin : Int × jM} (S : jM × Int) {rr : (jM × Int) ⊕ (jM ⊕ jM ⊕ jM ⊕ jM)} (hf : f_X5_read_L40 M l0 S = some rr) (kc : ∀ q : jM × Int, rr = .inl q → ∀ (H : Heap) (locs : List Loc) (ls : Array Slot), jOk G q.1 s H locs → lv_has ls 5 [(0, jR G l0), (4, vI q.2)] → W p l e R s m args below meth c H locs 0 0 (MQ below (jQ G (some (vI fin.1)) fin.2) args s 0 0 (jA G)) (F0 m 40 ls [])) (kx0 : ∀ q : jM, rr = .inr (.inl q) → ∀ (H : Heap) (locs : List Loc) (ls : Array Slot), jOk G q s H locs → lv_has ls 5 [(0, jR G l0)] → W p l e R s m args below meth c H locs 0 0 (MQ below (jQ G (some (vI fin.1)) fin.2) args s 0 0 (jA G)) (F0 m 113 ls [])) (kx1 : ∀ q : jM, rr = .inr (.inr (.inl q)) → ∀ (H : Heap) (locs : List Loc) (ls : Array Slot), jOk G q s H locs → lv_has ls 5 [(0, jR G l0)] → W p l e R s m args below meth c H locs 0 0 (MQ below (jQ G (some (vI fin.1)) fin.2) args s 0 0 (jA G)) (F0 m 58 ls [])) (kx2 : ∀ q : jM, rr = .inr (.inr (.inr (.inl q))) → ∀ (H : Heap) (locs : List Loc) (ls : Array Slot), jOk G q s H locs → lv_has ls 5 [] → W p l e R s m args below meth c H locs 0 0 (MQ below (jQ G (some (vI fin.1)) fin.2) args s 0 0 (jA G)) (F0 m 74 ls [])) (kx3 : ∀ q : jM, rr = .inr (.inr (.inr (.inr q))) → ∀ (H : Heap) (locs : List Loc) (ls : Array Slot), jOk G q s H locs → lv_has ls 5 [(0, jR G l0)] → W p l e R s m args below meth c H locs 0 0 (MQ below (jQ G (some (vI fin.1)) fin.2) args s 0 0 (jA G)) (F0 m 92 ls [])) (hO : jOk G S.1 s H locs) (hl : lv_has ls 5 [(0, jR G l0), (4, vI S.2)]) : W p l e R s m args below meth c H locs 0 0 (MQ below (jQ G (some (vI fin.1)) fin.2) args s 0 0 (jA G)) (F0 m 40 ls []) := by
  unfold f_X5_read_L40 at hf
  refine lv_iload C.1 C.2.1 dX5_read_40 (lv_at hl 1 rfl) ?_
  refine lv_bipush (v := Int32.ofInt 10) C.1 C.2.1 dX5_read_42 (by decide) ?_
  refine j_icmp_gt (tgt := 113) C rfl (w32_id (by decide) (by decide)) dX5_read_44 (by decide) (fun c8 => ?_) (fun c8 => ?_)
  · have hf := (if_pos c8).symm.trans hf
    exact kx0 _ (som_e hf).symm _ _ _ hO (lv_sub hl [0] rfl)
  · have hf := (if_neg c8).symm.trans hf
    refine lv_aload_n C.1 C.2.1 dX5_read_47 rfl (lv_at hl 0 rfl) ?_
    obtain ⟨r9, hr9, hf⟩ := bnd_e hf
    refine j_callV C hO (n := 0) (As := []) (st1 := []) (c_X5_readClause l G S.1 l0 h0 hr9) h0 rfl kC_8_2 kM_7_23 kI_8_0 kS_8_1 kN_2_0 ⟨by decide, by decide, by decide⟩ ⟨Nat.le_trans (by decide) hRf, Nat.le_trans (by decide) hRl⟩ rfl rfl rfl hl.1 rfl (Nat.le_of_ble_eq_true rfl) ⟨Nat.zero_le _, Nat.zero_le _⟩ dX5_read_48 rfl (fun H locs hO => ?_)
    refine lv_aload_n C.1 C.2.1 dX5_read_51 rfl (lv_at hl 0 rfl) ?_
    refine j_get C hO (ci := 5) (k := 3) (v := vI (r9 l0 3)) h0 rfl inlX5 (by decide) kF_7_20 rfl rfl dX5_read_52 ?_
    refine j_if_eq (tgt := 63) C rfl dX5_read_55 (by decide) (fun c10 => ?_) (fun c10 => ?_)
    · have hf := (if_pos c10).symm.trans hf
      refine lv_aload_n C.1 C.2.1 dX5_read_63 rfl (lv_at hl 0 rfl) ?_
      refine j_get C hO (ci := 5) (k := 2) (v := vI (r9 l0 2)) h0 rfl inlX5 (by decide) kF_7_19 rfl rfl dX5_read_64 ?_
      refine lv_aload_n C.1 C.2.1 dX5_read_67 rfl (lv_at hl 0 rfl) ?_
      refine j_get C hO (ci := 5) (k := 1) (v := vI (r9 l0 1)) h0 rfl inlX5 (by decide) kF_7_18 rfl rfl dX5_read_68 ?_
      refine j_icmp_ne (tgt := 76) C rfl rfl dX5_read_71 (by decide) (fun c11 => ?_) (fun c11 => ?_)
      · have hf := (if_neg c11).symm.trans hf
        refine lv_iload C.1 C.2.1 dX5_read_76 (lv_at hl 1 rfl) ?_
        refine lv_bipush (v := Int32.ofInt 10) C.1 C.2.1 dX5_read_78 (by decide) ?_
        refine j_icmp_eq (tgt := 92) C rfl (w32_id (by decide) (by decide)) dX5_read_80 (by decide) (fun c12 => ?_) (fun c12 => ?_)
        · have hf := (if_pos c12).symm.trans hf
          exact kx3 _ (som_e hf).symm _ _ _ hO (lv_sub hl [0] rfl)
        · have hf := (if_neg c12).symm.trans hf
          refine lv_aload_n C.1 C.2.1 dX5_read_83 rfl (lv_at hl 0 rfl) ?_
          obtain ⟨r13, hr13, hf⟩ := bnd_e hf
          refine j_callV C hO (n := 0) (As := []) (st1 := [vI r13]) (c_X5_next l G r9 l0 h0 hr13) h0 rfl kC_8_9 kM_8_6 kI_8_7 kS_8_8 kN_2_0 ⟨by decide, by decide, by decide⟩ ⟨Nat.le_trans (by decide) hRf, Nat.le_trans (by decide) hRl⟩ rfl rfl rfl hl.1 rfl (Nat.le_of_ble_eq_true rfl) ⟨Nat.zero_le _, Nat.zero_le _⟩ dX5_read_84 rfl (fun H locs hO => ?_)
          refine lv_bipush (v := Int32.ofInt 59) C.1 C.2.1 dX5_read_87 (by decide) ?_
          refine j_icmp_eq (tgt := 97) C rfl (w32_id (by decide) (by decide)) dX5_read_89 (by decide) (fun c14 => ?_) (fun c14 => ?_)
          · have hf := (if_pos c14).symm.trans hf
            refine lv_aload_n C.1 C.2.1 dX5_read_97 rfl (lv_at hl 0 rfl) ?_
            refine lv_dup C.1 C.2.1 dX5_read_98 rfl ?_
            refine j_get C hO (ci := 5) (k := 2) (v := vI (r9 l0 2)) h0 rfl inlX5 (by decide) kF_7_19 rfl rfl dX5_read_99 ?_
            refine lv_iconst (v := Int32.ofInt 1) C.1 C.2.1 dX5_read_102 rfl ?_
            refine j_iadd C dX5_read_103 ?_
            obtain ⟨M15, hM15, hf⟩ := lt1_e hf
            refine j_put C hO (ci := 5) (k := 2) (x := (r9 l0 2) + 1) h0 rfl inlX5 tyX5_ok nmX5 (by decide) kF_7_19 rfl rfl rfl rfl (by simp [jfl]) (fs_5_2) dX5_read_104 (fun H locs hO => ?_)
            rw [← hM15] at hO
            refine lv_iinc (v := Int32.ofInt (S.2 + 1)) (lv' := [(4, vI (S.2 + 1)), (0, jR G l0)]) C.1 C.2.1 dX5_read_107 hl (k := 1) rfl (Int32.ofInt_add _ _).symm (by decide) rfl (fun ls hl => ?_)
            refine lv_goto (tgt := 40) C.1 C.2.1 dX5_read_110 (by decide) ?_
            exact kc _ (som_e hf).symm _ _ _ hO (lv_sub hl [1, 0] rfl)
          · have hf := (if_neg c14).symm.trans hf
            exact kx3 _ (som_e hf).symm _ _ _ hO (lv_sub hl [0] rfl)
      · have hf := (if_pos c11).symm.trans hf
        exact kx2 _ (som_e hf).symm _ _ _ hO (lv_sub hl [] rfl)
    · have hf := (if_neg c10).symm.trans hf
      exact kx1 _ (som_e hf).symm _ _ _ hO (lv_sub hl [0] rfl)
set_option maxHeartbeats 4000000 in
theorem w_X5_read {p : Program} {l : Launch} {e : Env} {R : Room} {s : State} {m : MethodId} {args : Array Value} {below : List Frame} {meth : Method} {c : Code} {H : Heap} {locs : List Loc} {ls : Array Slot} {G : jG}  (C : jCx p s m args meth c cX5_read 5 RX5 (Cond.code yX5_read cX5_read 5 (some .int)) (some .int)) (hRf : 62 ≤ R.frames) (hRl : 6046 ≤ R.locals)  (M : jM) (l0 l1 l2 l3 : Int) (h0 : jkd l0 = (5, 0)) (h1 : jkd l1 = (11, 100)) (h3 : jkd l3 = (7, 0)) {fin : Int × jM} (hf : f_X5_read M l0 l1 l2 l3 = some fin) (hO : jOk G M s H locs) (hl : lv_has ls 5 [(0, jR G l0), (1, jR G l1), (2, vI l2), (3, jR G l3)]) : W p l e R s m args below meth c H locs 0 0 (MQ below (jQ G (some (vI fin.1)) fin.2) args s 0 0 (jA G)) (F0 m 0 ls []) := by
  unfold f_X5_read at hf
  refine lv_aload_n C.1 C.2.1 dX5_read_0 rfl (lv_at hl 0 rfl) ?_
  refine lv_aload_n C.1 C.2.1 dX5_read_1 rfl (lv_at hl 1 rfl) ?_
  obtain ⟨M1, hM1, hf⟩ := lt1_e hf
  refine j_put C hO (ci := 5) (k := 0) (x := l1) h0 rfl inlX5 tyX5_ok nmX5 (by decide) kF_7_13 rfl rfl rfl rfl (by simp [jfl]) (fs_5_0 (jkd_in h1 (by decide)).1) dX5_read_2 (fun H locs hO => ?_)
  rw [← hM1] at hO
  refine lv_aload_n C.1 C.2.1 dX5_read_5 rfl (lv_at hl 0 rfl) ?_
  refine lv_iload_n C.1 C.2.1 dX5_read_6 rfl (lv_at hl 2 rfl) ?_
  refine lv_aload_n C.1 C.2.1 dX5_read_7 rfl (lv_at hl 1 rfl) ?_
  refine j_alen_i C hO h1 dX5_read_8 ?_
  refine j_mmin C kM_7_14 kT_7_15 kN_7_16 kC_7_17 hl.1 (Nat.le_trans (by decide) hRf) (Nat.le_trans (by decide) hRl) ⟨Nat.zero_le _, Nat.zero_le _⟩ (Nat.le_of_ble_eq_true rfl) dX5_read_9 ?_
  obtain ⟨M2, hM2, hf⟩ := lt1_e hf
  refine j_put C hO (ci := 5) (k := 1) (x := (min (w32 l2) (w32 100))) h0 rfl inlX5 tyX5_ok nmX5 (by decide) kF_7_18 rfl rfl rfl rfl (by simp [jfl]) (fs_5_1) dX5_read_12 (fun H locs hO => ?_)
  rw [← hM2] at hO
  refine lv_aload_n C.1 C.2.1 dX5_read_15 rfl (lv_at hl 0 rfl) ?_
  refine lv_iconst (v := Int32.ofInt 0) C.1 C.2.1 dX5_read_16 rfl ?_
  obtain ⟨M3, hM3, hf⟩ := lt1_e hf
  refine j_put C hO (ci := 5) (k := 2) (x := 0) h0 rfl inlX5 tyX5_ok nmX5 (by decide) kF_7_19 rfl rfl rfl rfl (by simp [jfl]) (fs_5_2) dX5_read_17 (fun H locs hO => ?_)
  rw [← hM3] at hO
  refine lv_aload_n C.1 C.2.1 dX5_read_20 rfl (lv_at hl 0 rfl) ?_
  refine lv_iconst (v := Int32.ofInt 0) C.1 C.2.1 dX5_read_21 rfl ?_
  obtain ⟨M4, hM4, hf⟩ := lt1_e hf
  refine j_put C hO (ci := 5) (k := 3) (x := 0) h0 rfl inlX5 tyX5_ok nmX5 (by decide) kF_7_20 rfl rfl (jz_n (Or.inl rfl)) (jz_f (Or.inl rfl)) (by simp [jfl]) (fs_5_3) dX5_read_22 (fun H locs hO => ?_)
  rw [← hM4] at hO
  refine lv_aload_n C.1 C.2.1 dX5_read_25 rfl (lv_at hl 0 rfl) ?_
  refine lv_aload_n C.1 C.2.1 dX5_read_26 rfl (lv_at hl 3 rfl) ?_
  obtain ⟨M5, hM5, hf⟩ := lt1_e hf
  refine j_put C hO (ci := 5) (k := 4) (x := l3) h0 rfl inlX5 tyX5_ok nmX5 (by decide) kF_7_21 rfl rfl rfl rfl (by simp [jfl]) (fs_5_4 (jkd_in h3 (by decide)).1) dX5_read_27 (fun H locs hO => ?_)
  rw [← hM5] at hO
  refine lv_aload_n C.1 C.2.1 dX5_read_30 rfl (lv_at hl 0 rfl) ?_
  obtain ⟨g6, hf⟩ := grd_e hf
  refine j_get C hO (ci := 5) (k := 4) (v := jN G (M5 l0 4)) h0 rfl inlX5 (by decide) kF_7_21 rfl rfl dX5_read_31 ?_
  rw [jN_p (jkd_in g6 (by decide)).1]
  obtain ⟨r7, hr7, hf⟩ := bnd_e hf
  refine j_callV C hO (n := 0) (As := []) (st1 := []) (c_X7_clear l G M5 (M5 l0 4) g6 hr7) g6 rfl kC_4_1 kM_7_22 kI_3_23 kS_4_0 kN_1_20 ⟨by decide, by decide, by decide⟩ ⟨Nat.le_trans (by decide) hRf, Nat.le_trans (by decide) hRl⟩ rfl rfl rfl hl.1 rfl (Nat.le_of_ble_eq_true rfl) ⟨Nat.zero_le _, Nat.zero_le _⟩ dX5_read_34 rfl (fun H locs hO => ?_)
  refine lv_iconst (v := Int32.ofInt 1) C.1 C.2.1 dX5_read_37 rfl ?_
  refine lv_istore (lv' := [(4, vI 1), (0, jR G l0), (1, jR G l1), (2, vI l2), (3, jR G l3)]) C.1 C.2.1 dX5_read_38 hl (by decide) rfl (fun ls hl => ?_)
  obtain ⟨x16, hx16, hf⟩ := bnd_e hf
  refine iter_e (P := fun Z => ∀ (H : Heap) (locs : List Loc) (ls : Array Slot), jOk G Z.1 s H locs → lv_has ls 5 [(0, jR G l0), (4, vI Z.2)] → W p l e R s m args below meth c H locs 0 0 (MQ below (jQ G (some (vI fin.1)) fin.2) args s 0 0 (jA G)) (F0 m 40 ls [])) (E := fun x => (∀ q : jM, x = (.inl q) → ∀ (H : Heap) (locs : List Loc) (ls : Array Slot), jOk G q s H locs → lv_has ls 5 [(0, jR G l0)] → W p l e R s m args below meth c H locs 0 0 (MQ below (jQ G (some (vI fin.1)) fin.2) args s 0 0 (jA G)) (F0 m 113 ls [])) ∧ (∀ q : jM, x = (.inr (.inl q)) → ∀ (H : Heap) (locs : List Loc) (ls : Array Slot), jOk G q s H locs → lv_has ls 5 [(0, jR G l0)] → W p l e R s m args below meth c H locs 0 0 (MQ below (jQ G (some (vI fin.1)) fin.2) args s 0 0 (jA G)) (F0 m 58 ls [])) ∧ (∀ q : jM, x = (.inr (.inr (.inl q))) → ∀ (H : Heap) (locs : List Loc) (ls : Array Slot), jOk G q s H locs → lv_has ls 5 [] → W p l e R s m args below meth c H locs 0 0 (MQ below (jQ G (some (vI fin.1)) fin.2) args s 0 0 (jA G)) (F0 m 74 ls [])) ∧ (∀ q : jM, x = (.inr (.inr (.inr q))) → ∀ (H : Heap) (locs : List Loc) (ls : Array Slot), jOk G q s H locs → lv_has ls 5 [(0, jR G l0)] → W p l e R s m args below meth c H locs 0 0 (MQ below (jQ G (some (vI fin.1)) fin.2) args s 0 0 (jA G)) (F0 m 92 ls []))) (fun Z rr hb kc kx H locs ls hO hl => w_X5_read_L40 C hRf hRl r7 l0 h0 Z hb kc (fun q e => (kx _ e).1 q rfl) (fun q e => (kx _ e).2.1 q rfl) (fun q e => (kx _ e).2.2.1 q rfl) (fun q e => (kx _ e).2.2.2 q rfl) hO hl) 5000 (r7, 1) x16 hx16 ?_ _ _ _ hO (lv_sub hl [1, 0] rfl)
  clear hO hl
  refine ⟨?_, ?_, ?_, ?_⟩
  · intro q17 eq17 H locs ls hO hl
    subst eq17
    have hf := sel_l hf
    refine lv_aload_n C.1 C.2.1 dX5_read_113 rfl (lv_at hl 0 rfl) ?_
    refine j_get C hO (ci := 5) (k := 2) (v := vI (q17 l0 2)) h0 rfl inlX5 (by decide) kF_7_19 rfl rfl dX5_read_114 ?_
    have hf := som_e hf
    subst hf
    exact j_iret C hO dX5_read_117
  · intro q18 eq18 H locs ls hO hl
    subst eq18
    have hf := sel_r hf
    have hf := sel_l hf
    refine lv_aload_n C.1 C.2.1 dX5_read_58 rfl (lv_at hl 0 rfl) ?_
    refine j_get C hO (ci := 5) (k := 2) (v := vI (q18 l0 2)) h0 rfl inlX5 (by decide) kF_7_19 rfl rfl dX5_read_59 ?_
    have hf := som_e hf
    subst hf
    exact j_iret C hO dX5_read_62
  · intro q19 eq19 H locs ls hO hl
    subst eq19
    have hf := sel_r hf
    have hf := sel_r hf
    have hf := sel_l hf
    refine lv_iconst (v := Int32.ofInt (-1)) C.1 C.2.1 dX5_read_74 rfl ?_
    have hf := som_e hf
    subst hf
    exact j_iret C hO dX5_read_75
  · intro q20 eq20 H locs ls hO hl
    subst eq20
    have hf := sel_r hf
    have hf := sel_r hf
    have hf := sel_r hf
    refine lv_aload_n C.1 C.2.1 dX5_read_92 rfl (lv_at hl 0 rfl) ?_
    refine j_get C hO (ci := 5) (k := 2) (v := vI (q20 l0 2)) h0 rfl inlX5 (by decide) kF_7_19 rfl rfl dX5_read_93 ?_
    have hf := som_e hf
    subst hf
    exact j_iret C hO dX5_read_96
set_option maxHeartbeats 1000000 in
theorem c_X5_read (l : Launch) (G : jG)  (M : jM) (l0 l1 l2 l3 : Int) (h0 : jkd l0 = (5, 0)) (h1 : jkd l1 = (11, 100)) (h3 : jkd l3 = (7, 0)) {fin : Int × jM} (h : f_X5_read M l0 l1 l2 l3 = some fin) : Met l yX5_read (Cond.code yX5_read cX5_read 5 (some .int) :: wsL_law) ({ frames := 62, cells := 0, slots := 0, locals := 6046 } : Room) (va_Pc [jR G l0, jR G l1, vI l2, jR G l3] (fun U => jRep G M U)) (jQ G (some (vI fin.1)) fin.2) 0 0 (jA G) := by
  refine Met.ofW (cc := cX5_read) (maxL := 5) (ret := (some .int)) (by decide) rfl ?_
  intro p e s m args below meth c s₁ B hml hv
  obtain ⟨rfl, hR0⟩ := hv
  have C : jCx p s m ([jR G l0, jR G l1, vI l2, jR G l3] : List Value).toArray meth c cX5_read 5 RX5 (Cond.code yX5_read cX5_read 5 (some .int)) (some .int) := ⟨B.exec, B.bytes, hml, findClass_of_methodNamed B.named, atoms_spec B.pre, B.returns, B.notSynchronized⟩
  have hO := hR0.ok
  have hl := lv_entry ([jR G l0, jR G l1, vI l2, jR G l3]) (n := 5) (Nat.le_of_ble_eq_true rfl)
  rw [lg_entry_eq]
  generalize (lg_sl ([jR G l0, jR G l1, vI l2, jR G l3]) ++ List.replicate (5 - (lg_sl ([jR G l0, jR G l1, vI l2, jR G l3])).length) Slot.unset).toArray = ls at hl ⊢
  have hl : lv_has ls 5 [(0, jR G l0), (1, jR G l1), (2, vI l2), (3, jR G l3)] := hl
  exact w_X5_read C (Nat.le_refl _) (Nat.le_refl _) M l0 l1 l2 l3 h0 h1 h3 h hO hl
set_option maxHeartbeats 4000000 in
theorem w_X9_feed {p : Program} {l : Launch} {e : Env} {R : Room} {s : State} {m : MethodId} {args : Array Value} {below : List Frame} {meth : Method} {c : Code} {H : Heap} {locs : List Loc} {ls : Array Slot} {G : jG}  (C : jCx p s m args meth c cX9_feed 2 RX9 (Cond.code yX9_feed cX9_feed 2 (some .int)) (some .int)) (hRf : 1 ≤ R.frames) (hRl : 21 ≤ R.locals)  (M : jM) (l0 l1 : Int) (h0 : jkd l0 = (9, 0)) {fin : Int × jM} (hf : f_X9_feed M l0 l1 = some fin) (hO : jOk G M s H locs) (hl : lv_has ls 2 [(0, jR G l0), (1, vI l1)]) : W p l e R s m args below meth c H locs 0 0 (MQ below (jQ G (some (vI fin.1)) fin.2) args s 0 0 (jA G)) (F0 m 0 ls []) := by
  unfold f_X9_feed at hf
  refine lv_iload_n C.1 C.2.1 dX9_feed_0 rfl (lv_at hl 1 rfl) ?_
  refine j_if_lt (tgt := 10) C rfl dX9_feed_1 (by decide) (fun c1 => ?_) (fun c1 => ?_)
  · have hf := (if_pos c1).symm.trans hf
    refine lv_bipush (v := Int32.ofInt (-2)) C.1 C.2.1 dX9_feed_10 (by decide) ?_
    have hf := som_e hf
    subst hf
    exact j_iret C hO dX9_feed_12
  · have hf := (if_neg c1).symm.trans hf
    refine lv_iload_n C.1 C.2.1 dX9_feed_4 rfl (lv_at hl 1 rfl) ?_
    refine lv_bipush (v := Int32.ofInt 127) C.1 C.2.1 dX9_feed_5 (by decide) ?_
    refine j_icmp_le (tgt := 13) C rfl (w32_id (by decide) (by decide)) dX9_feed_7 (by decide) (fun c2 => ?_) (fun c2 => ?_)
    · have hf := (if_pos c2).symm.trans hf
      refine lv_aload_n C.1 C.2.1 dX9_feed_13 rfl (lv_at hl 0 rfl) ?_
      refine j_get C hO (ci := 9) (k := 0) (v := jR G (jpt l0 0)) h0 rfl inlX9 (by decide) kF_1_15 rfl rfl dX9_feed_14 ?_
      refine lv_iload_n C.1 C.2.1 dX9_feed_17 rfl (lv_at hl 1 rfl) ?_
      obtain ⟨r3, hr3, hf⟩ := bnd_e hf
      refine j_callV C hO (n := 1) (As := [vI l1]) (st1 := [vI r3.1]) (c_X8_addByte l G M (jpt l0 0) l1 (tp_9_0 h0) hr3) (tp_9_0 h0) rfl kC_6_17 kM_6_14 kI_6_15 kS_6_16 kN_1_14 ⟨by decide, by decide, by decide⟩ ⟨Nat.le_trans (by decide) hRf, Nat.le_trans (by decide) hRl⟩ rfl rfl rfl hl.1 rfl (Nat.le_of_ble_eq_true rfl) ⟨Nat.zero_le _, Nat.zero_le _⟩ dX9_feed_18 rfl (fun H locs hO => ?_)
      refine j_if_eq (tgt := 34) C rfl dX9_feed_21 (by decide) (fun c4 => ?_) (fun c4 => ?_)
      · have hf := (if_pos c4).symm.trans hf
        refine lv_bipush (v := Int32.ofInt (-4)) C.1 C.2.1 dX9_feed_34 (by decide) ?_
        have hf := som_e hf
        subst hf
        exact j_iret C hO dX9_feed_36
      · have hf := (if_neg c4).symm.trans hf
        refine lv_aload_n C.1 C.2.1 dX9_feed_24 rfl (lv_at hl 0 rfl) ?_
        refine j_get C hO (ci := 9) (k := 0) (v := jR G (jpt l0 0)) h0 rfl inlX9 (by decide) kF_1_15 rfl rfl dX9_feed_25 ?_
        refine j_get C hO (ci := 8) (k := 1) (v := vI (r3.2 (jpt l0 0) 1)) (tp_9_0 h0) rfl inlX8 (by decide) kF_6_13 rfl rfl dX9_feed_28 ?_
        refine lv_goto (tgt := 36) C.1 C.2.1 dX9_feed_31 (by decide) ?_
        have hf := som_e hf
        subst hf
        exact j_iret C hO dX9_feed_36
    · have hf := (if_neg c2).symm.trans hf
      refine lv_bipush (v := Int32.ofInt (-2)) C.1 C.2.1 dX9_feed_10 (by decide) ?_
      have hf := som_e hf
      subst hf
      exact j_iret C hO dX9_feed_12
set_option maxHeartbeats 1000000 in
theorem c_X9_feed (l : Launch) (G : jG)  (M : jM) (l0 l1 : Int) (h0 : jkd l0 = (9, 0)) {fin : Int × jM} (h : f_X9_feed M l0 l1 = some fin) : Met l yX9_feed (Cond.code yX9_feed cX9_feed 2 (some .int) :: wsL_law) ({ frames := 1, cells := 0, slots := 0, locals := 21 } : Room) (va_Pc [jR G l0, vI l1] (fun U => jRep G M U)) (jQ G (some (vI fin.1)) fin.2) 0 0 (jA G) := by
  refine Met.ofW (cc := cX9_feed) (maxL := 2) (ret := (some .int)) (by decide) rfl ?_
  intro p e s m args below meth c s₁ B hml hv
  obtain ⟨rfl, hR0⟩ := hv
  have C : jCx p s m ([jR G l0, vI l1] : List Value).toArray meth c cX9_feed 2 RX9 (Cond.code yX9_feed cX9_feed 2 (some .int)) (some .int) := ⟨B.exec, B.bytes, hml, findClass_of_methodNamed B.named, atoms_spec B.pre, B.returns, B.notSynchronized⟩
  have hO := hR0.ok
  have hl := lv_entry ([jR G l0, vI l1]) (n := 2) (Nat.le_of_ble_eq_true rfl)
  rw [lg_entry_eq]
  generalize (lg_sl ([jR G l0, vI l1]) ++ List.replicate (2 - (lg_sl ([jR G l0, vI l1])).length) Slot.unset).toArray = ls at hl ⊢
  have hl : lv_has ls 2 [(0, jR G l0), (1, vI l1)] := hl
  exact w_X9_feed C (Nat.le_refl _) (Nat.le_refl _) M l0 l1 h0 h hO hl
set_option maxHeartbeats 4000000 in
theorem w_X9_stall {p : Program} {l : Launch} {e : Env} {R : Room} {s : State} {m : MethodId} {args : Array Value} {below : List Frame} {meth : Method} {c : Code} {H : Heap} {locs : List Loc} {ls : Array Slot} {G : jG}  (C : jCx p s m args meth c cX9_stall 2 RX9 (Cond.code yX9_stall cX9_stall 2 (some .int)) (some .int)) (hRf : 63 ≤ R.frames) (hRl : 6070 ≤ R.locals)  (M : jM) (l0 : Int) (h0 : jkd l0 = (9, 0)) {fin : Int × jM} (hf : f_X9_stall M l0 = some fin) (hO : jOk G M s H locs) (hl : lv_has ls 2 [(0, jR G l0)]) : W p l e R s m args below meth c H locs 0 0 (MQ below (jQ G (some (vI fin.1)) fin.2) args s 0 0 (jA G)) (F0 m 0 ls []) := by
  unfold f_X9_stall at hf
  refine lv_aload_n C.1 C.2.1 dX9_stall_0 rfl (lv_at hl 0 rfl) ?_
  refine j_get C hO (ci := 9) (k := 0) (v := jR G (jpt l0 0)) h0 rfl inlX9 (by decide) kF_1_15 rfl rfl dX9_stall_1 ?_
  refine j_get C hO (ci := 8) (k := 3) (v := vI (M (jpt l0 0) 3)) (tp_9_0 h0) rfl inlX8 (by decide) kF_7_6 rfl rfl dX9_stall_4 ?_
  refine lv_iconst (v := Int32.ofInt 5) C.1 C.2.1 dX9_stall_7 rfl ?_
  refine j_icmp_lt (tgt := 14) C rfl (w32_id (by decide) (by decide)) dX9_stall_8 (by decide) (fun c1 => ?_) (fun c1 => ?_)
  · have hf := (if_pos c1).symm.trans hf
    refine lv_aload_n C.1 C.2.1 dX9_stall_14 rfl (lv_at hl 0 rfl) ?_
    refine j_get C hO (ci := 9) (k := 4) (v := jR G (jpt l0 4)) h0 rfl inlX9 (by decide) kF_2_1 rfl rfl dX9_stall_15 ?_
    refine lv_aload_n C.1 C.2.1 dX9_stall_18 rfl (lv_at hl 0 rfl) ?_
    refine j_get C hO (ci := 9) (k := 0) (v := jR G (jpt l0 0)) h0 rfl inlX9 (by decide) kF_1_15 rfl rfl dX9_stall_19 ?_
    refine j_get C hO (ci := 8) (k := 0) (v := jR G (jpt (jpt l0 0) 0)) (tp_9_0 h0) rfl inlX8 (by decide) kF_7_7 rfl rfl dX9_stall_22 ?_
    refine lv_aload_n C.1 C.2.1 dX9_stall_25 rfl (lv_at hl 0 rfl) ?_
    refine j_get C hO (ci := 9) (k := 0) (v := jR G (jpt l0 0)) h0 rfl inlX9 (by decide) kF_1_15 rfl rfl dX9_stall_26 ?_
    refine j_get C hO (ci := 8) (k := 1) (v := vI (M (jpt l0 0) 1)) (tp_9_0 h0) rfl inlX8 (by decide) kF_6_13 rfl rfl dX9_stall_29 ?_
    refine lv_aload_n C.1 C.2.1 dX9_stall_32 rfl (lv_at hl 0 rfl) ?_
    refine j_get C hO (ci := 9) (k := 3) (v := jR G (jpt l0 3)) h0 rfl inlX9 (by decide) kF_1_21 rfl rfl dX9_stall_33 ?_
    obtain ⟨r2, hr2, hf⟩ := bnd_e hf
    refine j_callV C hO (n := 3) (As := [jR G (jpt (jpt l0 0) 0), vI (M (jpt l0 0) 1), jR G (jpt l0 3)]) (st1 := [vI r2.1]) (c_X5_read l G M (jpt l0 4) (jpt (jpt l0 0) 0) (M (jpt l0 0) 1) (jpt l0 3) (tp_9_4 h0) (tp_8_0 (tp_9_0 h0)) (tp_9_3 h0) hr2) (tp_9_4 h0) rfl kC_7_12 kM_7_9 kI_7_10 kS_7_11 kN_2_0 ⟨by decide, by decide, by decide⟩ ⟨Nat.le_trans (by decide) hRf, Nat.le_trans (by decide) hRl⟩ rfl rfl rfl hl.1 rfl (Nat.le_of_ble_eq_true rfl) ⟨Nat.zero_le _, Nat.zero_le _⟩ dX9_stall_36 rfl (fun H locs hO => ?_)
    refine lv_istore_n (lv' := [(1, vI r2.1), (0, jR G l0)]) C.1 C.2.1 dX9_stall_39 rfl hl (by decide) rfl (fun ls hl => ?_)
    refine lv_aload_n C.1 C.2.1 dX9_stall_40 rfl (lv_at hl 1 rfl) ?_
    refine j_get C hO (ci := 9) (k := 0) (v := jR G (jpt l0 0)) h0 rfl inlX9 (by decide) kF_1_15 rfl rfl dX9_stall_41 ?_
    refine lv_iconst (v := Int32.ofInt 0) C.1 C.2.1 dX9_stall_44 rfl ?_
    obtain ⟨M3, hM3, hf⟩ := lt1_e hf
    refine j_put C hO (ci := 8) (k := 1) (x := 0) (tp_9_0 h0) rfl inlX8 tyX8_ok nmX8 (by decide) kF_6_13 rfl rfl rfl rfl (by simp [jfl]) (fs_8_1) dX9_stall_45 (fun H locs hO => ?_)
    rw [← hM3] at hO
    refine lv_iload_n C.1 C.2.1 dX9_stall_48 rfl (lv_at hl 0 rfl) ?_
    refine j_if_lt (tgt := 57) C rfl dX9_stall_49 (by decide) (fun c4 => ?_) (fun c4 => ?_)
    · have hf := (if_pos c4).symm.trans hf
      refine lv_aload_n C.1 C.2.1 dX9_stall_57 rfl (lv_at hl 1 rfl) ?_
      refine j_get C hO (ci := 9) (k := 0) (v := jR G (jpt l0 0)) h0 rfl inlX9 (by decide) kF_1_15 rfl rfl dX9_stall_58 ?_
      refine j_get C hO (ci := 8) (k := 2) (v := jR G (jpt (jpt l0 0) 2)) (tp_9_0 h0) rfl inlX8 (by decide) kF_7_8 rfl rfl dX9_stall_61 ?_
      refine lv_aload_n C.1 C.2.1 dX9_stall_64 rfl (lv_at hl 1 rfl) ?_
      refine j_get C hO (ci := 9) (k := 3) (v := jR G (jpt l0 3)) h0 rfl inlX9 (by decide) kF_1_21 rfl rfl dX9_stall_65 ?_
      obtain ⟨r5, hr5, hf⟩ := bnd_e hf
      refine j_callV C hO (n := 1) (As := [jR G (jpt l0 3)]) (st1 := []) (c_X7_copy l G M3 (jpt (jpt l0 0) 2) (jpt l0 3) (tp_8_2 (tp_9_0 h0)) (tp_9_3 h0) hr5) (tp_8_2 (tp_9_0 h0)) rfl kC_12_8 kM_12_5 kI_12_6 kS_12_7 kN_1_20 ⟨by decide, by decide, by decide⟩ ⟨Nat.le_trans (by decide) hRf, Nat.le_trans (by decide) hRl⟩ rfl rfl rfl hl.1 rfl (Nat.le_of_ble_eq_true rfl) ⟨Nat.zero_le _, Nat.zero_le _⟩ dX9_stall_68 rfl (fun H locs hO => ?_)
      refine lv_aload_n C.1 C.2.1 dX9_stall_71 rfl (lv_at hl 1 rfl) ?_
      refine j_get C hO (ci := 9) (k := 0) (v := jR G (jpt l0 0)) h0 rfl inlX9 (by decide) kF_1_15 rfl rfl dX9_stall_72 ?_
      refine lv_dup C.1 C.2.1 dX9_stall_75 rfl ?_
      refine j_get C hO (ci := 8) (k := 3) (v := vI (r5 (jpt l0 0) 3)) (tp_9_0 h0) rfl inlX8 (by decide) kF_7_6 rfl rfl dX9_stall_76 ?_
      refine lv_iconst (v := Int32.ofInt 1) C.1 C.2.1 dX9_stall_79 rfl ?_
      refine j_iadd C dX9_stall_80 ?_
      obtain ⟨M6, hM6, hf⟩ := lt1_e hf
      refine j_put C hO (ci := 8) (k := 3) (x := (r5 (jpt l0 0) 3) + 1) (tp_9_0 h0) rfl inlX8 tyX8_ok nmX8 (by decide) kF_7_6 rfl rfl rfl rfl (by simp [jfl]) (fs_8_3) dX9_stall_81 (fun H locs hO => ?_)
      rw [← hM6] at hO
      refine lv_aload_n C.1 C.2.1 dX9_stall_84 rfl (lv_at hl 1 rfl) ?_
      refine j_get C hO (ci := 9) (k := 0) (v := jR G (jpt l0 0)) h0 rfl inlX9 (by decide) kF_1_15 rfl rfl dX9_stall_85 ?_
      refine j_get C hO (ci := 8) (k := 3) (v := vI (M6 (jpt l0 0) 3)) (tp_9_0 h0) rfl inlX8 (by decide) kF_7_6 rfl rfl dX9_stall_88 ?_
      refine lv_iconst (v := Int32.ofInt 1) C.1 C.2.1 dX9_stall_91 rfl ?_
      refine j_isub C dX9_stall_92 ?_
      have hf := som_e hf
      subst hf
      exact j_iret C hO dX9_stall_93
    · have hf := (if_neg c4).symm.trans hf
      refine lv_bipush (v := Int32.ofInt (-10)) C.1 C.2.1 dX9_stall_52 (by decide) ?_
      refine lv_iload_n C.1 C.2.1 dX9_stall_54 rfl (lv_at hl 0 rfl) ?_
      refine j_isub C dX9_stall_55 ?_
      have hf := som_e hf
      subst hf
      exact j_iret C hO dX9_stall_56
  · have hf := (if_neg c1).symm.trans hf
    refine lv_bipush (v := Int32.ofInt (-4)) C.1 C.2.1 dX9_stall_11 (by decide) ?_
    have hf := som_e hf
    subst hf
    exact j_iret C hO dX9_stall_13
set_option maxHeartbeats 1000000 in
theorem c_X9_stall (l : Launch) (G : jG)  (M : jM) (l0 : Int) (h0 : jkd l0 = (9, 0)) {fin : Int × jM} (h : f_X9_stall M l0 = some fin) : Met l yX9_stall (Cond.code yX9_stall cX9_stall 2 (some .int) :: wsL_law) ({ frames := 63, cells := 0, slots := 0, locals := 6070 } : Room) (va_Pc [jR G l0] (fun U => jRep G M U)) (jQ G (some (vI fin.1)) fin.2) 0 0 (jA G) := by
  refine Met.ofW (cc := cX9_stall) (maxL := 2) (ret := (some .int)) (by decide) rfl ?_
  intro p e s m args below meth c s₁ B hml hv
  obtain ⟨rfl, hR0⟩ := hv
  have C : jCx p s m ([jR G l0] : List Value).toArray meth c cX9_stall 2 RX9 (Cond.code yX9_stall cX9_stall 2 (some .int)) (some .int) := ⟨B.exec, B.bytes, hml, findClass_of_methodNamed B.named, atoms_spec B.pre, B.returns, B.notSynchronized⟩
  have hO := hR0.ok
  have hl := lv_entry ([jR G l0]) (n := 2) (Nat.le_of_ble_eq_true rfl)
  rw [lg_entry_eq]
  generalize (lg_sl ([jR G l0]) ++ List.replicate (2 - (lg_sl ([jR G l0])).length) Slot.unset).toArray = ls at hl ⊢
  have hl : lv_has ls 2 [(0, jR G l0)] := hl
  exact w_X9_stall C (Nat.le_refl _) (Nat.le_refl _) M l0 h0 h hO hl
set_option maxHeartbeats 4000000 in
theorem w_X9_day {p : Program} {l : Launch} {e : Env} {R : Room} {s : State} {m : MethodId} {args : Array Value} {below : List Frame} {meth : Method} {c : Code} {H : Heap} {locs : List Loc} {ls : Array Slot} {G : jG}  (C : jCx p s m args meth c cX9_day 3 RX9 (Cond.code yX9_day cX9_day 3 (some .int)) (some .int)) (hRf : 0 ≤ R.frames) (hRl : 0 ≤ R.locals)  (M : jM) (l0 l1 : Int) (h0 : jkd l0 = (9, 0)) {fin : Int × jM} (hf : f_X9_day M l0 l1 = some fin) (hO : jOk G M s H locs) (hl : lv_has ls 3 [(0, jR G l0), (1, vI l1)]) : W p l e R s m args below meth c H locs 0 0 (MQ below (jQ G (some (vI fin.1)) fin.2) args s 0 0 (jA G)) (F0 m 0 ls []) := by
  unfold f_X9_day at hf
  refine lv_iload_n C.1 C.2.1 dX9_day_0 rfl (lv_at hl 1 rfl) ?_
  refine j_if_lt (tgt := 10) C rfl dX9_day_1 (by decide) (fun c1 => ?_) (fun c1 => ?_)
  · have hf := (if_pos c1).symm.trans hf
    refine lv_bipush (v := Int32.ofInt (-2)) C.1 C.2.1 dX9_day_10 (by decide) ?_
    have hf := som_e hf
    subst hf
    exact j_iret C hO dX9_day_12
  · have hf := (if_neg c1).symm.trans hf
    refine lv_iload_n C.1 C.2.1 dX9_day_4 rfl (lv_at hl 1 rfl) ?_
    refine lv_bipush (v := Int32.ofInt 10) C.1 C.2.1 dX9_day_5 (by decide) ?_
    refine j_icmp_lt (tgt := 13) C rfl (w32_id (by decide) (by decide)) dX9_day_7 (by decide) (fun c2 => ?_) (fun c2 => ?_)
    · have hf := (if_pos c2).symm.trans hf
      refine lv_aload_n C.1 C.2.1 dX9_day_13 rfl (lv_at hl 0 rfl) ?_
      refine j_get C hO (ci := 9) (k := 0) (v := jR G (jpt l0 0)) h0 rfl inlX9 (by decide) kF_1_15 rfl rfl dX9_day_14 ?_
      refine j_get C hO (ci := 8) (k := 4) (v := vI (M (jpt l0 0) 4)) (tp_9_0 h0) rfl inlX8 (by decide) kF_14_20 rfl rfl dX9_day_17 ?_
      refine lv_istore_n (lv' := [(2, vI (M (jpt l0 0) 4)), (0, jR G l0), (1, vI l1)]) C.1 C.2.1 dX9_day_20 rfl hl (by decide) rfl (fun ls hl => ?_)
      refine lv_aload_n C.1 C.2.1 dX9_day_21 rfl (lv_at hl 1 rfl) ?_
      refine j_get C hO (ci := 9) (k := 0) (v := jR G (jpt l0 0)) h0 rfl inlX9 (by decide) kF_1_15 rfl rfl dX9_day_22 ?_
      refine lv_iload_n C.1 C.2.1 dX9_day_25 rfl (lv_at hl 2 rfl) ?_
      obtain ⟨M3, hM3, hf⟩ := lt1_e hf
      refine j_put C hO (ci := 8) (k := 4) (x := l1) (tp_9_0 h0) rfl inlX8 tyX8_ok nmX8 (by decide) kF_14_20 rfl rfl rfl rfl (by simp [jfl]) (fs_8_4) dX9_day_26 (fun H locs hO => ?_)
      rw [← hM3] at hO
      refine lv_iload_n C.1 C.2.1 dX9_day_29 rfl (lv_at hl 0 rfl) ?_
      have hf := som_e hf
      subst hf
      exact j_iret C hO dX9_day_30
    · have hf := (if_neg c2).symm.trans hf
      refine lv_bipush (v := Int32.ofInt (-2)) C.1 C.2.1 dX9_day_10 (by decide) ?_
      have hf := som_e hf
      subst hf
      exact j_iret C hO dX9_day_12
set_option maxHeartbeats 1000000 in
theorem c_X9_day (l : Launch) (G : jG)  (M : jM) (l0 l1 : Int) (h0 : jkd l0 = (9, 0)) {fin : Int × jM} (h : f_X9_day M l0 l1 = some fin) : Met l yX9_day (Cond.code yX9_day cX9_day 3 (some .int) :: wsL_law) ({ frames := 0, cells := 0, slots := 0, locals := 0 } : Room) (va_Pc [jR G l0, vI l1] (fun U => jRep G M U)) (jQ G (some (vI fin.1)) fin.2) 0 0 (jA G) := by
  refine Met.ofW (cc := cX9_day) (maxL := 3) (ret := (some .int)) (by decide) rfl ?_
  intro p e s m args below meth c s₁ B hml hv
  obtain ⟨rfl, hR0⟩ := hv
  have C : jCx p s m ([jR G l0, vI l1] : List Value).toArray meth c cX9_day 3 RX9 (Cond.code yX9_day cX9_day 3 (some .int)) (some .int) := ⟨B.exec, B.bytes, hml, findClass_of_methodNamed B.named, atoms_spec B.pre, B.returns, B.notSynchronized⟩
  have hO := hR0.ok
  have hl := lv_entry ([jR G l0, vI l1]) (n := 3) (Nat.le_of_ble_eq_true rfl)
  rw [lg_entry_eq]
  generalize (lg_sl ([jR G l0, vI l1]) ++ List.replicate (3 - (lg_sl ([jR G l0, vI l1])).length) Slot.unset).toArray = ls at hl ⊢
  have hl : lv_has ls 3 [(0, jR G l0), (1, vI l1)] := hl
  exact w_X9_day C (Nat.le_refl _) (Nat.le_refl _) M l0 l1 h0 h hO hl
set_option maxHeartbeats 4000000 in
theorem w_X9_weigh {p : Program} {l : Launch} {e : Env} {R : Room} {s : State} {m : MethodId} {args : Array Value} {below : List Frame} {meth : Method} {c : Code} {H : Heap} {locs : List Loc} {ls : Array Slot} {G : jG}  (C : jCx p s m args meth c cX9_weigh 1 RX9 (Cond.code yX9_weigh cX9_weigh 1 none) none) (hRf : 3 ≤ R.frames) (hRl : 69 ≤ R.locals)  (M : jM) (l0 : Int) (h0 : jkd l0 = (9, 0)) {fin : jM} (hf : f_X9_weigh M l0 = some fin) (hO : jOk G M s H locs) (hl : lv_has ls 1 [(0, jR G l0)]) : W p l e R s m args below meth c H locs 0 0 (MQ below (jQ G none fin) args s 0 0 (jA G)) (F0 m 0 ls []) := by
  unfold f_X9_weigh at hf
  refine lv_aload_n C.1 C.2.1 dX9_weigh_0 rfl (lv_at hl 0 rfl) ?_
  refine j_get C hO (ci := 9) (k := 5) (v := jR G (jpt l0 5)) h0 rfl inlX9 (by decide) kF_2_5 rfl rfl dX9_weigh_1 ?_
  refine lv_aload_n C.1 C.2.1 dX9_weigh_4 rfl (lv_at hl 0 rfl) ?_
  refine j_get C hO (ci := 9) (k := 0) (v := jR G (jpt l0 0)) h0 rfl inlX9 (by decide) kF_1_15 rfl rfl dX9_weigh_5 ?_
  refine j_get C hO (ci := 8) (k := 2) (v := jR G (jpt (jpt l0 0) 2)) (tp_9_0 h0) rfl inlX8 (by decide) kF_7_8 rfl rfl dX9_weigh_8 ?_
  refine lv_aload_n C.1 C.2.1 dX9_weigh_11 rfl (lv_at hl 0 rfl) ?_
  refine j_get C hO (ci := 9) (k := 0) (v := jR G (jpt l0 0)) h0 rfl inlX9 (by decide) kF_1_15 rfl rfl dX9_weigh_12 ?_
  refine j_get C hO (ci := 8) (k := 4) (v := vI (M (jpt l0 0) 4)) (tp_9_0 h0) rfl inlX8 (by decide) kF_14_20 rfl rfl dX9_weigh_15 ?_
  obtain ⟨r1, hr1, hf⟩ := bnd_e hf
  refine j_callV C hO (n := 2) (As := [jR G (jpt (jpt l0 0) 2), vI (M (jpt l0 0) 4)]) (st1 := []) (c_X6_weigh l G M (jpt l0 5) (jpt (jpt l0 0) 2) (M (jpt l0 0) 4) (tp_9_5 h0) (tp_8_2 (tp_9_0 h0)) hr1) (tp_9_5 h0) rfl kC_15_16 kM_15_13 kI_15_14 kS_15_15 kN_2_4 ⟨by decide, by decide, by decide⟩ ⟨Nat.le_trans (by decide) hRf, Nat.le_trans (by decide) hRl⟩ rfl rfl rfl hl.1 rfl (Nat.le_of_ble_eq_true rfl) ⟨Nat.zero_le _, Nat.zero_le _⟩ dX9_weigh_18 rfl (fun H locs hO => ?_)
  have hf := som_e hf
  subst hf
  exact j_vret C hO dX9_weigh_21
set_option maxHeartbeats 1000000 in
theorem c_X9_weigh (l : Launch) (G : jG)  (M : jM) (l0 : Int) (h0 : jkd l0 = (9, 0)) {fin : jM} (h : f_X9_weigh M l0 = some fin) : Met l yX9_weigh (Cond.code yX9_weigh cX9_weigh 1 none :: wsL_law) ({ frames := 3, cells := 0, slots := 0, locals := 69 } : Room) (va_Pc [jR G l0] (fun U => jRep G M U)) (jQ G none fin) 0 0 (jA G) := by
  refine Met.ofW (cc := cX9_weigh) (maxL := 1) (ret := none) (by decide) rfl ?_
  intro p e s m args below meth c s₁ B hml hv
  obtain ⟨rfl, hR0⟩ := hv
  have C : jCx p s m ([jR G l0] : List Value).toArray meth c cX9_weigh 1 RX9 (Cond.code yX9_weigh cX9_weigh 1 none) none := ⟨B.exec, B.bytes, hml, findClass_of_methodNamed B.named, atoms_spec B.pre, B.returns, B.notSynchronized⟩
  have hO := hR0.ok
  have hl := lv_entry ([jR G l0]) (n := 1) (Nat.le_of_ble_eq_true rfl)
  rw [lg_entry_eq]
  generalize (lg_sl ([jR G l0]) ++ List.replicate (1 - (lg_sl ([jR G l0])).length) Slot.unset).toArray = ls at hl ⊢
  have hl : lv_has ls 1 [(0, jR G l0)] := hl
  exact w_X9_weigh C (Nat.le_refl _) (Nat.le_refl _) M l0 h0 h hO hl
set_option maxHeartbeats 4000000 in
theorem w_X9_told {p : Program} {l : Launch} {e : Env} {R : Room} {s : State} {m : MethodId} {args : Array Value} {below : List Frame} {meth : Method} {c : Code} {H : Heap} {locs : List Loc} {ls : Array Slot} {G : jG}  (C : jCx p s m args meth c cX9_told 2 RX9 (Cond.code yX9_told cX9_told 2 (some .int)) (some .int)) (hRf : 4 ≤ R.frames) (hRl : 89 ≤ R.locals)  (M : jM) (l0 l1 : Int) (h0 : jkd l0 = (9, 0)) {fin : Int × jM} (hf : f_X9_told M l0 l1 = some fin) (hO : jOk G M s H locs) (hl : lv_has ls 2 [(0, jR G l0), (1, vI l1)]) : W p l e R s m args below meth c H locs 0 0 (MQ below (jQ G (some (vI fin.1)) fin.2) args s 0 0 (jA G)) (F0 m 0 ls []) := by
  unfold f_X9_told at hf
  refine lv_aload_n C.1 C.2.1 dX9_told_0 rfl (lv_at hl 0 rfl) ?_
  obtain ⟨r1, hr1, hf⟩ := bnd_e hf
  refine j_callV C hO (n := 0) (As := []) (st1 := []) (c_X9_weigh l G M l0 h0 hr1) h0 rfl kC_15_12 kM_15_9 kI_15_10 kS_15_11 kN_1_2 ⟨by decide, by decide, by decide⟩ ⟨Nat.le_trans (by decide) hRf, Nat.le_trans (by decide) hRl⟩ rfl rfl rfl hl.1 rfl (Nat.le_of_ble_eq_true rfl) ⟨Nat.zero_le _, Nat.zero_le _⟩ dX9_told_1 rfl (fun H locs hO => ?_)
  refine lv_iload_n C.1 C.2.1 dX9_told_4 rfl (lv_at hl 1 rfl) ?_
  by_cases c2 : w32 l1 = 0
  · have hf := (if_pos c2).symm.trans hf
    refine j_tsw (tgt := 72) C c2 dX9_told_5 (by decide) (by decide) rfl (by decide) ?_
    refine lv_aload_n C.1 C.2.1 dX9_told_72 rfl (lv_at hl 0 rfl) ?_
    refine j_get C hO (ci := 9) (k := 5) (v := jR G (jpt l0 5)) h0 rfl inlX9 (by decide) kF_2_5 rfl rfl dX9_told_73 ?_
    refine j_get C hO (ci := 6) (k := 0) (v := vI (r1 (jpt l0 5) 0)) (tp_9_5 h0) rfl inlX6 (by decide) kF_15_5 rfl rfl dX9_told_76 ?_
    have hf := som_e hf
    subst hf
    exact j_iret C hO dX9_told_79
  have hf := (if_neg c2).symm.trans hf
  by_cases c3 : w32 l1 = 1
  · have hf := (if_pos c3).symm.trans hf
    refine j_tsw (tgt := 80) C c3 dX9_told_5 (by decide) (by decide) rfl (by decide) ?_
    refine lv_aload_n C.1 C.2.1 dX9_told_80 rfl (lv_at hl 0 rfl) ?_
    refine j_get C hO (ci := 9) (k := 0) (v := jR G (jpt l0 0)) h0 rfl inlX9 (by decide) kF_1_15 rfl rfl dX9_told_81 ?_
    refine j_get C hO (ci := 8) (k := 2) (v := jR G (jpt (jpt l0 0) 2)) (tp_9_0 h0) rfl inlX8 (by decide) kF_7_8 rfl rfl dX9_told_84 ?_
    refine j_get C hO (ci := 7) (k := 1) (v := vI (r1 (jpt (jpt l0 0) 2) 1)) (tp_8_2 (tp_9_0 h0)) rfl inlX7 (by decide) kF_15_6 rfl rfl dX9_told_87 ?_
    have hf := som_e hf
    subst hf
    exact j_iret C hO dX9_told_90
  have hf := (if_neg c3).symm.trans hf
  by_cases c4 : w32 l1 = 2
  · have hf := (if_pos c4).symm.trans hf
    refine j_tsw (tgt := 91) C c4 dX9_told_5 (by decide) (by decide) rfl (by decide) ?_
    refine lv_aload_n C.1 C.2.1 dX9_told_91 rfl (lv_at hl 0 rfl) ?_
    refine j_get C hO (ci := 9) (k := 0) (v := jR G (jpt l0 0)) h0 rfl inlX9 (by decide) kF_1_15 rfl rfl dX9_told_92 ?_
    refine j_get C hO (ci := 8) (k := 2) (v := jR G (jpt (jpt l0 0) 2)) (tp_9_0 h0) rfl inlX8 (by decide) kF_7_8 rfl rfl dX9_told_95 ?_
    refine j_get C hO (ci := 7) (k := 2) (v := vI (r1 (jpt (jpt l0 0) 2) 2)) (tp_8_2 (tp_9_0 h0)) rfl inlX7 (by decide) kF_15_7 rfl rfl dX9_told_98 ?_
    have hf := som_e hf
    subst hf
    exact j_iret C hO dX9_told_101
  have hf := (if_neg c4).symm.trans hf
  by_cases c5 : w32 l1 = 3
  · have hf := (if_pos c5).symm.trans hf
    refine j_tsw (tgt := 102) C c5 dX9_told_5 (by decide) (by decide) rfl (by decide) ?_
    refine lv_aload_n C.1 C.2.1 dX9_told_102 rfl (lv_at hl 0 rfl) ?_
    refine j_get C hO (ci := 9) (k := 0) (v := jR G (jpt l0 0)) h0 rfl inlX9 (by decide) kF_1_15 rfl rfl dX9_told_103 ?_
    refine j_get C hO (ci := 8) (k := 4) (v := vI (r1 (jpt l0 0) 4)) (tp_9_0 h0) rfl inlX8 (by decide) kF_14_20 rfl rfl dX9_told_106 ?_
    have hf := som_e hf
    subst hf
    exact j_iret C hO dX9_told_109
  have hf := (if_neg c5).symm.trans hf
  by_cases c6 : w32 l1 = 4
  · have hf := (if_pos c6).symm.trans hf
    refine j_tsw (tgt := 110) C c6 dX9_told_5 (by decide) (by decide) rfl (by decide) ?_
    refine lv_aload_n C.1 C.2.1 dX9_told_110 rfl (lv_at hl 0 rfl) ?_
    refine j_get C hO (ci := 9) (k := 5) (v := jR G (jpt l0 5)) h0 rfl inlX9 (by decide) kF_2_5 rfl rfl dX9_told_111 ?_
    refine j_get C hO (ci := 6) (k := 1) (v := vI (r1 (jpt l0 5) 1)) (tp_9_5 h0) rfl inlX6 (by decide) kF_15_8 rfl rfl dX9_told_114 ?_
    have hf := som_e hf
    subst hf
    exact j_iret C hO dX9_told_117
  have hf := (if_neg c6).symm.trans hf
  by_cases c7 : w32 l1 = 5
  · have hf := (if_pos c7).symm.trans hf
    refine j_tsw (tgt := 148) C c7 dX9_told_5 (by decide) (by decide) rfl (by decide) ?_
    refine lv_iconst (v := Int32.ofInt (-1)) C.1 C.2.1 dX9_told_148 rfl ?_
    have hf := som_e hf
    subst hf
    exact j_iret C hO dX9_told_149
  have hf := (if_neg c7).symm.trans hf
  by_cases c8 : w32 l1 = 6
  · have hf := (if_pos c8).symm.trans hf
    refine j_tsw (tgt := 148) C c8 dX9_told_5 (by decide) (by decide) rfl (by decide) ?_
    refine lv_iconst (v := Int32.ofInt (-1)) C.1 C.2.1 dX9_told_148 rfl ?_
    have hf := som_e hf
    subst hf
    exact j_iret C hO dX9_told_149
  have hf := (if_neg c8).symm.trans hf
  by_cases c9 : w32 l1 = 7
  · have hf := (if_pos c9).symm.trans hf
    refine j_tsw (tgt := 148) C c9 dX9_told_5 (by decide) (by decide) rfl (by decide) ?_
    refine lv_iconst (v := Int32.ofInt (-1)) C.1 C.2.1 dX9_told_148 rfl ?_
    have hf := som_e hf
    subst hf
    exact j_iret C hO dX9_told_149
  have hf := (if_neg c9).symm.trans hf
  by_cases c10 : w32 l1 = 8
  · have hf := (if_pos c10).symm.trans hf
    refine j_tsw (tgt := 148) C c10 dX9_told_5 (by decide) (by decide) rfl (by decide) ?_
    refine lv_iconst (v := Int32.ofInt (-1)) C.1 C.2.1 dX9_told_148 rfl ?_
    have hf := som_e hf
    subst hf
    exact j_iret C hO dX9_told_149
  have hf := (if_neg c10).symm.trans hf
  by_cases c11 : w32 l1 = 9
  · have hf := (if_pos c11).symm.trans hf
    refine j_tsw (tgt := 148) C c11 dX9_told_5 (by decide) (by decide) rfl (by decide) ?_
    refine lv_iconst (v := Int32.ofInt (-1)) C.1 C.2.1 dX9_told_148 rfl ?_
    have hf := som_e hf
    subst hf
    exact j_iret C hO dX9_told_149
  have hf := (if_neg c11).symm.trans hf
  by_cases c12 : w32 l1 = 10
  · have hf := (if_pos c12).symm.trans hf
    refine j_tsw (tgt := 118) C c12 dX9_told_5 (by decide) (by decide) rfl (by decide) ?_
    refine lv_iload_n C.1 C.2.1 dX9_told_118 rfl (lv_at hl 1 rfl) ?_
    refine lv_bipush (v := Int32.ofInt 10) C.1 C.2.1 dX9_told_119 (by decide) ?_
    refine j_isub C dX9_told_121 ?_
    refine lv_aload_n C.1 C.2.1 dX9_told_122 rfl (lv_at hl 0 rfl) ?_
    refine j_get C hO (ci := 9) (k := 5) (v := jR G (jpt l0 5)) h0 rfl inlX9 (by decide) kF_2_5 rfl rfl dX9_told_123 ?_
    refine j_get C hO (ci := 6) (k := 0) (v := vI (r1 (jpt l0 5) 0)) (tp_9_5 h0) rfl inlX6 (by decide) kF_15_5 rfl rfl dX9_told_126 ?_
    refine j_icmp_ge (tgt := 146) C rfl rfl dX9_told_129 (by decide) (fun c13 => ?_) (fun c13 => ?_)
    · have hf := (if_pos c13).symm.trans hf
      refine lv_iconst (v := Int32.ofInt (-1)) C.1 C.2.1 dX9_told_146 rfl ?_
      have hf := som_e hf
      subst hf
      exact j_iret C hO dX9_told_147
    · have hf := (if_neg c13).symm.trans hf
      refine lv_aload_n C.1 C.2.1 dX9_told_132 rfl (lv_at hl 0 rfl) ?_
      refine j_get C hO (ci := 9) (k := 5) (v := jR G (jpt l0 5)) h0 rfl inlX9 (by decide) kF_2_5 rfl rfl dX9_told_133 ?_
      refine lv_iload_n C.1 C.2.1 dX9_told_136 rfl (lv_at hl 1 rfl) ?_
      refine lv_bipush (v := Int32.ofInt 10) C.1 C.2.1 dX9_told_137 (by decide) ?_
      refine j_isub C dX9_told_139 ?_
      obtain ⟨r14, hr14, hf⟩ := bnd_e hf
      refine j_callV C hO (n := 1) (As := [vI (l1 - 10)]) (st1 := [vI r14]) (c_X6_weightOf l G r1 (jpt l0 5) (l1 - 10) (tp_9_5 h0) hr14) (tp_9_5 h0) rfl kC_16_4 kM_16_1 kI_16_2 kS_16_3 kN_2_4 ⟨by decide, by decide, by decide⟩ ⟨Nat.le_trans (by decide) hRf, Nat.le_trans (by decide) hRl⟩ rfl rfl rfl hl.1 rfl (Nat.le_of_ble_eq_true rfl) ⟨Nat.zero_le _, Nat.zero_le _⟩ dX9_told_140 rfl (fun H locs hO => ?_)
      refine lv_goto (tgt := 147) C.1 C.2.1 dX9_told_143 (by decide) ?_
      have hf := som_e hf
      subst hf
      exact j_iret C hO dX9_told_147
  have hf := (if_neg c12).symm.trans hf
  by_cases c15 : w32 l1 = 11
  · have hf := (if_pos c15).symm.trans hf
    refine j_tsw (tgt := 118) C c15 dX9_told_5 (by decide) (by decide) rfl (by decide) ?_
    refine lv_iload_n C.1 C.2.1 dX9_told_118 rfl (lv_at hl 1 rfl) ?_
    refine lv_bipush (v := Int32.ofInt 10) C.1 C.2.1 dX9_told_119 (by decide) ?_
    refine j_isub C dX9_told_121 ?_
    refine lv_aload_n C.1 C.2.1 dX9_told_122 rfl (lv_at hl 0 rfl) ?_
    refine j_get C hO (ci := 9) (k := 5) (v := jR G (jpt l0 5)) h0 rfl inlX9 (by decide) kF_2_5 rfl rfl dX9_told_123 ?_
    refine j_get C hO (ci := 6) (k := 0) (v := vI (r1 (jpt l0 5) 0)) (tp_9_5 h0) rfl inlX6 (by decide) kF_15_5 rfl rfl dX9_told_126 ?_
    refine j_icmp_ge (tgt := 146) C rfl rfl dX9_told_129 (by decide) (fun c16 => ?_) (fun c16 => ?_)
    · have hf := (if_pos c16).symm.trans hf
      refine lv_iconst (v := Int32.ofInt (-1)) C.1 C.2.1 dX9_told_146 rfl ?_
      have hf := som_e hf
      subst hf
      exact j_iret C hO dX9_told_147
    · have hf := (if_neg c16).symm.trans hf
      refine lv_aload_n C.1 C.2.1 dX9_told_132 rfl (lv_at hl 0 rfl) ?_
      refine j_get C hO (ci := 9) (k := 5) (v := jR G (jpt l0 5)) h0 rfl inlX9 (by decide) kF_2_5 rfl rfl dX9_told_133 ?_
      refine lv_iload_n C.1 C.2.1 dX9_told_136 rfl (lv_at hl 1 rfl) ?_
      refine lv_bipush (v := Int32.ofInt 10) C.1 C.2.1 dX9_told_137 (by decide) ?_
      refine j_isub C dX9_told_139 ?_
      obtain ⟨r17, hr17, hf⟩ := bnd_e hf
      refine j_callV C hO (n := 1) (As := [vI (l1 - 10)]) (st1 := [vI r17]) (c_X6_weightOf l G r1 (jpt l0 5) (l1 - 10) (tp_9_5 h0) hr17) (tp_9_5 h0) rfl kC_16_4 kM_16_1 kI_16_2 kS_16_3 kN_2_4 ⟨by decide, by decide, by decide⟩ ⟨Nat.le_trans (by decide) hRf, Nat.le_trans (by decide) hRl⟩ rfl rfl rfl hl.1 rfl (Nat.le_of_ble_eq_true rfl) ⟨Nat.zero_le _, Nat.zero_le _⟩ dX9_told_140 rfl (fun H locs hO => ?_)
      refine lv_goto (tgt := 147) C.1 C.2.1 dX9_told_143 (by decide) ?_
      have hf := som_e hf
      subst hf
      exact j_iret C hO dX9_told_147
  have hf := (if_neg c15).symm.trans hf
  by_cases c18 : w32 l1 = 12
  · have hf := (if_pos c18).symm.trans hf
    refine j_tsw (tgt := 118) C c18 dX9_told_5 (by decide) (by decide) rfl (by decide) ?_
    refine lv_iload_n C.1 C.2.1 dX9_told_118 rfl (lv_at hl 1 rfl) ?_
    refine lv_bipush (v := Int32.ofInt 10) C.1 C.2.1 dX9_told_119 (by decide) ?_
    refine j_isub C dX9_told_121 ?_
    refine lv_aload_n C.1 C.2.1 dX9_told_122 rfl (lv_at hl 0 rfl) ?_
    refine j_get C hO (ci := 9) (k := 5) (v := jR G (jpt l0 5)) h0 rfl inlX9 (by decide) kF_2_5 rfl rfl dX9_told_123 ?_
    refine j_get C hO (ci := 6) (k := 0) (v := vI (r1 (jpt l0 5) 0)) (tp_9_5 h0) rfl inlX6 (by decide) kF_15_5 rfl rfl dX9_told_126 ?_
    refine j_icmp_ge (tgt := 146) C rfl rfl dX9_told_129 (by decide) (fun c19 => ?_) (fun c19 => ?_)
    · have hf := (if_pos c19).symm.trans hf
      refine lv_iconst (v := Int32.ofInt (-1)) C.1 C.2.1 dX9_told_146 rfl ?_
      have hf := som_e hf
      subst hf
      exact j_iret C hO dX9_told_147
    · have hf := (if_neg c19).symm.trans hf
      refine lv_aload_n C.1 C.2.1 dX9_told_132 rfl (lv_at hl 0 rfl) ?_
      refine j_get C hO (ci := 9) (k := 5) (v := jR G (jpt l0 5)) h0 rfl inlX9 (by decide) kF_2_5 rfl rfl dX9_told_133 ?_
      refine lv_iload_n C.1 C.2.1 dX9_told_136 rfl (lv_at hl 1 rfl) ?_
      refine lv_bipush (v := Int32.ofInt 10) C.1 C.2.1 dX9_told_137 (by decide) ?_
      refine j_isub C dX9_told_139 ?_
      obtain ⟨r20, hr20, hf⟩ := bnd_e hf
      refine j_callV C hO (n := 1) (As := [vI (l1 - 10)]) (st1 := [vI r20]) (c_X6_weightOf l G r1 (jpt l0 5) (l1 - 10) (tp_9_5 h0) hr20) (tp_9_5 h0) rfl kC_16_4 kM_16_1 kI_16_2 kS_16_3 kN_2_4 ⟨by decide, by decide, by decide⟩ ⟨Nat.le_trans (by decide) hRf, Nat.le_trans (by decide) hRl⟩ rfl rfl rfl hl.1 rfl (Nat.le_of_ble_eq_true rfl) ⟨Nat.zero_le _, Nat.zero_le _⟩ dX9_told_140 rfl (fun H locs hO => ?_)
      refine lv_goto (tgt := 147) C.1 C.2.1 dX9_told_143 (by decide) ?_
      have hf := som_e hf
      subst hf
      exact j_iret C hO dX9_told_147
  have hf := (if_neg c18).symm.trans hf
  refine j_tsd (tgt := 148) C dX9_told_5 (by omega) (by decide) ?_
  refine lv_iconst (v := Int32.ofInt (-1)) C.1 C.2.1 dX9_told_148 rfl ?_
  have hf := som_e hf
  subst hf
  exact j_iret C hO dX9_told_149
set_option maxHeartbeats 1000000 in
theorem c_X9_told (l : Launch) (G : jG)  (M : jM) (l0 l1 : Int) (h0 : jkd l0 = (9, 0)) {fin : Int × jM} (h : f_X9_told M l0 l1 = some fin) : Met l yX9_told (Cond.code yX9_told cX9_told 2 (some .int) :: wsL_law) ({ frames := 4, cells := 0, slots := 0, locals := 89 } : Room) (va_Pc [jR G l0, vI l1] (fun U => jRep G M U)) (jQ G (some (vI fin.1)) fin.2) 0 0 (jA G) := by
  refine Met.ofW (cc := cX9_told) (maxL := 2) (ret := (some .int)) (by decide) rfl ?_
  intro p e s m args below meth c s₁ B hml hv
  obtain ⟨rfl, hR0⟩ := hv
  have C : jCx p s m ([jR G l0, vI l1] : List Value).toArray meth c cX9_told 2 RX9 (Cond.code yX9_told cX9_told 2 (some .int)) (some .int) := ⟨B.exec, B.bytes, hml, findClass_of_methodNamed B.named, atoms_spec B.pre, B.returns, B.notSynchronized⟩
  have hO := hR0.ok
  have hl := lv_entry ([jR G l0, vI l1]) (n := 2) (Nat.le_of_ble_eq_true rfl)
  rw [lg_entry_eq]
  generalize (lg_sl ([jR G l0, vI l1]) ++ List.replicate (2 - (lg_sl ([jR G l0, vI l1])).length) Slot.unset).toArray = ls at hl ⊢
  have hl : lv_has ls 2 [(0, jR G l0), (1, vI l1)] := hl
  exact w_X9_told C (Nat.le_refl _) (Nat.le_refl _) M l0 l1 h0 h hO hl
set_option maxHeartbeats 4000000 in
theorem w_X9_lengthen {p : Program} {l : Launch} {e : Env} {R : Room} {s : State} {m : MethodId} {args : Array Value} {below : List Frame} {meth : Method} {c : Code} {H : Heap} {locs : List Loc} {ls : Array Slot} {G : jG}  (C : jCx p s m args meth c cX9_lengthen 3 RX9 (Cond.code yX9_lengthen cX9_lengthen 3 (some .int)) (some .int)) (hRf : 1 ≤ R.frames) (hRl : 21 ≤ R.locals)  (M : jM) (l0 l1 l2 : Int) (h0 : jkd l0 = (3, 0)) {fin : Int × jM} (hf : f_X9_lengthen M l0 l1 l2 = some fin) (hO : jOk G M s H locs) (hl : lv_has ls 3 [(0, jR G l0), (1, vI l1), (2, vI l2)]) : W p l e R s m args below meth c H locs 0 0 (MQ below (jQ G (some (vI fin.1)) fin.2) args s 0 0 (jA G)) (F0 m 0 ls []) := by
  unfold f_X9_lengthen at hf
  refine lv_iload_n C.1 C.2.1 dX9_lengthen_0 rfl (lv_at hl 1 rfl) ?_
  refine j_if_ge (tgt := 11) C rfl dX9_lengthen_1 (by decide) (fun c1 => ?_) (fun c1 => ?_)
  · have hf := (if_pos c1).symm.trans hf
    refine lv_aload_n C.1 C.2.1 dX9_lengthen_11 rfl (lv_at hl 0 rfl) ?_
    refine j_get C hO (ci := 3) (k := 0) (v := vI (M l0 0)) h0 rfl inlX3 (by decide) kF_17_10 rfl rfl dX9_lengthen_12 ?_
    refine lv_iload_n C.1 C.2.1 dX9_lengthen_15 rfl (lv_at hl 2 rfl) ?_
    refine j_icmp_lt (tgt := 22) C rfl rfl dX9_lengthen_16 (by decide) (fun c2 => ?_) (fun c2 => ?_)
    · have hf := (if_pos c2).symm.trans hf
      refine lv_aload_n C.1 C.2.1 dX9_lengthen_22 rfl (lv_at hl 0 rfl) ?_
      refine lv_iload_n C.1 C.2.1 dX9_lengthen_23 rfl (lv_at hl 1 rfl) ?_
      obtain ⟨r3, hr3, hf⟩ := bnd_e hf
      refine j_callV C hO (n := 1) (As := [vI l1]) (st1 := []) (c_X3_add l G M l0 l1 h0 hr3) h0 rfl kC_17_20 kM_17_17 kI_17_18 kS_17_19 kN_3_8 ⟨by decide, by decide, by decide⟩ ⟨Nat.le_trans (by decide) hRf, Nat.le_trans (by decide) hRl⟩ rfl rfl rfl hl.1 rfl (Nat.le_of_ble_eq_true rfl) ⟨Nat.zero_le _, Nat.zero_le _⟩ dX9_lengthen_24 rfl (fun H locs hO => ?_)
      refine lv_aload_n C.1 C.2.1 dX9_lengthen_27 rfl (lv_at hl 0 rfl) ?_
      refine j_get C hO (ci := 3) (k := 0) (v := vI (r3 l0 0)) h0 rfl inlX3 (by decide) kF_17_10 rfl rfl dX9_lengthen_28 ?_
      have hf := som_e hf
      subst hf
      exact j_iret C hO dX9_lengthen_31
    · have hf := (if_neg c2).symm.trans hf
      refine lv_bipush (v := Int32.ofInt (-4)) C.1 C.2.1 dX9_lengthen_19 (by decide) ?_
      have hf := som_e hf
      subst hf
      exact j_iret C hO dX9_lengthen_21
  · have hf := (if_neg c1).symm.trans hf
    refine lv_aload_n C.1 C.2.1 dX9_lengthen_4 rfl (lv_at hl 0 rfl) ?_
    refine lv_iconst (v := Int32.ofInt 0) C.1 C.2.1 dX9_lengthen_5 rfl ?_
    obtain ⟨r4, hr4, hf⟩ := bnd_e hf
    refine j_callV C hO (n := 1) (As := [vI 0]) (st1 := []) (c_X3_zeros l G M l0 0 h0 hr4) h0 rfl kC_17_14 kM_17_11 kI_17_12 kS_17_13 kN_3_8 ⟨by decide, by decide, by decide⟩ ⟨Nat.le_trans (by decide) hRf, Nat.le_trans (by decide) hRl⟩ rfl rfl rfl hl.1 rfl (Nat.le_of_ble_eq_true rfl) ⟨Nat.zero_le _, Nat.zero_le _⟩ dX9_lengthen_6 rfl (fun H locs hO => ?_)
    refine lv_iconst (v := Int32.ofInt 0) C.1 C.2.1 dX9_lengthen_9 rfl ?_
    have hf := som_e hf
    subst hf
    exact j_iret C hO dX9_lengthen_10
set_option maxHeartbeats 1000000 in
theorem c_X9_lengthen (l : Launch) (G : jG)  (M : jM) (l0 l1 l2 : Int) (h0 : jkd l0 = (3, 0)) {fin : Int × jM} (h : f_X9_lengthen M l0 l1 l2 = some fin) : Met l yX9_lengthen (Cond.code yX9_lengthen cX9_lengthen 3 (some .int) :: wsL_law) ({ frames := 1, cells := 0, slots := 0, locals := 21 } : Room) (va_Pc [jR G l0, vI l1, vI l2] (fun U => jRep G M U)) (jQ G (some (vI fin.1)) fin.2) 0 0 (jA G) := by
  refine Met.ofW (cc := cX9_lengthen) (maxL := 3) (ret := (some .int)) (by decide) rfl ?_
  intro p e s m args below meth c s₁ B hml hv
  obtain ⟨rfl, hR0⟩ := hv
  have C : jCx p s m ([jR G l0, vI l1, vI l2] : List Value).toArray meth c cX9_lengthen 3 RX9 (Cond.code yX9_lengthen cX9_lengthen 3 (some .int)) (some .int) := ⟨B.exec, B.bytes, hml, findClass_of_methodNamed B.named, atoms_spec B.pre, B.returns, B.notSynchronized⟩
  have hO := hR0.ok
  have hl := lv_entry ([jR G l0, vI l1, vI l2]) (n := 3) (Nat.le_of_ble_eq_true rfl)
  rw [lg_entry_eq]
  generalize (lg_sl ([jR G l0, vI l1, vI l2]) ++ List.replicate (3 - (lg_sl ([jR G l0, vI l1, vI l2])).length) Slot.unset).toArray = ls at hl ⊢
  have hl : lv_has ls 3 [(0, jR G l0), (1, vI l1), (2, vI l2)] := hl
  exact w_X9_lengthen C (Nat.le_refl _) (Nat.le_refl _) M l0 l1 l2 h0 h hO hl
set_option maxHeartbeats 4000000 in
theorem w_X9_sign {p : Program} {l : Launch} {e : Env} {R : Room} {s : State} {m : MethodId} {args : Array Value} {below : List Frame} {meth : Method} {c : Code} {H : Heap} {locs : List Loc} {ls : Array Slot} {G : jG}  (C : jCx p s m args meth c cX9_sign 2 RX9 (Cond.code yX9_sign cX9_sign 2 (some .int)) (some .int)) (hRf : 2 ≤ R.frames) (hRl : 43 ≤ R.locals)  (M : jM) (l0 l1 : Int) (h0 : jkd l0 = (9, 0)) {fin : Int × jM} (hf : f_X9_sign M l0 l1 = some fin) (hO : jOk G M s H locs) (hl : lv_has ls 2 [(0, jR G l0), (1, vI l1)]) : W p l e R s m args below meth c H locs 0 0 (MQ below (jQ G (some (vI fin.1)) fin.2) args s 0 0 (jA G)) (F0 m 0 ls []) := by
  unfold f_X9_sign at hf
  refine lv_iload_n C.1 C.2.1 dX9_sign_0 rfl (lv_at hl 1 rfl) ?_
  refine lv_iconst (v := Int32.ofInt (-1)) C.1 C.2.1 dX9_sign_1 rfl ?_
  refine j_icmp_lt (tgt := 10) C rfl (w32_id (by decide) (by decide)) dX9_sign_2 (by decide) (fun c1 => ?_) (fun c1 => ?_)
  · have hf := (if_pos c1).symm.trans hf
    refine lv_bipush (v := Int32.ofInt (-2)) C.1 C.2.1 dX9_sign_10 (by decide) ?_
    have hf := som_e hf
    subst hf
    exact j_iret C hO dX9_sign_12
  · have hf := (if_neg c1).symm.trans hf
    refine lv_iload_n C.1 C.2.1 dX9_sign_5 rfl (lv_at hl 1 rfl) ?_
    refine lv_iconst (v := Int32.ofInt 3) C.1 C.2.1 dX9_sign_6 rfl ?_
    refine j_icmp_lt (tgt := 13) C rfl (w32_id (by decide) (by decide)) dX9_sign_7 (by decide) (fun c2 => ?_) (fun c2 => ?_)
    · have hf := (if_pos c2).symm.trans hf
      refine lv_aload_n C.1 C.2.1 dX9_sign_13 rfl (lv_at hl 0 rfl) ?_
      refine j_get C hO (ci := 9) (k := 0) (v := jR G (jpt l0 0)) h0 rfl inlX9 (by decide) kF_1_15 rfl rfl dX9_sign_14 ?_
      refine j_get C hO (ci := 8) (k := 5) (v := jR G (jpt (jpt l0 0) 5)) (tp_9_0 h0) rfl inlX8 (by decide) kF_17_6 rfl rfl dX9_sign_17 ?_
      refine lv_iload_n C.1 C.2.1 dX9_sign_20 rfl (lv_at hl 1 rfl) ?_
      refine lv_bipush (v := Int32.ofInt 6) C.1 C.2.1 dX9_sign_21 (by decide) ?_
      obtain ⟨r3, hr3, hf⟩ := bnd_e hf
      refine j_callS C hO (n := 3) (As := [jR G (jpt (jpt l0 0) 5), vI l1, vI 6]) (st1 := [vI r3.1]) (c_X9_lengthen l G M (jpt (jpt l0 0) 5) l1 6 (tp_8_5 (tp_9_0 h0)) hr3) kC_17_9 kM_17_7 kT_17_8 kN_1_2 ⟨by decide, by decide, by decide⟩ ⟨Nat.le_trans (by decide) hRf, Nat.le_trans (by decide) hRl⟩ rfl rfl rfl hl.1 rfl (Nat.le_of_ble_eq_true rfl) ⟨Nat.zero_le _, Nat.zero_le _⟩ dX9_sign_23 rfl (fun H locs hO => ?_)
      have hf := som_e hf
      subst hf
      exact j_iret C hO dX9_sign_26
    · have hf := (if_neg c2).symm.trans hf
      refine lv_bipush (v := Int32.ofInt (-2)) C.1 C.2.1 dX9_sign_10 (by decide) ?_
      have hf := som_e hf
      subst hf
      exact j_iret C hO dX9_sign_12
set_option maxHeartbeats 1000000 in
theorem c_X9_sign (l : Launch) (G : jG)  (M : jM) (l0 l1 : Int) (h0 : jkd l0 = (9, 0)) {fin : Int × jM} (h : f_X9_sign M l0 l1 = some fin) : Met l yX9_sign (Cond.code yX9_sign cX9_sign 2 (some .int) :: wsL_law) ({ frames := 2, cells := 0, slots := 0, locals := 43 } : Room) (va_Pc [jR G l0, vI l1] (fun U => jRep G M U)) (jQ G (some (vI fin.1)) fin.2) 0 0 (jA G) := by
  refine Met.ofW (cc := cX9_sign) (maxL := 2) (ret := (some .int)) (by decide) rfl ?_
  intro p e s m args below meth c s₁ B hml hv
  obtain ⟨rfl, hR0⟩ := hv
  have C : jCx p s m ([jR G l0, vI l1] : List Value).toArray meth c cX9_sign 2 RX9 (Cond.code yX9_sign cX9_sign 2 (some .int)) (some .int) := ⟨B.exec, B.bytes, hml, findClass_of_methodNamed B.named, atoms_spec B.pre, B.returns, B.notSynchronized⟩
  have hO := hR0.ok
  have hl := lv_entry ([jR G l0, vI l1]) (n := 2) (Nat.le_of_ble_eq_true rfl)
  rw [lg_entry_eq]
  generalize (lg_sl ([jR G l0, vI l1]) ++ List.replicate (2 - (lg_sl ([jR G l0, vI l1])).length) Slot.unset).toArray = ls at hl ⊢
  have hl : lv_has ls 2 [(0, jR G l0), (1, vI l1)] := hl
  exact w_X9_sign C (Nat.le_refl _) (Nat.le_refl _) M l0 l1 h0 h hO hl
