set_option maxHeartbeats 4000000 in
theorem w_X10_told {p : Program} {l : Launch} {e : Env} {R : Room} {s : State} {m : MethodId} {args : Array Value} {below : List Frame} {meth : Method} {c : Code} {H : Heap} {locs : List Loc} {ls : Array Slot} {G : jG}  (C : jCx p s m args meth c cX10_told 2 RX10 (Cond.code yX10_told cX10_told 2 (some .int)) (some .int)) (hRf : 4 ≤ R.frames) (hRl : 93 ≤ R.locals)  (M : jM) (l0 l1 : Int) (h0 : jkd l0 = (10, 0)) {fin : Int × jM} (hf : f_X10_told M l0 l1 = some fin) (hO : jOk G M s H locs) (hl : lv_has ls 2 [(0, jR G l0), (1, vI l1)]) : W p l e R s m args below meth c H locs 0 0 (MQ below (jQ G (some (vI fin.1)) fin.2) args s 0 0 (jA G)) (F0 m 0 ls []) := by
  unfold f_X10_told at hf
  refine lv_aload_n C.1 C.2.1 dX10_told_0 rfl (lv_at hl 0 rfl) ?_
  obtain ⟨r1, hr1, hf⟩ := bnd_e hf
  refine j_callV C hO (n := 0) (As := []) (st1 := []) (c_X10_looksForWeights l G M l0 h0 hr1) h0 rfl kC_16_13 kM_16_10 kI_16_11 kS_16_12 kN_1_5 ⟨by decide, by decide, by decide⟩ ⟨Nat.le_trans (by decide) hRf, Nat.le_trans (by decide) hRl⟩ rfl rfl rfl hl.1 rfl (Nat.le_of_ble_eq_true rfl) ⟨Nat.zero_le _, Nat.zero_le _⟩ dX10_told_1 rfl (fun H locs hO => ?_)
  refine lv_iload_n C.1 C.2.1 dX10_told_4 rfl (lv_at hl 1 rfl) ?_
  by_cases c2 : w32 l1 = 0
  · have hf := (if_pos c2).symm.trans hf
    refine j_tsw (tgt := 40) C c2 dX10_told_5 (by decide) (by decide) rfl (by decide) ?_
    refine lv_aload_n C.1 C.2.1 dX10_told_40 rfl (lv_at hl 0 rfl) ?_
    obtain ⟨r3, hr3, hf⟩ := bnd_e hf
    refine j_callV C hO (n := 0) (As := []) (st1 := [vI r3]) (c_X10_signs l G r1 l0 h0 hr3) h0 rfl kC_16_17 kM_16_14 kI_16_15 kS_16_16 kN_1_5 ⟨by decide, by decide, by decide⟩ ⟨Nat.le_trans (by decide) hRf, Nat.le_trans (by decide) hRl⟩ rfl rfl rfl hl.1 rfl (Nat.le_of_ble_eq_true rfl) ⟨Nat.zero_le _, Nat.zero_le _⟩ dX10_told_41 rfl (fun H locs hO => ?_)
    have hf := som_e hf
    subst hf
    exact j_iret C hO dX10_told_44
  have hf := (if_neg c2).symm.trans hf
  by_cases c4 : w32 l1 = 1
  · have hf := (if_pos c4).symm.trans hf
    refine j_tsw (tgt := 45) C c4 dX10_told_5 (by decide) (by decide) rfl (by decide) ?_
    refine lv_aload_n C.1 C.2.1 dX10_told_45 rfl (lv_at hl 0 rfl) ?_
    refine lv_sipush (v := Int32.ofInt 237) C.1 C.2.1 dX10_told_46 (by decide) ?_
    refine lv_iconst (v := Int32.ofInt 1) C.1 C.2.1 dX10_told_49 rfl ?_
    obtain ⟨r5, hr5, hf⟩ := bnd_e hf
    refine j_callV C hO (n := 2) (As := [vI 237, vI 1]) (st1 := [vI r5]) (c_X10_tellsOf l G r1 l0 237 1 h0 hr5) h0 rfl kC_16_21 kM_16_18 kI_16_19 kS_16_20 kN_1_5 ⟨by decide, by decide, by decide⟩ ⟨Nat.le_trans (by decide) hRf, Nat.le_trans (by decide) hRl⟩ rfl rfl rfl hl.1 rfl (Nat.le_of_ble_eq_true rfl) ⟨Nat.zero_le _, Nat.zero_le _⟩ dX10_told_50 rfl (fun H locs hO => ?_)
    have hf := som_e hf
    subst hf
    exact j_iret C hO dX10_told_53
  have hf := (if_neg c4).symm.trans hf
  by_cases c6 : w32 l1 = 2
  · have hf := (if_pos c6).symm.trans hf
    refine j_tsw (tgt := 54) C c6 dX10_told_5 (by decide) (by decide) rfl (by decide) ?_
    refine lv_aload_n C.1 C.2.1 dX10_told_54 rfl (lv_at hl 0 rfl) ?_
    refine lv_sipush (v := Int32.ofInt 242) C.1 C.2.1 dX10_told_55 (by decide) ?_
    refine lv_bipush (v := Int32.ofInt 10) C.1 C.2.1 dX10_told_58 (by decide) ?_
    obtain ⟨r7, hr7, hf⟩ := bnd_e hf
    refine j_callV C hO (n := 2) (As := [vI 242, vI 10]) (st1 := [vI r7]) (c_X10_tellsOf l G r1 l0 242 10 h0 hr7) h0 rfl kC_16_21 kM_16_18 kI_16_19 kS_16_20 kN_1_5 ⟨by decide, by decide, by decide⟩ ⟨Nat.le_trans (by decide) hRf, Nat.le_trans (by decide) hRl⟩ rfl rfl rfl hl.1 rfl (Nat.le_of_ble_eq_true rfl) ⟨Nat.zero_le _, Nat.zero_le _⟩ dX10_told_60 rfl (fun H locs hO => ?_)
    have hf := som_e hf
    subst hf
    exact j_iret C hO dX10_told_63
  have hf := (if_neg c6).symm.trans hf
  by_cases c8 : w32 l1 = 3
  · have hf := (if_pos c8).symm.trans hf
    refine j_tsw (tgt := 64) C c8 dX10_told_5 (by decide) (by decide) rfl (by decide) ?_
    refine lv_aload_n C.1 C.2.1 dX10_told_64 rfl (lv_at hl 0 rfl) ?_
    refine j_get C hO (ci := 10) (k := 1) (v := jR G (jpt l0 1)) h0 rfl inlX10 (by decide) kF_5_23 rfl rfl dX10_told_65 ?_
    refine lv_bipush (v := Int32.ofInt 7) C.1 C.2.1 dX10_told_68 (by decide) ?_
    refine j_iald C hO (tp_10_1 h0) (w32_id (by decide) (by decide)) (by decide) (by decide) dX10_told_70 ?_
    have hf := som_e hf
    subst hf
    exact j_iret C hO dX10_told_71
  have hf := (if_neg c8).symm.trans hf
  by_cases c9 : w32 l1 = 4
  · have hf := (if_pos c9).symm.trans hf
    refine j_tsw (tgt := 72) C c9 dX10_told_5 (by decide) (by decide) rfl (by decide) ?_
    refine lv_aload_n C.1 C.2.1 dX10_told_72 rfl (lv_at hl 0 rfl) ?_
    refine j_get C hO (ci := 10) (k := 12) (v := vI (r1 l0 12)) h0 rfl inlX10 (by decide) kF_16_9 rfl rfl dX10_told_73 ?_
    have hf := som_e hf
    subst hf
    exact j_iret C hO dX10_told_76
  have hf := (if_neg c9).symm.trans hf
  refine j_tsd (tgt := 77) C dX10_told_5 (by omega) (by decide) ?_
  refine lv_iload_n C.1 C.2.1 dX10_told_77 rfl (lv_at hl 1 rfl) ?_
  refine lv_bipush (v := Int32.ofInt 10) C.1 C.2.1 dX10_told_78 (by decide) ?_
  refine lv_bipush (v := Int32.ofInt 9) C.1 C.2.1 dX10_told_80 (by decide) ?_
  refine lv_aload_n C.1 C.2.1 dX10_told_82 rfl (lv_at hl 0 rfl) ?_
  obtain ⟨r10, hr10, hf⟩ := bnd_e hf
  refine j_callV C hO (n := 0) (As := []) (st1 := [vI r10, vI 9, vI 10, vI l1]) (c_X10_signs l G r1 l0 h0 hr10) h0 rfl kC_16_17 kM_16_14 kI_16_15 kS_16_16 kN_1_5 ⟨by decide, by decide, by decide⟩ ⟨Nat.le_trans (by decide) hRf, Nat.le_trans (by decide) hRl⟩ rfl rfl rfl hl.1 rfl (Nat.le_of_ble_eq_true rfl) ⟨Nat.zero_le _, Nat.zero_le _⟩ dX10_told_83 rfl (fun H locs hO => ?_)
  refine j_iadd C dX10_told_86 ?_
  obtain ⟨r11, hr11, hf⟩ := bnd_e hf
  refine j_callS C hO (n := 3) (As := [vI l1, vI 10, vI (9 + r10)]) (st1 := [vI r11]) (c_X10_in l G r1 l1 10 (9 + r10)  hr11) kC_7_1 kM_6_23 kT_7_0 kN_1_5 ⟨by decide, by decide, by decide⟩ ⟨Nat.le_trans (by decide) hRf, Nat.le_trans (by decide) hRl⟩ rfl rfl rfl hl.1 rfl (Nat.le_of_ble_eq_true rfl) ⟨Nat.zero_le _, Nat.zero_le _⟩ dX10_told_87 rfl (fun H locs hO => ?_)
  refine j_if_eq (tgt := 105) C rfl dX10_told_90 (by decide) (fun c12 => ?_) (fun c12 => ?_)
  · have hf := (if_pos c12).symm.trans hf
    refine lv_iconst (v := Int32.ofInt (-1)) C.1 C.2.1 dX10_told_105 rfl ?_
    have hf := som_e hf
    subst hf
    exact j_iret C hO dX10_told_106
  · have hf := (if_neg c12).symm.trans hf
    refine lv_aload_n C.1 C.2.1 dX10_told_93 rfl (lv_at hl 0 rfl) ?_
    refine j_get C hO (ci := 10) (k := 11) (v := jR G (jpt l0 11)) h0 rfl inlX10 (by decide) kF_6_4 rfl rfl dX10_told_94 ?_
    refine lv_iload_n C.1 C.2.1 dX10_told_97 rfl (lv_at hl 1 rfl) ?_
    refine lv_bipush (v := Int32.ofInt 10) C.1 C.2.1 dX10_told_98 (by decide) ?_
    refine j_isub C dX10_told_100 ?_
    obtain ⟨g13, hf⟩ := grd_e hf
    refine j_iald C hO (tp_10_11 h0) rfl g13.1 g13.2 dX10_told_101 ?_
    refine lv_goto (tgt := 106) C.1 C.2.1 dX10_told_102 (by decide) ?_
    have hf := som_e hf
    subst hf
    exact j_iret C hO dX10_told_106
set_option maxHeartbeats 1000000 in
theorem c_X10_told (l : Launch) (G : jG)  (M : jM) (l0 l1 : Int) (h0 : jkd l0 = (10, 0)) {fin : Int × jM} (h : f_X10_told M l0 l1 = some fin) : Met l yX10_told (Cond.code yX10_told cX10_told 2 (some .int) :: wsL_law) ({ frames := 4, cells := 0, slots := 0, locals := 93 } : Room) (va_Pc [jR G l0, vI l1] (fun U => jRep G M U)) (jQ G (some (vI fin.1)) fin.2) 0 0 (jA G) := by
  refine Met.ofW (cc := cX10_told) (maxL := 2) (ret := (some .int)) (by decide) rfl ?_
  intro p e s m args below meth c s₁ B hml hv
  obtain ⟨rfl, hR0⟩ := hv
  have C : jCx p s m ([jR G l0, vI l1] : List Value).toArray meth c cX10_told 2 RX10 (Cond.code yX10_told cX10_told 2 (some .int)) (some .int) := ⟨B.exec, B.bytes, hml, findClass_of_methodNamed B.named, atoms_spec B.pre, B.returns, B.notSynchronized⟩
  have hO := hR0.ok
  have hl := lv_entry ([jR G l0, vI l1]) (n := 2) (Nat.le_of_ble_eq_true rfl)
  rw [lg_entry_eq]
  generalize (lg_sl ([jR G l0, vI l1]) ++ List.replicate (2 - (lg_sl ([jR G l0, vI l1])).length) Slot.unset).toArray = ls at hl ⊢
  have hl : lv_has ls 2 [(0, jR G l0), (1, vI l1)] := hl
  exact w_X10_told C (Nat.le_refl _) (Nat.le_refl _) M l0 l1 h0 h hO hl
set_option maxHeartbeats 4000000 in
theorem w_X10_sign {p : Program} {l : Launch} {e : Env} {R : Room} {s : State} {m : MethodId} {args : Array Value} {below : List Frame} {meth : Method} {c : Code} {H : Heap} {locs : List Loc} {ls : Array Slot} {G : jG}  (C : jCx p s m args meth c cX10_sign 2 RX10 (Cond.code yX10_sign cX10_sign 2 (some .int)) (some .int)) (hRf : 1 ≤ R.frames) (hRl : 22 ≤ R.locals)  (M : jM) (l0 l1 : Int) (h0 : jkd l0 = (10, 0)) {fin : Int × jM} (hf : f_X10_sign M l0 l1 = some fin) (hO : jOk G M s H locs) (hl : lv_has ls 2 [(0, jR G l0), (1, vI l1)]) : W p l e R s m args below meth c H locs 0 0 (MQ below (jQ G (some (vI fin.1)) fin.2) args s 0 0 (jA G)) (F0 m 0 ls []) := by
  unfold f_X10_sign at hf
  refine lv_iload_n C.1 C.2.1 dX10_sign_0 rfl (lv_at hl 1 rfl) ?_
  refine lv_iconst (v := Int32.ofInt (-1)) C.1 C.2.1 dX10_sign_1 rfl ?_
  refine j_icmp_ne (tgt := 14) C rfl (w32_id (by decide) (by decide)) dX10_sign_2 (by decide) (fun c1 => ?_) (fun c1 => ?_)
  · have hf := (if_neg c1).symm.trans hf
    refine lv_iload_n C.1 C.2.1 dX10_sign_14 rfl (lv_at hl 1 rfl) ?_
    refine lv_iconst (v := Int32.ofInt 0) C.1 C.2.1 dX10_sign_15 rfl ?_
    refine lv_iconst (v := Int32.ofInt 2) C.1 C.2.1 dX10_sign_16 rfl ?_
    obtain ⟨r2, hr2, hf⟩ := bnd_e hf
    refine j_callS C hO (n := 3) (As := [vI l1, vI 0, vI 2]) (st1 := [vI r2]) (c_X10_in l G M l1 0 2  hr2) kC_7_1 kM_6_23 kT_7_0 kN_1_5 ⟨by decide, by decide, by decide⟩ ⟨Nat.le_trans (by decide) hRf, Nat.le_trans (by decide) hRl⟩ rfl rfl rfl hl.1 rfl (Nat.le_of_ble_eq_true rfl) ⟨Nat.zero_le _, Nat.zero_le _⟩ dX10_sign_17 rfl (fun H locs hO => ?_)
    refine j_if_ne (tgt := 26) C rfl dX10_sign_20 (by decide) (fun c3 => ?_) (fun c3 => ?_)
    · have hf := (if_neg c3).symm.trans hf
      refine lv_aload_n C.1 C.2.1 dX10_sign_26 rfl (lv_at hl 0 rfl) ?_
      refine j_get C hO (ci := 10) (k := 1) (v := jR G (jpt l0 1)) h0 rfl inlX10 (by decide) kF_5_23 rfl rfl dX10_sign_27 ?_
      refine lv_iconst (v := Int32.ofInt 3) C.1 C.2.1 dX10_sign_30 rfl ?_
      refine j_iald C hO (tp_10_1 h0) (w32_id (by decide) (by decide)) (by decide) (by decide) dX10_sign_31 ?_
      refine lv_bipush (v := Int32.ofInt 6) C.1 C.2.1 dX10_sign_32 (by decide) ?_
      refine j_icmp_ne (tgt := 40) C rfl (w32_id (by decide) (by decide)) dX10_sign_34 (by decide) (fun c4 => ?_) (fun c4 => ?_)
      · have hf := (if_neg c4).symm.trans hf
        refine lv_aload_n C.1 C.2.1 dX10_sign_40 rfl (lv_at hl 0 rfl) ?_
        refine j_get C hO (ci := 10) (k := 1) (v := jR G (jpt l0 1)) h0 rfl inlX10 (by decide) kF_5_23 rfl rfl dX10_sign_41 ?_
        refine lv_bipush (v := Int32.ofInt 66) C.1 C.2.1 dX10_sign_44 (by decide) ?_
        refine lv_aload_n C.1 C.2.1 dX10_sign_46 rfl (lv_at hl 0 rfl) ?_
        refine j_get C hO (ci := 10) (k := 1) (v := jR G (jpt l0 1)) h0 rfl inlX10 (by decide) kF_5_23 rfl rfl dX10_sign_47 ?_
        refine lv_iconst (v := Int32.ofInt 3) C.1 C.2.1 dX10_sign_50 rfl ?_
        refine j_iald C hO (tp_10_1 h0) (w32_id (by decide) (by decide)) (by decide) (by decide) dX10_sign_51 ?_
        refine j_iadd C dX10_sign_52 ?_
        refine lv_iload_n C.1 C.2.1 dX10_sign_53 rfl (lv_at hl 1 rfl) ?_
        obtain ⟨g5, hf⟩ := grd_e hf
        obtain ⟨M6, hM6, hf⟩ := lt1_e hf
        refine j_iast C hO (x := l1) (tp_10_1 h0) rfl g5.1 g5.2 dX10_sign_54 (fun H locs hO => ?_)
        rw [← hM6] at hO
        refine lv_aload_n C.1 C.2.1 dX10_sign_55 rfl (lv_at hl 0 rfl) ?_
        refine j_get C hO (ci := 10) (k := 1) (v := jR G (jpt l0 1)) h0 rfl inlX10 (by decide) kF_5_23 rfl rfl dX10_sign_56 ?_
        refine lv_iconst (v := Int32.ofInt 3) C.1 C.2.1 dX10_sign_59 rfl ?_
        refine lv_dup2_11 C.1 C.2.1 dX10_sign_60 rfl rfl ?_
        refine j_iald C hO (tp_10_1 h0) (w32_id (by decide) (by decide)) (by decide) (by decide) dX10_sign_61 ?_
        refine lv_iconst (v := Int32.ofInt 1) C.1 C.2.1 dX10_sign_62 rfl ?_
        refine j_iadd C dX10_sign_63 ?_
        obtain ⟨M7, hM7, hf⟩ := lt1_e hf
        refine j_iast C hO (x := (M6 (jpt l0 1) 3) + 1) (tp_10_1 h0) (w32_id (by decide) (by decide)) (by decide) (by decide) dX10_sign_64 (fun H locs hO => ?_)
        rw [← hM7] at hO
        refine lv_aload_n C.1 C.2.1 dX10_sign_65 rfl (lv_at hl 0 rfl) ?_
        refine j_get C hO (ci := 10) (k := 1) (v := jR G (jpt l0 1)) h0 rfl inlX10 (by decide) kF_5_23 rfl rfl dX10_sign_66 ?_
        refine lv_iconst (v := Int32.ofInt 3) C.1 C.2.1 dX10_sign_69 rfl ?_
        refine j_iald C hO (tp_10_1 h0) (w32_id (by decide) (by decide)) (by decide) (by decide) dX10_sign_70 ?_
        have hf := som_e hf
        subst hf
        exact j_iret C hO dX10_sign_71
      · have hf := (if_pos c4).symm.trans hf
        refine lv_bipush (v := Int32.ofInt (-4)) C.1 C.2.1 dX10_sign_37 (by decide) ?_
        have hf := som_e hf
        subst hf
        exact j_iret C hO dX10_sign_39
    · have hf := (if_pos c3).symm.trans hf
      refine lv_bipush (v := Int32.ofInt (-2)) C.1 C.2.1 dX10_sign_23 (by decide) ?_
      have hf := som_e hf
      subst hf
      exact j_iret C hO dX10_sign_25
  · have hf := (if_pos c1).symm.trans hf
    refine lv_aload_n C.1 C.2.1 dX10_sign_5 rfl (lv_at hl 0 rfl) ?_
    refine j_get C hO (ci := 10) (k := 1) (v := jR G (jpt l0 1)) h0 rfl inlX10 (by decide) kF_5_23 rfl rfl dX10_sign_6 ?_
    refine lv_iconst (v := Int32.ofInt 3) C.1 C.2.1 dX10_sign_9 rfl ?_
    refine lv_iconst (v := Int32.ofInt 0) C.1 C.2.1 dX10_sign_10 rfl ?_
    obtain ⟨M8, hM8, hf⟩ := lt1_e hf
    refine j_iast C hO (x := 0) (tp_10_1 h0) (w32_id (by decide) (by decide)) (by decide) (by decide) dX10_sign_11 (fun H locs hO => ?_)
    rw [← hM8] at hO
    refine lv_iconst (v := Int32.ofInt 0) C.1 C.2.1 dX10_sign_12 rfl ?_
    have hf := som_e hf
    subst hf
    exact j_iret C hO dX10_sign_13
set_option maxHeartbeats 1000000 in
theorem c_X10_sign (l : Launch) (G : jG)  (M : jM) (l0 l1 : Int) (h0 : jkd l0 = (10, 0)) {fin : Int × jM} (h : f_X10_sign M l0 l1 = some fin) : Met l yX10_sign (Cond.code yX10_sign cX10_sign 2 (some .int) :: wsL_law) ({ frames := 1, cells := 0, slots := 0, locals := 22 } : Room) (va_Pc [jR G l0, vI l1] (fun U => jRep G M U)) (jQ G (some (vI fin.1)) fin.2) 0 0 (jA G) := by
  refine Met.ofW (cc := cX10_sign) (maxL := 2) (ret := (some .int)) (by decide) rfl ?_
  intro p e s m args below meth c s₁ B hml hv
  obtain ⟨rfl, hR0⟩ := hv
  have C : jCx p s m ([jR G l0, vI l1] : List Value).toArray meth c cX10_sign 2 RX10 (Cond.code yX10_sign cX10_sign 2 (some .int)) (some .int) := ⟨B.exec, B.bytes, hml, findClass_of_methodNamed B.named, atoms_spec B.pre, B.returns, B.notSynchronized⟩
  have hO := hR0.ok
  have hl := lv_entry ([jR G l0, vI l1]) (n := 2) (Nat.le_of_ble_eq_true rfl)
  rw [lg_entry_eq]
  generalize (lg_sl ([jR G l0, vI l1]) ++ List.replicate (2 - (lg_sl ([jR G l0, vI l1])).length) Slot.unset).toArray = ls at hl ⊢
  have hl : lv_has ls 2 [(0, jR G l0), (1, vI l1)] := hl
  exact w_X10_sign C (Nat.le_refl _) (Nat.le_refl _) M l0 l1 h0 h hO hl
set_option maxHeartbeats 4000000 in
theorem w_X10_row_L35 {p : Program} {l : Launch} {e : Env} {R : Room} {s : State} {m : MethodId} {args : Array Value} {below : List Frame} {meth : Method} {c : Code} {H : Heap} {locs : List Loc} {ls : Array Slot} {G : jG}  (C : jCx p s m args meth c cX10_row 3 RX10 (Cond.code yX10_row cX10_row 3 (some .int)) (some .int)) (hRf : 0 ≤ R.frames) (hRl : 0 ≤ R.locals)  (M : jM) (l0 l1 : Int) (h0 : jkd l0 = (10, 0)) {fin : Int × jM} (S : jM × Int) {rr : (jM × Int) ⊕ jM} (hf : f_X10_row_L35 M l0 l1 S = some rr) (kc : ∀ q : jM × Int, rr = .inl q → ∀ (H : Heap) (locs : List Loc) (ls : Array Slot), jOk G q.1 s H locs → lv_has ls 3 [(0, jR G l0), (1, vI l1), (2, vI q.2)] → W p l e R s m args below meth c H locs 0 0 (MQ below (jQ G (some (vI fin.1)) fin.2) args s 0 0 (jA G)) (F0 m 35 ls [])) (kx0 : ∀ q : jM, rr = .inr q → ∀ (H : Heap) (locs : List Loc) (ls : Array Slot), jOk G q s H locs → lv_has ls 3 [(0, jR G l0), (1, vI l1)] → W p l e R s m args below meth c H locs 0 0 (MQ below (jQ G (some (vI fin.1)) fin.2) args s 0 0 (jA G)) (F0 m 70 ls [])) (hO : jOk G S.1 s H locs) (hl : lv_has ls 3 [(0, jR G l0), (1, vI l1), (2, vI S.2)]) : W p l e R s m args below meth c H locs 0 0 (MQ below (jQ G (some (vI fin.1)) fin.2) args s 0 0 (jA G)) (F0 m 35 ls []) := by
  unfold f_X10_row_L35 at hf
  refine lv_iload_n C.1 C.2.1 dX10_row_35 rfl (lv_at hl 2 rfl) ?_
  refine lv_bipush (v := Int32.ofInt 6) C.1 C.2.1 dX10_row_36 (by decide) ?_
  refine j_icmp_ge (tgt := 70) C rfl (w32_id (by decide) (by decide)) dX10_row_38 (by decide) (fun c3 => ?_) (fun c3 => ?_)
  · have hf := (if_pos c3).symm.trans hf
    exact kx0 _ (som_e hf).symm _ _ _ hO (lv_sub hl [0, 1] rfl)
  · have hf := (if_neg c3).symm.trans hf
    refine lv_aload_n C.1 C.2.1 dX10_row_41 rfl (lv_at hl 0 rfl) ?_
    refine j_get C hO (ci := 10) (k := 1) (v := jR G (jpt l0 1)) h0 rfl inlX10 (by decide) kF_5_23 rfl rfl dX10_row_42 ?_
    refine lv_bipush (v := Int32.ofInt 10) C.1 C.2.1 dX10_row_45 (by decide) ?_
    refine lv_bipush (v := Int32.ofInt 6) C.1 C.2.1 dX10_row_47 (by decide) ?_
    refine lv_iload_n C.1 C.2.1 dX10_row_49 rfl (lv_at hl 1 rfl) ?_
    refine j_imul C dX10_row_50 ?_
    refine j_iadd C dX10_row_51 ?_
    refine lv_iload_n C.1 C.2.1 dX10_row_52 rfl (lv_at hl 2 rfl) ?_
    refine j_iadd C dX10_row_53 ?_
    refine lv_aload_n C.1 C.2.1 dX10_row_54 rfl (lv_at hl 0 rfl) ?_
    refine j_get C hO (ci := 10) (k := 1) (v := jR G (jpt l0 1)) h0 rfl inlX10 (by decide) kF_5_23 rfl rfl dX10_row_55 ?_
    refine lv_bipush (v := Int32.ofInt 66) C.1 C.2.1 dX10_row_58 (by decide) ?_
    refine lv_iload_n C.1 C.2.1 dX10_row_60 rfl (lv_at hl 2 rfl) ?_
    refine j_iadd C dX10_row_61 ?_
    obtain ⟨g4, hf⟩ := grd_e hf
    refine j_iald C hO (tp_10_1 h0) rfl g4.1 g4.2 dX10_row_62 ?_
    obtain ⟨g5, hf⟩ := grd_e hf
    obtain ⟨M6, hM6, hf⟩ := lt1_e hf
    refine j_iast C hO (x := S.1 (jpt l0 1) (w32 (66 + S.2))) (tp_10_1 h0) rfl g5.1 g5.2 dX10_row_63 (fun H locs hO => ?_)
    rw [← hM6] at hO
    refine lv_iinc (v := Int32.ofInt (S.2 + 1)) (lv' := [(2, vI (S.2 + 1)), (0, jR G l0), (1, vI l1)]) C.1 C.2.1 dX10_row_64 hl (k := 2) rfl (Int32.ofInt_add _ _).symm (by decide) rfl (fun ls hl => ?_)
    refine lv_goto (tgt := 35) C.1 C.2.1 dX10_row_67 (by decide) ?_
    exact kc _ (som_e hf).symm _ _ _ hO (lv_sub hl [1, 2, 0] rfl)
set_option maxHeartbeats 4000000 in
theorem w_X10_row {p : Program} {l : Launch} {e : Env} {R : Room} {s : State} {m : MethodId} {args : Array Value} {below : List Frame} {meth : Method} {c : Code} {H : Heap} {locs : List Loc} {ls : Array Slot} {G : jG}  (C : jCx p s m args meth c cX10_row 3 RX10 (Cond.code yX10_row cX10_row 3 (some .int)) (some .int)) (hRf : 0 ≤ R.frames) (hRl : 0 ≤ R.locals)  (M : jM) (l0 : Int) (h0 : jkd l0 = (10, 0)) {fin : Int × jM} (hf : f_X10_row M l0 = some fin) (hO : jOk G M s H locs) (hl : lv_has ls 3 [(0, jR G l0)]) : W p l e R s m args below meth c H locs 0 0 (MQ below (jQ G (some (vI fin.1)) fin.2) args s 0 0 (jA G)) (F0 m 0 ls []) := by
  unfold f_X10_row at hf
  refine lv_aload_n C.1 C.2.1 dX10_row_0 rfl (lv_at hl 0 rfl) ?_
  refine j_get C hO (ci := 10) (k := 1) (v := jR G (jpt l0 1)) h0 rfl inlX10 (by decide) kF_5_23 rfl rfl dX10_row_1 ?_
  refine lv_iconst (v := Int32.ofInt 3) C.1 C.2.1 dX10_row_4 rfl ?_
  refine j_iald C hO (tp_10_1 h0) (w32_id (by decide) (by decide)) (by decide) (by decide) dX10_row_5 ?_
  refine j_if_ne (tgt := 12) C rfl dX10_row_6 (by decide) (fun c1 => ?_) (fun c1 => ?_)
  · have hf := (if_neg c1).symm.trans hf
    refine lv_aload_n C.1 C.2.1 dX10_row_12 rfl (lv_at hl 0 rfl) ?_
    refine j_get C hO (ci := 10) (k := 1) (v := jR G (jpt l0 1)) h0 rfl inlX10 (by decide) kF_5_23 rfl rfl dX10_row_13 ?_
    refine lv_iconst (v := Int32.ofInt 0) C.1 C.2.1 dX10_row_16 rfl ?_
    refine j_iald C hO (tp_10_1 h0) (w32_id (by decide) (by decide)) (by decide) (by decide) dX10_row_17 ?_
    refine lv_bipush (v := Int32.ofInt 6) C.1 C.2.1 dX10_row_18 (by decide) ?_
    refine j_icmp_ne (tgt := 26) C rfl (w32_id (by decide) (by decide)) dX10_row_20 (by decide) (fun c2 => ?_) (fun c2 => ?_)
    · have hf := (if_neg c2).symm.trans hf
      refine lv_aload_n C.1 C.2.1 dX10_row_26 rfl (lv_at hl 0 rfl) ?_
      refine j_get C hO (ci := 10) (k := 1) (v := jR G (jpt l0 1)) h0 rfl inlX10 (by decide) kF_5_23 rfl rfl dX10_row_27 ?_
      refine lv_iconst (v := Int32.ofInt 0) C.1 C.2.1 dX10_row_30 rfl ?_
      refine j_iald C hO (tp_10_1 h0) (w32_id (by decide) (by decide)) (by decide) (by decide) dX10_row_31 ?_
      refine lv_istore_n (lv' := [(1, vI (M (jpt l0 1) 0)), (0, jR G l0)]) C.1 C.2.1 dX10_row_32 rfl hl (by decide) rfl (fun ls hl => ?_)
      refine lv_iconst (v := Int32.ofInt 0) C.1 C.2.1 dX10_row_33 rfl ?_
      refine lv_istore_n (lv' := [(2, vI 0), (1, vI (M (jpt l0 1) 0)), (0, jR G l0)]) C.1 C.2.1 dX10_row_34 rfl hl (by decide) rfl (fun ls hl => ?_)
      obtain ⟨x7, hx7, hf⟩ := bnd_e hf
      refine iter_e (P := fun Z => ∀ (H : Heap) (locs : List Loc) (ls : Array Slot), jOk G Z.1 s H locs → lv_has ls 3 [(0, jR G l0), (1, vI (M (jpt l0 1) 0)), (2, vI Z.2)] → W p l e R s m args below meth c H locs 0 0 (MQ below (jQ G (some (vI fin.1)) fin.2) args s 0 0 (jA G)) (F0 m 35 ls [])) (E := fun q => ∀ (H : Heap) (locs : List Loc) (ls : Array Slot), jOk G q s H locs → lv_has ls 3 [(0, jR G l0), (1, vI (M (jpt l0 1) 0))] → W p l e R s m args below meth c H locs 0 0 (MQ below (jQ G (some (vI fin.1)) fin.2) args s 0 0 (jA G)) (F0 m 70 ls [])) (fun Z rr hb kc kx H locs ls hO hl => w_X10_row_L35 C hRf hRl M l0 (M (jpt l0 1) 0) h0 Z hb kc (fun q e => kx q e) hO hl) 5000 (M, 0) x7 hx7 ?_ _ _ _ hO (lv_sub hl [2, 1, 0] rfl)
      clear hO hl
      intro H locs ls hO hl
      refine lv_aload_n C.1 C.2.1 dX10_row_70 rfl (lv_at hl 0 rfl) ?_
      refine j_get C hO (ci := 10) (k := 1) (v := jR G (jpt l0 1)) h0 rfl inlX10 (by decide) kF_5_23 rfl rfl dX10_row_71 ?_
      refine lv_bipush (v := Int32.ofInt 58) C.1 C.2.1 dX10_row_74 (by decide) ?_
      refine lv_iload_n C.1 C.2.1 dX10_row_76 rfl (lv_at hl 1 rfl) ?_
      refine j_iadd C dX10_row_77 ?_
      refine lv_aload_n C.1 C.2.1 dX10_row_78 rfl (lv_at hl 0 rfl) ?_
      refine j_get C hO (ci := 10) (k := 1) (v := jR G (jpt l0 1)) h0 rfl inlX10 (by decide) kF_5_23 rfl rfl dX10_row_79 ?_
      refine lv_iconst (v := Int32.ofInt 3) C.1 C.2.1 dX10_row_82 rfl ?_
      refine j_iald C hO (tp_10_1 h0) (w32_id (by decide) (by decide)) (by decide) (by decide) dX10_row_83 ?_
      obtain ⟨g8, hf⟩ := grd_e hf
      obtain ⟨M9, hM9, hf⟩ := lt1_e hf
      refine j_iast C hO (x := x7 (jpt l0 1) 3) (tp_10_1 h0) rfl g8.1 g8.2 dX10_row_84 (fun H locs hO => ?_)
      rw [← hM9] at hO
      refine lv_aload_n C.1 C.2.1 dX10_row_85 rfl (lv_at hl 0 rfl) ?_
      refine j_get C hO (ci := 10) (k := 1) (v := jR G (jpt l0 1)) h0 rfl inlX10 (by decide) kF_5_23 rfl rfl dX10_row_86 ?_
      refine lv_iconst (v := Int32.ofInt 3) C.1 C.2.1 dX10_row_89 rfl ?_
      refine lv_iconst (v := Int32.ofInt 0) C.1 C.2.1 dX10_row_90 rfl ?_
      obtain ⟨M10, hM10, hf⟩ := lt1_e hf
      refine j_iast C hO (x := 0) (tp_10_1 h0) (w32_id (by decide) (by decide)) (by decide) (by decide) dX10_row_91 (fun H locs hO => ?_)
      rw [← hM10] at hO
      refine lv_aload_n C.1 C.2.1 dX10_row_92 rfl (lv_at hl 0 rfl) ?_
      refine j_get C hO (ci := 10) (k := 1) (v := jR G (jpt l0 1)) h0 rfl inlX10 (by decide) kF_5_23 rfl rfl dX10_row_93 ?_
      refine lv_iconst (v := Int32.ofInt 0) C.1 C.2.1 dX10_row_96 rfl ?_
      refine lv_dup2_11 C.1 C.2.1 dX10_row_97 rfl rfl ?_
      refine j_iald C hO (tp_10_1 h0) (w32_id (by decide) (by decide)) (by decide) (by decide) dX10_row_98 ?_
      refine lv_iconst (v := Int32.ofInt 1) C.1 C.2.1 dX10_row_99 rfl ?_
      refine j_iadd C dX10_row_100 ?_
      obtain ⟨M11, hM11, hf⟩ := lt1_e hf
      refine j_iast C hO (x := (M10 (jpt l0 1) 0) + 1) (tp_10_1 h0) (w32_id (by decide) (by decide)) (by decide) (by decide) dX10_row_101 (fun H locs hO => ?_)
      rw [← hM11] at hO
      refine lv_iload_n C.1 C.2.1 dX10_row_102 rfl (lv_at hl 1 rfl) ?_
      have hf := som_e hf
      subst hf
      exact j_iret C hO dX10_row_103
    · have hf := (if_pos c2).symm.trans hf
      refine lv_bipush (v := Int32.ofInt (-4)) C.1 C.2.1 dX10_row_23 (by decide) ?_
      have hf := som_e hf
      subst hf
      exact j_iret C hO dX10_row_25
  · have hf := (if_pos c1).symm.trans hf
    refine lv_bipush (v := Int32.ofInt (-3)) C.1 C.2.1 dX10_row_9 (by decide) ?_
    have hf := som_e hf
    subst hf
    exact j_iret C hO dX10_row_11
set_option maxHeartbeats 1000000 in
theorem c_X10_row (l : Launch) (G : jG)  (M : jM) (l0 : Int) (h0 : jkd l0 = (10, 0)) {fin : Int × jM} (h : f_X10_row M l0 = some fin) : Met l yX10_row (Cond.code yX10_row cX10_row 3 (some .int) :: wsL_law) ({ frames := 0, cells := 0, slots := 0, locals := 0 } : Room) (va_Pc [jR G l0] (fun U => jRep G M U)) (jQ G (some (vI fin.1)) fin.2) 0 0 (jA G) := by
  refine Met.ofW (cc := cX10_row) (maxL := 3) (ret := (some .int)) (by decide) rfl ?_
  intro p e s m args below meth c s₁ B hml hv
  obtain ⟨rfl, hR0⟩ := hv
  have C : jCx p s m ([jR G l0] : List Value).toArray meth c cX10_row 3 RX10 (Cond.code yX10_row cX10_row 3 (some .int)) (some .int) := ⟨B.exec, B.bytes, hml, findClass_of_methodNamed B.named, atoms_spec B.pre, B.returns, B.notSynchronized⟩
  have hO := hR0.ok
  have hl := lv_entry ([jR G l0]) (n := 3) (Nat.le_of_ble_eq_true rfl)
  rw [lg_entry_eq]
  generalize (lg_sl ([jR G l0]) ++ List.replicate (3 - (lg_sl ([jR G l0])).length) Slot.unset).toArray = ls at hl ⊢
  have hl : lv_has ls 3 [(0, jR G l0)] := hl
  exact w_X10_row C (Nat.le_refl _) (Nat.le_refl _) M l0 h0 h hO hl
set_option maxHeartbeats 4000000 in
theorem w_X10_of {p : Program} {l : Launch} {e : Env} {R : Room} {s : State} {m : MethodId} {args : Array Value} {below : List Frame} {meth : Method} {c : Code} {H : Heap} {locs : List Loc} {ls : Array Slot} {G : jG}  (C : jCx p s m args meth c cX10_of 3 RX10 (Cond.code yX10_of cX10_of 3 (some .int)) (some .int)) (hRf : 2 ≤ R.frames) (hRl : 43 ≤ R.locals)  (M : jM) (l0 l1 l2 : Int) (h0 : jkd l0 = (10, 0)) {fin : Int} (hf : f_X10_of M l0 l1 l2 = some fin) (hO : jOk G M s H locs) (hl : lv_has ls 3 [(0, jR G l0), (1, vI l1), (2, vI l2)]) : W p l e R s m args below meth c H locs 0 0 (MQ below (jQ G (some (vI fin)) M) args s 0 0 (jA G)) (F0 m 0 ls []) := by
  unfold f_X10_of at hf
  refine lv_aload_n C.1 C.2.1 dX10_of_0 rfl (lv_at hl 0 rfl) ?_
  refine lv_iload_n C.1 C.2.1 dX10_of_1 rfl (lv_at hl 1 rfl) ?_
  obtain ⟨r1, hr1, hf⟩ := bnd_e hf
  refine j_callV C hO (n := 1) (As := [vI l1]) (st1 := [vI r1]) (c_X10_isRow l G M l0 l1 h0 hr1) h0 rfl kC_19_14 kM_19_11 kI_19_12 kS_19_13 kN_1_5 ⟨by decide, by decide, by decide⟩ ⟨Nat.le_trans (by decide) hRf, Nat.le_trans (by decide) hRl⟩ rfl rfl rfl hl.1 rfl (Nat.le_of_ble_eq_true rfl) ⟨Nat.zero_le _, Nat.zero_le _⟩ dX10_of_2 rfl (fun H locs hO => ?_)
  refine j_if_eq (tgt := 27) C rfl dX10_of_5 (by decide) (fun c2 => ?_) (fun c2 => ?_)
  · have hf := (if_pos c2).symm.trans hf
    refine lv_iconst (v := Int32.ofInt (-1)) C.1 C.2.1 dX10_of_27 rfl ?_
    have hf := som_e hf
    subst hf
    exact j_iret C hO dX10_of_28
  · have hf := (if_neg c2).symm.trans hf
    refine lv_iload_n C.1 C.2.1 dX10_of_8 rfl (lv_at hl 2 rfl) ?_
    refine lv_iconst (v := Int32.ofInt (-1)) C.1 C.2.1 dX10_of_9 rfl ?_
    refine lv_aload_n C.1 C.2.1 dX10_of_10 rfl (lv_at hl 0 rfl) ?_
    refine j_get C hO (ci := 10) (k := 1) (v := jR G (jpt l0 1)) h0 rfl inlX10 (by decide) kF_5_23 rfl rfl dX10_of_11 ?_
    refine lv_bipush (v := Int32.ofInt 58) C.1 C.2.1 dX10_of_14 (by decide) ?_
    refine lv_iload_n C.1 C.2.1 dX10_of_16 rfl (lv_at hl 1 rfl) ?_
    refine j_iadd C dX10_of_17 ?_
    obtain ⟨g3, hf⟩ := grd_e hf
    refine j_iald C hO (tp_10_1 h0) rfl g3.1 g3.2 dX10_of_18 ?_
    refine lv_iconst (v := Int32.ofInt 1) C.1 C.2.1 dX10_of_19 rfl ?_
    refine j_isub C dX10_of_20 ?_
    obtain ⟨r4, hr4, hf⟩ := bnd_e hf
    refine j_callS C hO (n := 3) (As := [vI l2, vI (-1), vI ((M (jpt l0 1) (w32 (58 + l1))) - 1)]) (st1 := [vI r4]) (c_X10_in l G M l2 (-1) ((M (jpt l0 1) (w32 (58 + l1))) - 1)  hr4) kC_7_1 kM_6_23 kT_7_0 kN_1_5 ⟨by decide, by decide, by decide⟩ ⟨Nat.le_trans (by decide) hRf, Nat.le_trans (by decide) hRl⟩ rfl rfl rfl hl.1 rfl (Nat.le_of_ble_eq_true rfl) ⟨Nat.zero_le _, Nat.zero_le _⟩ dX10_of_21 rfl (fun H locs hO => ?_)
    refine j_if_ne (tgt := 29) C rfl dX10_of_24 (by decide) (fun c5 => ?_) (fun c5 => ?_)
    · have hf := (if_neg c5).symm.trans hf
      refine lv_iload_n C.1 C.2.1 dX10_of_29 rfl (lv_at hl 2 rfl) ?_
      refine lv_iconst (v := Int32.ofInt (-1)) C.1 C.2.1 dX10_of_30 rfl ?_
      refine j_icmp_ne (tgt := 46) C rfl (w32_id (by decide) (by decide)) dX10_of_31 (by decide) (fun c6 => ?_) (fun c6 => ?_)
      · have hf := (if_neg c6).symm.trans hf
        refine lv_aload_n C.1 C.2.1 dX10_of_46 rfl (lv_at hl 0 rfl) ?_
        refine j_get C hO (ci := 10) (k := 1) (v := jR G (jpt l0 1)) h0 rfl inlX10 (by decide) kF_5_23 rfl rfl dX10_of_47 ?_
        refine lv_bipush (v := Int32.ofInt 10) C.1 C.2.1 dX10_of_50 (by decide) ?_
        refine lv_bipush (v := Int32.ofInt 6) C.1 C.2.1 dX10_of_52 (by decide) ?_
        refine lv_iload_n C.1 C.2.1 dX10_of_54 rfl (lv_at hl 1 rfl) ?_
        refine j_imul C dX10_of_55 ?_
        refine j_iadd C dX10_of_56 ?_
        refine lv_iload_n C.1 C.2.1 dX10_of_57 rfl (lv_at hl 2 rfl) ?_
        refine j_iadd C dX10_of_58 ?_
        obtain ⟨g7, hf⟩ := grd_e hf
        refine j_iald C hO (tp_10_1 h0) rfl g7.1 g7.2 dX10_of_59 ?_
        have hf := som_e hf
        subst hf
        exact j_iret C hO dX10_of_60
      · have hf := (if_pos c6).symm.trans hf
        refine lv_aload_n C.1 C.2.1 dX10_of_34 rfl (lv_at hl 0 rfl) ?_
        refine j_get C hO (ci := 10) (k := 1) (v := jR G (jpt l0 1)) h0 rfl inlX10 (by decide) kF_5_23 rfl rfl dX10_of_35 ?_
        refine lv_bipush (v := Int32.ofInt 58) C.1 C.2.1 dX10_of_38 (by decide) ?_
        refine lv_iload_n C.1 C.2.1 dX10_of_40 rfl (lv_at hl 1 rfl) ?_
        refine j_iadd C dX10_of_41 ?_
        obtain ⟨g8, hf⟩ := grd_e hf
        refine j_iald C hO (tp_10_1 h0) rfl g8.1 g8.2 dX10_of_42 ?_
        refine lv_goto (tgt := 60) C.1 C.2.1 dX10_of_43 (by decide) ?_
        have hf := som_e hf
        subst hf
        exact j_iret C hO dX10_of_60
    · have hf := (if_pos c5).symm.trans hf
      refine lv_iconst (v := Int32.ofInt (-1)) C.1 C.2.1 dX10_of_27 rfl ?_
      have hf := som_e hf
      subst hf
      exact j_iret C hO dX10_of_28
set_option maxHeartbeats 1000000 in
theorem c_X10_of (l : Launch) (G : jG)  (M : jM) (l0 l1 l2 : Int) (h0 : jkd l0 = (10, 0)) {fin : Int} (h : f_X10_of M l0 l1 l2 = some fin) : Met l yX10_of (Cond.code yX10_of cX10_of 3 (some .int) :: wsL_law) ({ frames := 2, cells := 0, slots := 0, locals := 43 } : Room) (va_Pc [jR G l0, vI l1, vI l2] (fun U => jRep G M U)) (jQ G (some (vI fin)) M) 0 0 (jA G) := by
  refine Met.ofW (cc := cX10_of) (maxL := 3) (ret := (some .int)) (by decide) rfl ?_
  intro p e s m args below meth c s₁ B hml hv
  obtain ⟨rfl, hR0⟩ := hv
  have C : jCx p s m ([jR G l0, vI l1, vI l2] : List Value).toArray meth c cX10_of 3 RX10 (Cond.code yX10_of cX10_of 3 (some .int)) (some .int) := ⟨B.exec, B.bytes, hml, findClass_of_methodNamed B.named, atoms_spec B.pre, B.returns, B.notSynchronized⟩
  have hO := hR0.ok
  have hl := lv_entry ([jR G l0, vI l1, vI l2]) (n := 3) (Nat.le_of_ble_eq_true rfl)
  rw [lg_entry_eq]
  generalize (lg_sl ([jR G l0, vI l1, vI l2]) ++ List.replicate (3 - (lg_sl ([jR G l0, vI l1, vI l2])).length) Slot.unset).toArray = ls at hl ⊢
  have hl : lv_has ls 3 [(0, jR G l0), (1, vI l1), (2, vI l2)] := hl
  exact w_X10_of C (Nat.le_refl _) (Nat.le_refl _) M l0 l1 l2 h0 h hO hl
set_option maxHeartbeats 4000000 in
theorem w_X10_player {p : Program} {l : Launch} {e : Env} {R : Room} {s : State} {m : MethodId} {args : Array Value} {below : List Frame} {meth : Method} {c : Code} {H : Heap} {locs : List Loc} {ls : Array Slot} {G : jG}  (C : jCx p s m args meth c cX10_player 4 RX10 (Cond.code yX10_player cX10_player 4 (some .int)) (some .int)) (hRf : 1 ≤ R.frames) (hRl : 22 ≤ R.locals)  (M : jM) (l0 l1 l2 : Int) (h0 : jkd l0 = (10, 0)) {fin : Int × jM} (hf : f_X10_player M l0 l1 l2 = some fin) (hO : jOk G M s H locs) (hl : lv_has ls 4 [(0, jR G l0), (1, vI l1), (2, vI l2)]) : W p l e R s m args below meth c H locs 0 0 (MQ below (jQ G (some (vI fin.1)) fin.2) args s 0 0 (jA G)) (F0 m 0 ls []) := by
  unfold f_X10_player at hf
  refine lv_iload_n C.1 C.2.1 dX10_player_0 rfl (lv_at hl 1 rfl) ?_
  refine lv_iconst (v := Int32.ofInt 0) C.1 C.2.1 dX10_player_1 rfl ?_
  refine lv_bipush (v := Int32.ofInt 6) C.1 C.2.1 dX10_player_2 (by decide) ?_
  obtain ⟨r1, hr1, hf⟩ := bnd_e hf
  refine j_callS C hO (n := 3) (As := [vI l1, vI 0, vI 6]) (st1 := [vI r1]) (c_X10_in l G M l1 0 6  hr1) kC_7_1 kM_6_23 kT_7_0 kN_1_5 ⟨by decide, by decide, by decide⟩ ⟨Nat.le_trans (by decide) hRf, Nat.le_trans (by decide) hRl⟩ rfl rfl rfl hl.1 rfl (Nat.le_of_ble_eq_true rfl) ⟨Nat.zero_le _, Nat.zero_le _⟩ dX10_player_4 rfl (fun H locs hO => ?_)
  refine j_if_ne (tgt := 12) C rfl dX10_player_7 (by decide) (fun c2 => ?_) (fun c2 => ?_)
  · have hf := (if_neg c2).symm.trans hf
    refine lv_iload_n C.1 C.2.1 dX10_player_12 rfl (lv_at hl 2 rfl) ?_
    refine lv_iconst (v := Int32.ofInt 0) C.1 C.2.1 dX10_player_13 rfl ?_
    refine lv_bipush (v := Int32.ofInt 9) C.1 C.2.1 dX10_player_14 (by decide) ?_
    obtain ⟨r3, hr3, hf⟩ := bnd_e hf
    refine j_callS C hO (n := 3) (As := [vI l2, vI 0, vI 9]) (st1 := [vI r3]) (c_X10_in l G M l2 0 9  hr3) kC_7_1 kM_6_23 kT_7_0 kN_1_5 ⟨by decide, by decide, by decide⟩ ⟨Nat.le_trans (by decide) hRf, Nat.le_trans (by decide) hRl⟩ rfl rfl rfl hl.1 rfl (Nat.le_of_ble_eq_true rfl) ⟨Nat.zero_le _, Nat.zero_le _⟩ dX10_player_16 rfl (fun H locs hO => ?_)
    refine j_if_ne (tgt := 25) C rfl dX10_player_19 (by decide) (fun c4 => ?_) (fun c4 => ?_)
    · have hf := (if_neg c4).symm.trans hf
      refine lv_aload_n C.1 C.2.1 dX10_player_25 rfl (lv_at hl 0 rfl) ?_
      refine j_get C hO (ci := 10) (k := 1) (v := jR G (jpt l0 1)) h0 rfl inlX10 (by decide) kF_5_23 rfl rfl dX10_player_26 ?_
      refine lv_iconst (v := Int32.ofInt 1) C.1 C.2.1 dX10_player_29 rfl ?_
      refine j_iald C hO (tp_10_1 h0) (w32_id (by decide) (by decide)) (by decide) (by decide) dX10_player_30 ?_
      refine lv_iconst (v := Int32.ofInt 4) C.1 C.2.1 dX10_player_31 rfl ?_
      refine j_icmp_ne (tgt := 38) C rfl (w32_id (by decide) (by decide)) dX10_player_32 (by decide) (fun c5 => ?_) (fun c5 => ?_)
      · have hf := (if_neg c5).symm.trans hf
        refine lv_aload_n C.1 C.2.1 dX10_player_38 rfl (lv_at hl 0 rfl) ?_
        refine j_get C hO (ci := 10) (k := 1) (v := jR G (jpt l0 1)) h0 rfl inlX10 (by decide) kF_5_23 rfl rfl dX10_player_39 ?_
        refine lv_iconst (v := Int32.ofInt 1) C.1 C.2.1 dX10_player_42 rfl ?_
        refine j_iald C hO (tp_10_1 h0) (w32_id (by decide) (by decide)) (by decide) (by decide) dX10_player_43 ?_
        refine lv_istore_n (lv' := [(3, vI (M (jpt l0 1) 1)), (0, jR G l0), (1, vI l1), (2, vI l2)]) C.1 C.2.1 dX10_player_44 rfl hl (by decide) rfl (fun ls hl => ?_)
        refine lv_aload_n C.1 C.2.1 dX10_player_45 rfl (lv_at hl 1 rfl) ?_
        refine j_get C hO (ci := 10) (k := 1) (v := jR G (jpt l0 1)) h0 rfl inlX10 (by decide) kF_5_23 rfl rfl dX10_player_46 ?_
        refine lv_bipush (v := Int32.ofInt 96) C.1 C.2.1 dX10_player_49 (by decide) ?_
        refine lv_iload_n C.1 C.2.1 dX10_player_51 rfl (lv_at hl 0 rfl) ?_
        refine j_iadd C dX10_player_52 ?_
        refine lv_iload_n C.1 C.2.1 dX10_player_53 rfl (lv_at hl 2 rfl) ?_
        obtain ⟨g6, hf⟩ := grd_e hf
        obtain ⟨M7, hM7, hf⟩ := lt1_e hf
        refine j_iast C hO (x := l1) (tp_10_1 h0) rfl g6.1 g6.2 dX10_player_54 (fun H locs hO => ?_)
        rw [← hM7] at hO
        refine lv_aload_n C.1 C.2.1 dX10_player_55 rfl (lv_at hl 1 rfl) ?_
        refine j_get C hO (ci := 10) (k := 1) (v := jR G (jpt l0 1)) h0 rfl inlX10 (by decide) kF_5_23 rfl rfl dX10_player_56 ?_
        refine lv_bipush (v := Int32.ofInt 100) C.1 C.2.1 dX10_player_59 (by decide) ?_
        refine lv_iload_n C.1 C.2.1 dX10_player_61 rfl (lv_at hl 0 rfl) ?_
        refine j_iadd C dX10_player_62 ?_
        refine lv_iload_n C.1 C.2.1 dX10_player_63 rfl (lv_at hl 3 rfl) ?_
        obtain ⟨g8, hf⟩ := grd_e hf
        obtain ⟨M9, hM9, hf⟩ := lt1_e hf
        refine j_iast C hO (x := l2) (tp_10_1 h0) rfl g8.1 g8.2 dX10_player_64 (fun H locs hO => ?_)
        rw [← hM9] at hO
        refine lv_aload_n C.1 C.2.1 dX10_player_65 rfl (lv_at hl 1 rfl) ?_
        refine j_get C hO (ci := 10) (k := 1) (v := jR G (jpt l0 1)) h0 rfl inlX10 (by decide) kF_5_23 rfl rfl dX10_player_66 ?_
        refine lv_sipush (v := Int32.ofInt 128) C.1 C.2.1 dX10_player_69 (by decide) ?_
        refine lv_iload_n C.1 C.2.1 dX10_player_72 rfl (lv_at hl 0 rfl) ?_
        refine j_iadd C dX10_player_73 ?_
        refine lv_iconst (v := Int32.ofInt 0) C.1 C.2.1 dX10_player_74 rfl ?_
        obtain ⟨g10, hf⟩ := grd_e hf
        obtain ⟨M11, hM11, hf⟩ := lt1_e hf
        refine j_iast C hO (x := 0) (tp_10_1 h0) rfl g10.1 g10.2 dX10_player_75 (fun H locs hO => ?_)
        rw [← hM11] at hO
        refine lv_aload_n C.1 C.2.1 dX10_player_76 rfl (lv_at hl 1 rfl) ?_
        refine j_get C hO (ci := 10) (k := 1) (v := jR G (jpt l0 1)) h0 rfl inlX10 (by decide) kF_5_23 rfl rfl dX10_player_77 ?_
        refine lv_iconst (v := Int32.ofInt 1) C.1 C.2.1 dX10_player_80 rfl ?_
        refine lv_dup2_11 C.1 C.2.1 dX10_player_81 rfl rfl ?_
        refine j_iald C hO (tp_10_1 h0) (w32_id (by decide) (by decide)) (by decide) (by decide) dX10_player_82 ?_
        refine lv_iconst (v := Int32.ofInt 1) C.1 C.2.1 dX10_player_83 rfl ?_
        refine j_iadd C dX10_player_84 ?_
        obtain ⟨M12, hM12, hf⟩ := lt1_e hf
        refine j_iast C hO (x := (M11 (jpt l0 1) 1) + 1) (tp_10_1 h0) (w32_id (by decide) (by decide)) (by decide) (by decide) dX10_player_85 (fun H locs hO => ?_)
        rw [← hM12] at hO
        refine lv_iload_n C.1 C.2.1 dX10_player_86 rfl (lv_at hl 0 rfl) ?_
        have hf := som_e hf
        subst hf
        exact j_iret C hO dX10_player_87
      · have hf := (if_pos c5).symm.trans hf
        refine lv_bipush (v := Int32.ofInt (-4)) C.1 C.2.1 dX10_player_35 (by decide) ?_
        have hf := som_e hf
        subst hf
        exact j_iret C hO dX10_player_37
    · have hf := (if_pos c4).symm.trans hf
      refine lv_bipush (v := Int32.ofInt (-2)) C.1 C.2.1 dX10_player_22 (by decide) ?_
      have hf := som_e hf
      subst hf
      exact j_iret C hO dX10_player_24
  · have hf := (if_pos c2).symm.trans hf
    refine lv_iconst (v := Int32.ofInt (-1)) C.1 C.2.1 dX10_player_10 rfl ?_
    have hf := som_e hf
    subst hf
    exact j_iret C hO dX10_player_11
set_option maxHeartbeats 1000000 in
theorem c_X10_player (l : Launch) (G : jG)  (M : jM) (l0 l1 l2 : Int) (h0 : jkd l0 = (10, 0)) {fin : Int × jM} (h : f_X10_player M l0 l1 l2 = some fin) : Met l yX10_player (Cond.code yX10_player cX10_player 4 (some .int) :: wsL_law) ({ frames := 1, cells := 0, slots := 0, locals := 22 } : Room) (va_Pc [jR G l0, vI l1, vI l2] (fun U => jRep G M U)) (jQ G (some (vI fin.1)) fin.2) 0 0 (jA G) := by
  refine Met.ofW (cc := cX10_player) (maxL := 4) (ret := (some .int)) (by decide) rfl ?_
  intro p e s m args below meth c s₁ B hml hv
  obtain ⟨rfl, hR0⟩ := hv
  have C : jCx p s m ([jR G l0, vI l1, vI l2] : List Value).toArray meth c cX10_player 4 RX10 (Cond.code yX10_player cX10_player 4 (some .int)) (some .int) := ⟨B.exec, B.bytes, hml, findClass_of_methodNamed B.named, atoms_spec B.pre, B.returns, B.notSynchronized⟩
  have hO := hR0.ok
  have hl := lv_entry ([jR G l0, vI l1, vI l2]) (n := 4) (Nat.le_of_ble_eq_true rfl)
  rw [lg_entry_eq]
  generalize (lg_sl ([jR G l0, vI l1, vI l2]) ++ List.replicate (4 - (lg_sl ([jR G l0, vI l1, vI l2])).length) Slot.unset).toArray = ls at hl ⊢
  have hl : lv_has ls 4 [(0, jR G l0), (1, vI l1), (2, vI l2)] := hl
  exact w_X10_player C (Nat.le_refl _) (Nat.le_refl _) M l0 l1 l2 h0 h hO hl
set_option maxHeartbeats 4000000 in
theorem w_X10_own_L29 {p : Program} {l : Launch} {e : Env} {R : Room} {s : State} {m : MethodId} {args : Array Value} {below : List Frame} {meth : Method} {c : Code} {H : Heap} {locs : List Loc} {ls : Array Slot} {G : jG}  (C : jCx p s m args meth c cX10_own 3 RX10 (Cond.code yX10_own cX10_own 3 (some .int)) (some .int)) (hRf : 2 ≤ R.frames) (hRl : 43 ≤ R.locals)  (M : jM) (l0 l1 : Int) (h0 : jkd l0 = (10, 0)) {fin : Int × jM} (S : jM × Int) {rr : (jM × Int) ⊕ jM} (hf : f_X10_own_L29 M l0 l1 S = some rr) (kc : ∀ q : jM × Int, rr = .inl q → ∀ (H : Heap) (locs : List Loc) (ls : Array Slot), jOk G q.1 s H locs → lv_has ls 3 [(0, jR G l0), (1, vI l1), (2, vI q.2)] → W p l e R s m args below meth c H locs 0 0 (MQ below (jQ G (some (vI fin.1)) fin.2) args s 0 0 (jA G)) (F0 m 29 ls [])) (kx0 : ∀ q : jM, rr = .inr q → ∀ (H : Heap) (locs : List Loc) (ls : Array Slot), jOk G q s H locs → lv_has ls 3 [(0, jR G l0), (1, vI l1)] → W p l e R s m args below meth c H locs 0 0 (MQ below (jQ G (some (vI fin.1)) fin.2) args s 0 0 (jA G)) (F0 m 64 ls [])) (hO : jOk G S.1 s H locs) (hl : lv_has ls 3 [(0, jR G l0), (1, vI l1), (2, vI S.2)]) : W p l e R s m args below meth c H locs 0 0 (MQ below (jQ G (some (vI fin.1)) fin.2) args s 0 0 (jA G)) (F0 m 29 ls []) := by
  unfold f_X10_own_L29 at hf
  refine lv_iload_n C.1 C.2.1 dX10_own_29 rfl (lv_at hl 2 rfl) ?_
  refine lv_bipush (v := Int32.ofInt 6) C.1 C.2.1 dX10_own_30 (by decide) ?_
  refine j_icmp_ge (tgt := 64) C rfl (w32_id (by decide) (by decide)) dX10_own_32 (by decide) (fun c5 => ?_) (fun c5 => ?_)
  · have hf := (if_pos c5).symm.trans hf
    exact kx0 _ (som_e hf).symm _ _ _ hO (lv_sub hl [0, 1] rfl)
  · have hf := (if_neg c5).symm.trans hf
    refine lv_aload_n C.1 C.2.1 dX10_own_35 rfl (lv_at hl 0 rfl) ?_
    refine j_get C hO (ci := 10) (k := 1) (v := jR G (jpt l0 1)) h0 rfl inlX10 (by decide) kF_5_23 rfl rfl dX10_own_36 ?_
    refine lv_bipush (v := Int32.ofInt 104) C.1 C.2.1 dX10_own_39 (by decide) ?_
    refine lv_bipush (v := Int32.ofInt 6) C.1 C.2.1 dX10_own_41 (by decide) ?_
    refine lv_iload_n C.1 C.2.1 dX10_own_43 rfl (lv_at hl 1 rfl) ?_
    refine j_imul C dX10_own_44 ?_
    refine j_iadd C dX10_own_45 ?_
    refine lv_iload_n C.1 C.2.1 dX10_own_46 rfl (lv_at hl 2 rfl) ?_
    refine j_iadd C dX10_own_47 ?_
    refine lv_aload_n C.1 C.2.1 dX10_own_48 rfl (lv_at hl 0 rfl) ?_
    refine j_get C hO (ci := 10) (k := 1) (v := jR G (jpt l0 1)) h0 rfl inlX10 (by decide) kF_5_23 rfl rfl dX10_own_49 ?_
    refine lv_bipush (v := Int32.ofInt 66) C.1 C.2.1 dX10_own_52 (by decide) ?_
    refine lv_iload_n C.1 C.2.1 dX10_own_54 rfl (lv_at hl 2 rfl) ?_
    refine j_iadd C dX10_own_55 ?_
    obtain ⟨g6, hf⟩ := grd_e hf
    refine j_iald C hO (tp_10_1 h0) rfl g6.1 g6.2 dX10_own_56 ?_
    obtain ⟨g7, hf⟩ := grd_e hf
    obtain ⟨M8, hM8, hf⟩ := lt1_e hf
    refine j_iast C hO (x := S.1 (jpt l0 1) (w32 (66 + S.2))) (tp_10_1 h0) rfl g7.1 g7.2 dX10_own_57 (fun H locs hO => ?_)
    rw [← hM8] at hO
    refine lv_iinc (v := Int32.ofInt (S.2 + 1)) (lv' := [(2, vI (S.2 + 1)), (0, jR G l0), (1, vI l1)]) C.1 C.2.1 dX10_own_58 hl (k := 2) rfl (Int32.ofInt_add _ _).symm (by decide) rfl (fun ls hl => ?_)
    refine lv_goto (tgt := 29) C.1 C.2.1 dX10_own_61 (by decide) ?_
    exact kc _ (som_e hf).symm _ _ _ hO (lv_sub hl [1, 2, 0] rfl)
set_option maxHeartbeats 4000000 in
theorem w_X10_own {p : Program} {l : Launch} {e : Env} {R : Room} {s : State} {m : MethodId} {args : Array Value} {below : List Frame} {meth : Method} {c : Code} {H : Heap} {locs : List Loc} {ls : Array Slot} {G : jG}  (C : jCx p s m args meth c cX10_own 3 RX10 (Cond.code yX10_own cX10_own 3 (some .int)) (some .int)) (hRf : 2 ≤ R.frames) (hRl : 43 ≤ R.locals)  (M : jM) (l0 l1 : Int) (h0 : jkd l0 = (10, 0)) {fin : Int × jM} (hf : f_X10_own M l0 l1 = some fin) (hO : jOk G M s H locs) (hl : lv_has ls 3 [(0, jR G l0), (1, vI l1)]) : W p l e R s m args below meth c H locs 0 0 (MQ below (jQ G (some (vI fin.1)) fin.2) args s 0 0 (jA G)) (F0 m 0 ls []) := by
  unfold f_X10_own at hf
  refine lv_aload_n C.1 C.2.1 dX10_own_0 rfl (lv_at hl 0 rfl) ?_
  refine lv_iload_n C.1 C.2.1 dX10_own_1 rfl (lv_at hl 1 rfl) ?_
  obtain ⟨r1, hr1, hf⟩ := bnd_e hf
  refine j_callV C hO (n := 1) (As := [vI l1]) (st1 := [vI r1]) (c_X10_isPlayer l G M l0 l1 h0 hr1) h0 rfl kC_20_22 kM_20_19 kI_20_20 kS_20_21 kN_1_5 ⟨by decide, by decide, by decide⟩ ⟨Nat.le_trans (by decide) hRf, Nat.le_trans (by decide) hRl⟩ rfl rfl rfl hl.1 rfl (Nat.le_of_ble_eq_true rfl) ⟨Nat.zero_le _, Nat.zero_le _⟩ dX10_own_2 rfl (fun H locs hO => ?_)
  refine j_if_ne (tgt := 10) C rfl dX10_own_5 (by decide) (fun c2 => ?_) (fun c2 => ?_)
  · have hf := (if_neg c2).symm.trans hf
    refine lv_aload_n C.1 C.2.1 dX10_own_10 rfl (lv_at hl 0 rfl) ?_
    refine j_get C hO (ci := 10) (k := 1) (v := jR G (jpt l0 1)) h0 rfl inlX10 (by decide) kF_5_23 rfl rfl dX10_own_11 ?_
    refine lv_bipush (v := Int32.ofInt 96) C.1 C.2.1 dX10_own_14 (by decide) ?_
    refine lv_iload_n C.1 C.2.1 dX10_own_16 rfl (lv_at hl 1 rfl) ?_
    refine j_iadd C dX10_own_17 ?_
    obtain ⟨g3, hf⟩ := grd_e hf
    refine j_iald C hO (tp_10_1 h0) rfl g3.1 g3.2 dX10_own_18 ?_
    refine lv_bipush (v := Int32.ofInt 6) C.1 C.2.1 dX10_own_19 (by decide) ?_
    refine j_icmp_eq (tgt := 27) C rfl (w32_id (by decide) (by decide)) dX10_own_21 (by decide) (fun c4 => ?_) (fun c4 => ?_)
    · have hf := (if_pos c4).symm.trans hf
      refine lv_iconst (v := Int32.ofInt 0) C.1 C.2.1 dX10_own_27 rfl ?_
      refine lv_istore_n (lv' := [(2, vI 0), (0, jR G l0), (1, vI l1)]) C.1 C.2.1 dX10_own_28 rfl hl (by decide) rfl (fun ls hl => ?_)
      obtain ⟨x9, hx9, hf⟩ := bnd_e hf
      refine iter_e (P := fun Z => ∀ (H : Heap) (locs : List Loc) (ls : Array Slot), jOk G Z.1 s H locs → lv_has ls 3 [(0, jR G l0), (1, vI l1), (2, vI Z.2)] → W p l e R s m args below meth c H locs 0 0 (MQ below (jQ G (some (vI fin.1)) fin.2) args s 0 0 (jA G)) (F0 m 29 ls [])) (E := fun q => ∀ (H : Heap) (locs : List Loc) (ls : Array Slot), jOk G q s H locs → lv_has ls 3 [(0, jR G l0), (1, vI l1)] → W p l e R s m args below meth c H locs 0 0 (MQ below (jQ G (some (vI fin.1)) fin.2) args s 0 0 (jA G)) (F0 m 64 ls [])) (fun Z rr hb kc kx H locs ls hO hl => w_X10_own_L29 C hRf hRl M l0 l1 h0 Z hb kc (fun q e => kx q e) hO hl) 5000 (M, 0) x9 hx9 ?_ _ _ _ hO (lv_sub hl [1, 2, 0] rfl)
      clear hO hl
      intro H locs ls hO hl
      refine lv_aload_n C.1 C.2.1 dX10_own_64 rfl (lv_at hl 0 rfl) ?_
      refine j_get C hO (ci := 10) (k := 1) (v := jR G (jpt l0 1)) h0 rfl inlX10 (by decide) kF_5_23 rfl rfl dX10_own_65 ?_
      refine lv_sipush (v := Int32.ofInt 128) C.1 C.2.1 dX10_own_68 (by decide) ?_
      refine lv_iload_n C.1 C.2.1 dX10_own_71 rfl (lv_at hl 1 rfl) ?_
      refine j_iadd C dX10_own_72 ?_
      refine lv_aload_n C.1 C.2.1 dX10_own_73 rfl (lv_at hl 0 rfl) ?_
      refine j_get C hO (ci := 10) (k := 1) (v := jR G (jpt l0 1)) h0 rfl inlX10 (by decide) kF_5_23 rfl rfl dX10_own_74 ?_
      refine lv_iconst (v := Int32.ofInt 3) C.1 C.2.1 dX10_own_77 rfl ?_
      refine j_iald C hO (tp_10_1 h0) (w32_id (by decide) (by decide)) (by decide) (by decide) dX10_own_78 ?_
      obtain ⟨g10, hf⟩ := grd_e hf
      obtain ⟨M11, hM11, hf⟩ := lt1_e hf
      refine j_iast C hO (x := x9 (jpt l0 1) 3) (tp_10_1 h0) rfl g10.1 g10.2 dX10_own_79 (fun H locs hO => ?_)
      rw [← hM11] at hO
      refine lv_aload_n C.1 C.2.1 dX10_own_80 rfl (lv_at hl 0 rfl) ?_
      refine j_get C hO (ci := 10) (k := 1) (v := jR G (jpt l0 1)) h0 rfl inlX10 (by decide) kF_5_23 rfl rfl dX10_own_81 ?_
      refine lv_iconst (v := Int32.ofInt 3) C.1 C.2.1 dX10_own_84 rfl ?_
      refine lv_iconst (v := Int32.ofInt 0) C.1 C.2.1 dX10_own_85 rfl ?_
      obtain ⟨M12, hM12, hf⟩ := lt1_e hf
      refine j_iast C hO (x := 0) (tp_10_1 h0) (w32_id (by decide) (by decide)) (by decide) (by decide) dX10_own_86 (fun H locs hO => ?_)
      rw [← hM12] at hO
      refine lv_aload_n C.1 C.2.1 dX10_own_87 rfl (lv_at hl 0 rfl) ?_
      refine j_get C hO (ci := 10) (k := 1) (v := jR G (jpt l0 1)) h0 rfl inlX10 (by decide) kF_5_23 rfl rfl dX10_own_88 ?_
      refine lv_sipush (v := Int32.ofInt 128) C.1 C.2.1 dX10_own_91 (by decide) ?_
      refine lv_iload_n C.1 C.2.1 dX10_own_94 rfl (lv_at hl 1 rfl) ?_
      refine j_iadd C dX10_own_95 ?_
      obtain ⟨g13, hf⟩ := grd_e hf
      refine j_iald C hO (tp_10_1 h0) rfl g13.1 g13.2 dX10_own_96 ?_
      have hf := som_e hf
      subst hf
      exact j_iret C hO dX10_own_97
    · have hf := (if_neg c4).symm.trans hf
      refine lv_bipush (v := Int32.ofInt (-3)) C.1 C.2.1 dX10_own_24 (by decide) ?_
      have hf := som_e hf
      subst hf
      exact j_iret C hO dX10_own_26
  · have hf := (if_pos c2).symm.trans hf
    refine lv_iconst (v := Int32.ofInt (-1)) C.1 C.2.1 dX10_own_8 rfl ?_
    have hf := som_e hf
    subst hf
    exact j_iret C hO dX10_own_9
set_option maxHeartbeats 1000000 in
theorem c_X10_own (l : Launch) (G : jG)  (M : jM) (l0 l1 : Int) (h0 : jkd l0 = (10, 0)) {fin : Int × jM} (h : f_X10_own M l0 l1 = some fin) : Met l yX10_own (Cond.code yX10_own cX10_own 3 (some .int) :: wsL_law) ({ frames := 2, cells := 0, slots := 0, locals := 43 } : Room) (va_Pc [jR G l0, vI l1] (fun U => jRep G M U)) (jQ G (some (vI fin.1)) fin.2) 0 0 (jA G) := by
  refine Met.ofW (cc := cX10_own) (maxL := 3) (ret := (some .int)) (by decide) rfl ?_
  intro p e s m args below meth c s₁ B hml hv
  obtain ⟨rfl, hR0⟩ := hv
  have C : jCx p s m ([jR G l0, vI l1] : List Value).toArray meth c cX10_own 3 RX10 (Cond.code yX10_own cX10_own 3 (some .int)) (some .int) := ⟨B.exec, B.bytes, hml, findClass_of_methodNamed B.named, atoms_spec B.pre, B.returns, B.notSynchronized⟩
  have hO := hR0.ok
  have hl := lv_entry ([jR G l0, vI l1]) (n := 3) (Nat.le_of_ble_eq_true rfl)
  rw [lg_entry_eq]
  generalize (lg_sl ([jR G l0, vI l1]) ++ List.replicate (3 - (lg_sl ([jR G l0, vI l1])).length) Slot.unset).toArray = ls at hl ⊢
  have hl : lv_has ls 3 [(0, jR G l0), (1, vI l1)] := hl
  exact w_X10_own C (Nat.le_refl _) (Nat.le_refl _) M l0 l1 h0 h hO hl
set_option maxHeartbeats 4000000 in
theorem w_X10_isLawful_47 {p : Program} {l : Launch} {e : Env} {R : Room} {s : State} {m : MethodId} {args : Array Value} {below : List Frame} {meth : Method} {c : Code} {H : Heap} {locs : List Loc} {ls : Array Slot} {G : jG}  (C : jCx p s m args meth c cX10_isLawful 4 RX10 (Cond.code yX10_isLawful cX10_isLawful 4 (some .boolean)) (some .boolean)) (hRf : 2 ≤ R.frames) (hRl : 42 ≤ R.locals)  (M : jM) (l0 l1 l3 s0 : Int) (h0 : jkd l0 = (10, 0)) {fin : Int} {rr : (Int × Int) ⊕ Int} (hf : f_X10_isLawful_47 M l0 l1 l3 s0 = some rr) (kc : ∀ q : Int × Int, rr = .inl q → ∀ (H : Heap) (locs : List Loc) (ls : Array Slot), jOk G M s H locs → lv_has ls 4 [(0, jR G l0), (1, vI l1), (2, vI q.1), (3, vI q.2)] → W p l e R s m args below meth c H locs 0 0 (MQ below (jQ G (some (vI fin)) M) args s 0 0 (jA G)) (F0 m 4 ls [])) (kx0 : ∀ q : Int, rr = .inr q → ∀ (H : Heap) (locs : List Loc) (ls : Array Slot), jOk G M s H locs → lv_has ls 4 [(2, vI q)] → W p l e R s m args below meth c H locs 0 0 (MQ below (jQ G (some (vI fin)) M) args s 0 0 (jA G)) (F0 m 54 ls [])) (hO : jOk G M s H locs) (hl : lv_has ls 4 [(0, jR G l0), (1, vI l1), (3, vI l3)]) : W p l e R s m args below meth c H locs 0 0 (MQ below (jQ G (some (vI fin)) M) args s 0 0 (jA G)) (F0 m 47 ls [vI s0]) := by
  unfold f_X10_isLawful_47 at hf
  refine lv_istore_n (lv' := [(2, vI s0), (0, jR G l0), (1, vI l1), (3, vI l3)]) C.1 C.2.1 dX10_isLawful_47 rfl hl (by decide) rfl (fun ls hl => ?_)
  refine lv_iinc (v := Int32.ofInt (l3 + 1)) (lv' := [(3, vI (l3 + 1)), (2, vI s0), (0, jR G l0), (1, vI l1)]) C.1 C.2.1 dX10_isLawful_48 hl (k := 3) rfl (Int32.ofInt_add _ _).symm (by decide) rfl (fun ls hl => ?_)
  refine lv_goto (tgt := 4) C.1 C.2.1 dX10_isLawful_51 (by decide) ?_
  exact kc _ (som_e hf).symm _ _ _ hO (lv_sub hl [2, 3, 1, 0] rfl)
set_option maxHeartbeats 4000000 in
theorem w_X10_isLawful_46 {p : Program} {l : Launch} {e : Env} {R : Room} {s : State} {m : MethodId} {args : Array Value} {below : List Frame} {meth : Method} {c : Code} {H : Heap} {locs : List Loc} {ls : Array Slot} {G : jG}  (C : jCx p s m args meth c cX10_isLawful 4 RX10 (Cond.code yX10_isLawful cX10_isLawful 4 (some .boolean)) (some .boolean)) (hRf : 2 ≤ R.frames) (hRl : 42 ≤ R.locals)  (M : jM) (l0 l1 l3 : Int) (h0 : jkd l0 = (10, 0)) {fin : Int} {rr : (Int × Int) ⊕ Int} (hf : f_X10_isLawful_46 M l0 l1 l3 = some rr) (kc : ∀ q : Int × Int, rr = .inl q → ∀ (H : Heap) (locs : List Loc) (ls : Array Slot), jOk G M s H locs → lv_has ls 4 [(0, jR G l0), (1, vI l1), (2, vI q.1), (3, vI q.2)] → W p l e R s m args below meth c H locs 0 0 (MQ below (jQ G (some (vI fin)) M) args s 0 0 (jA G)) (F0 m 4 ls [])) (kx0 : ∀ q : Int, rr = .inr q → ∀ (H : Heap) (locs : List Loc) (ls : Array Slot), jOk G M s H locs → lv_has ls 4 [(2, vI q)] → W p l e R s m args below meth c H locs 0 0 (MQ below (jQ G (some (vI fin)) M) args s 0 0 (jA G)) (F0 m 54 ls [])) (hO : jOk G M s H locs) (hl : lv_has ls 4 [(0, jR G l0), (1, vI l1), (3, vI l3)]) : W p l e R s m args below meth c H locs 0 0 (MQ below (jQ G (some (vI fin)) M) args s 0 0 (jA G)) (F0 m 46 ls []) := by
  unfold f_X10_isLawful_46 at hf
  refine lv_iconst (v := Int32.ofInt 0) C.1 C.2.1 dX10_isLawful_46 rfl ?_
  exact w_X10_isLawful_47 C hRf hRl M l0 l1 l3 0 h0 hf kc kx0 hO (lv_sub hl [0, 1, 2] rfl)
set_option maxHeartbeats 4000000 in
theorem w_X10_isLawful_L4 {p : Program} {l : Launch} {e : Env} {R : Room} {s : State} {m : MethodId} {args : Array Value} {below : List Frame} {meth : Method} {c : Code} {H : Heap} {locs : List Loc} {ls : Array Slot} {G : jG}  (C : jCx p s m args meth c cX10_isLawful 4 RX10 (Cond.code yX10_isLawful cX10_isLawful 4 (some .boolean)) (some .boolean)) (hRf : 2 ≤ R.frames) (hRl : 42 ≤ R.locals)  (M : jM) (l0 l1 : Int) (h0 : jkd l0 = (10, 0)) {fin : Int} (S : Int × Int) {rr : (Int × Int) ⊕ Int} (hf : f_X10_isLawful_L4 M l0 l1 S = some rr) (kc : ∀ q : Int × Int, rr = .inl q → ∀ (H : Heap) (locs : List Loc) (ls : Array Slot), jOk G M s H locs → lv_has ls 4 [(0, jR G l0), (1, vI l1), (2, vI q.1), (3, vI q.2)] → W p l e R s m args below meth c H locs 0 0 (MQ below (jQ G (some (vI fin)) M) args s 0 0 (jA G)) (F0 m 4 ls [])) (kx0 : ∀ q : Int, rr = .inr q → ∀ (H : Heap) (locs : List Loc) (ls : Array Slot), jOk G M s H locs → lv_has ls 4 [(2, vI q)] → W p l e R s m args below meth c H locs 0 0 (MQ below (jQ G (some (vI fin)) M) args s 0 0 (jA G)) (F0 m 54 ls [])) (hO : jOk G M s H locs) (hl : lv_has ls 4 [(0, jR G l0), (1, vI l1), (2, vI S.1), (3, vI S.2)]) : W p l e R s m args below meth c H locs 0 0 (MQ below (jQ G (some (vI fin)) M) args s 0 0 (jA G)) (F0 m 4 ls []) := by
  unfold f_X10_isLawful_L4 at hf
  refine lv_iload_n C.1 C.2.1 dX10_isLawful_4 rfl (lv_at hl 3 rfl) ?_
  refine lv_aload_n C.1 C.2.1 dX10_isLawful_5 rfl (lv_at hl 0 rfl) ?_
  refine j_get C hO (ci := 10) (k := 1) (v := jR G (jpt l0 1)) h0 rfl inlX10 (by decide) kF_5_23 rfl rfl dX10_isLawful_6 ?_
  refine lv_bipush (v := Int32.ofInt 58) C.1 C.2.1 dX10_isLawful_9 (by decide) ?_
  refine lv_iload_n C.1 C.2.1 dX10_isLawful_11 rfl (lv_at hl 1 rfl) ?_
  refine j_iadd C dX10_isLawful_12 ?_
  obtain ⟨g1, hf⟩ := grd_e hf
  refine j_iald C hO (tp_10_1 h0) rfl g1.1 g1.2 dX10_isLawful_13 ?_
  refine j_icmp_ge (tgt := 54) C rfl rfl dX10_isLawful_14 (by decide) (fun c2 => ?_) (fun c2 => ?_)
  · have hf := (if_pos c2).symm.trans hf
    exact kx0 _ (som_e hf).symm _ _ _ hO (lv_sub hl [2] rfl)
  · have hf := (if_neg c2).symm.trans hf
    refine lv_iload_n C.1 C.2.1 dX10_isLawful_17 rfl (lv_at hl 2 rfl) ?_
    refine j_if_eq (tgt := 46) C rfl dX10_isLawful_18 (by decide) (fun c3 => ?_) (fun c3 => ?_)
    · have hf := (if_pos c3).symm.trans hf
      exact w_X10_isLawful_46 C hRf hRl M l0 l1 S.2 h0 hf kc kx0 hO (lv_sub hl [0, 1, 3] rfl)
    · have hf := (if_neg c3).symm.trans hf
      refine lv_aload_n C.1 C.2.1 dX10_isLawful_21 rfl (lv_at hl 0 rfl) ?_
      refine j_get C hO (ci := 10) (k := 1) (v := jR G (jpt l0 1)) h0 rfl inlX10 (by decide) kF_5_23 rfl rfl dX10_isLawful_22 ?_
      refine lv_bipush (v := Int32.ofInt 10) C.1 C.2.1 dX10_isLawful_25 (by decide) ?_
      refine lv_bipush (v := Int32.ofInt 6) C.1 C.2.1 dX10_isLawful_27 (by decide) ?_
      refine lv_iload_n C.1 C.2.1 dX10_isLawful_29 rfl (lv_at hl 1 rfl) ?_
      refine j_imul C dX10_isLawful_30 ?_
      refine j_iadd C dX10_isLawful_31 ?_
      refine lv_iload_n C.1 C.2.1 dX10_isLawful_32 rfl (lv_at hl 3 rfl) ?_
      refine j_iadd C dX10_isLawful_33 ?_
      obtain ⟨g4, hf⟩ := grd_e hf
      refine j_iald C hO (tp_10_1 h0) rfl g4.1 g4.2 dX10_isLawful_34 ?_
      refine lv_aload_n C.1 C.2.1 dX10_isLawful_35 rfl (lv_at hl 0 rfl) ?_
      obtain ⟨r5, hr5, hf⟩ := bnd_e hf
      refine j_callV C hO (n := 0) (As := []) (st1 := [vI r5, vI (M (jpt l0 1) (w32 ((10 + (6 * l1)) + S.2)))]) (c_X10_signs l G M l0 h0 hr5) h0 rfl kC_16_17 kM_16_14 kI_16_15 kS_16_16 kN_1_5 ⟨by decide, by decide, by decide⟩ ⟨Nat.le_trans (by decide) hRf, Nat.le_trans (by decide) hRl⟩ rfl rfl rfl hl.1 rfl (Nat.le_of_ble_eq_true rfl) ⟨Nat.zero_le _, Nat.zero_le _⟩ dX10_isLawful_36 rfl (fun H locs hO => ?_)
      refine j_icmp_ge (tgt := 46) C rfl rfl dX10_isLawful_39 (by decide) (fun c6 => ?_) (fun c6 => ?_)
      · have hf := (if_pos c6).symm.trans hf
        exact w_X10_isLawful_46 C hRf hRl M l0 l1 S.2 h0 hf kc kx0 hO (lv_sub hl [0, 1, 3] rfl)
      · have hf := (if_neg c6).symm.trans hf
        refine lv_iconst (v := Int32.ofInt 1) C.1 C.2.1 dX10_isLawful_42 rfl ?_
        refine lv_goto (tgt := 47) C.1 C.2.1 dX10_isLawful_43 (by decide) ?_
        exact w_X10_isLawful_47 C hRf hRl M l0 l1 S.2 1 h0 hf kc kx0 hO (lv_sub hl [0, 1, 3] rfl)
set_option maxHeartbeats 4000000 in
theorem w_X10_isLawful {p : Program} {l : Launch} {e : Env} {R : Room} {s : State} {m : MethodId} {args : Array Value} {below : List Frame} {meth : Method} {c : Code} {H : Heap} {locs : List Loc} {ls : Array Slot} {G : jG}  (C : jCx p s m args meth c cX10_isLawful 4 RX10 (Cond.code yX10_isLawful cX10_isLawful 4 (some .boolean)) (some .boolean)) (hRf : 2 ≤ R.frames) (hRl : 42 ≤ R.locals)  (M : jM) (l0 l1 : Int) (h0 : jkd l0 = (10, 0)) {fin : Int} (hf : f_X10_isLawful M l0 l1 = some fin) (hO : jOk G M s H locs) (hl : lv_has ls 4 [(0, jR G l0), (1, vI l1)]) : W p l e R s m args below meth c H locs 0 0 (MQ below (jQ G (some (vI fin)) M) args s 0 0 (jA G)) (F0 m 0 ls []) := by
  unfold f_X10_isLawful at hf
  refine lv_iconst (v := Int32.ofInt 1) C.1 C.2.1 dX10_isLawful_0 rfl ?_
  refine lv_istore_n (lv' := [(2, vI 1), (0, jR G l0), (1, vI l1)]) C.1 C.2.1 dX10_isLawful_1 rfl hl (by decide) rfl (fun ls hl => ?_)
  refine lv_iconst (v := Int32.ofInt 0) C.1 C.2.1 dX10_isLawful_2 rfl ?_
  refine lv_istore_n (lv' := [(3, vI 0), (2, vI 1), (0, jR G l0), (1, vI l1)]) C.1 C.2.1 dX10_isLawful_3 rfl hl (by decide) rfl (fun ls hl => ?_)
  obtain ⟨x7, hx7, hf⟩ := bnd_e hf
  refine iter_e (P := fun Z => ∀ (H : Heap) (locs : List Loc) (ls : Array Slot), jOk G M s H locs → lv_has ls 4 [(0, jR G l0), (1, vI l1), (2, vI Z.1), (3, vI Z.2)] → W p l e R s m args below meth c H locs 0 0 (MQ below (jQ G (some (vI fin)) M) args s 0 0 (jA G)) (F0 m 4 ls [])) (E := fun q => ∀ (H : Heap) (locs : List Loc) (ls : Array Slot), jOk G M s H locs → lv_has ls 4 [(2, vI q)] → W p l e R s m args below meth c H locs 0 0 (MQ below (jQ G (some (vI fin)) M) args s 0 0 (jA G)) (F0 m 54 ls [])) (fun Z rr hb kc kx H locs ls hO hl => w_X10_isLawful_L4 C hRf hRl M l0 l1 h0 Z hb kc (fun q e => kx q e) hO hl) 5000 (1, 0) x7 hx7 ?_ _ _ _ hO (lv_sub hl [2, 3, 1, 0] rfl)
  clear hO hl
  intro H locs ls hO hl
  refine lv_iload_n C.1 C.2.1 dX10_isLawful_54 rfl (lv_at hl 0 rfl) ?_
  obtain ⟨g8, hf⟩ := grd_e hf
  have hf := som_e hf
  subst hf
  exact j_zret C hO g8 dX10_isLawful_55
set_option maxHeartbeats 1000000 in
theorem c_X10_isLawful (l : Launch) (G : jG)  (M : jM) (l0 l1 : Int) (h0 : jkd l0 = (10, 0)) {fin : Int} (h : f_X10_isLawful M l0 l1 = some fin) : Met l yX10_isLawful (Cond.code yX10_isLawful cX10_isLawful 4 (some .boolean) :: wsL_law) ({ frames := 2, cells := 0, slots := 0, locals := 42 } : Room) (va_Pc [jR G l0, vI l1] (fun U => jRep G M U)) (jQ G (some (vI fin)) M) 0 0 (jA G) := by
  refine Met.ofW (cc := cX10_isLawful) (maxL := 4) (ret := (some .boolean)) (by decide) rfl ?_
  intro p e s m args below meth c s₁ B hml hv
  obtain ⟨rfl, hR0⟩ := hv
  have C : jCx p s m ([jR G l0, vI l1] : List Value).toArray meth c cX10_isLawful 4 RX10 (Cond.code yX10_isLawful cX10_isLawful 4 (some .boolean)) (some .boolean) := ⟨B.exec, B.bytes, hml, findClass_of_methodNamed B.named, atoms_spec B.pre, B.returns, B.notSynchronized⟩
  have hO := hR0.ok
  have hl := lv_entry ([jR G l0, vI l1]) (n := 4) (Nat.le_of_ble_eq_true rfl)
  rw [lg_entry_eq]
  generalize (lg_sl ([jR G l0, vI l1]) ++ List.replicate (4 - (lg_sl ([jR G l0, vI l1])).length) Slot.unset).toArray = ls at hl ⊢
  have hl : lv_has ls 4 [(0, jR G l0), (1, vI l1)] := hl
  exact w_X10_isLawful C (Nat.le_refl _) (Nat.le_refl _) M l0 l1 h0 h hO hl
set_option maxHeartbeats 4000000 in
theorem w_X10_endsWith_65 {p : Program} {l : Launch} {e : Env} {R : Room} {s : State} {m : MethodId} {args : Array Value} {below : List Frame} {meth : Method} {c : Code} {H : Heap} {locs : List Loc} {ls : Array Slot} {G : jG}  (C : jCx p s m args meth c cX10_endsWith 7 RX10 (Cond.code yX10_endsWith cX10_endsWith 7 (some .boolean)) (some .boolean)) (hRf : 0 ≤ R.frames) (hRl : 0 ≤ R.locals)  (M : jM) (l0 l1 l2 l3 l4 l6 s0 : Int) (h0 : jkd l0 = (10, 0)) {fin : Int} {rr : (Int × Int) ⊕ Int} (hf : f_X10_endsWith_65 M l0 l1 l2 l3 l4 l6 s0 = some rr) (kc : ∀ q : Int × Int, rr = .inl q → ∀ (H : Heap) (locs : List Loc) (ls : Array Slot), jOk G M s H locs → lv_has ls 7 [(0, jR G l0), (1, vI l1), (2, vI l2), (3, vI l3), (4, vI l4), (5, vI q.1), (6, vI q.2)] → W p l e R s m args below meth c H locs 0 0 (MQ below (jQ G (some (vI fin)) M) args s 0 0 (jA G)) (F0 m 16 ls [])) (kx0 : ∀ q : Int, rr = .inr q → ∀ (H : Heap) (locs : List Loc) (ls : Array Slot), jOk G M s H locs → lv_has ls 7 [(5, vI q)] → W p l e R s m args below meth c H locs 0 0 (MQ below (jQ G (some (vI fin)) M) args s 0 0 (jA G)) (F0 m 73 ls [])) (hO : jOk G M s H locs) (hl : lv_has ls 7 [(0, jR G l0), (1, vI l1), (2, vI l2), (3, vI l3), (4, vI l4), (6, vI l6)]) : W p l e R s m args below meth c H locs 0 0 (MQ below (jQ G (some (vI fin)) M) args s 0 0 (jA G)) (F0 m 65 ls [vI s0]) := by
  unfold f_X10_endsWith_65 at hf
  refine lv_istore (lv' := [(5, vI s0), (0, jR G l0), (1, vI l1), (2, vI l2), (3, vI l3), (4, vI l4), (6, vI l6)]) C.1 C.2.1 dX10_endsWith_65 hl (by decide) rfl (fun ls hl => ?_)
  refine lv_iinc (v := Int32.ofInt (l6 + 1)) (lv' := [(6, vI (l6 + 1)), (5, vI s0), (0, jR G l0), (1, vI l1), (2, vI l2), (3, vI l3), (4, vI l4)]) C.1 C.2.1 dX10_endsWith_67 hl (k := 6) rfl (Int32.ofInt_add _ _).symm (by decide) rfl (fun ls hl => ?_)
  refine lv_goto (tgt := 16) C.1 C.2.1 dX10_endsWith_70 (by decide) ?_
  exact kc _ (som_e hf).symm _ _ _ hO (lv_sub hl [2, 3, 4, 5, 6, 1, 0] rfl)
set_option maxHeartbeats 4000000 in
theorem w_X10_endsWith_L16 {p : Program} {l : Launch} {e : Env} {R : Room} {s : State} {m : MethodId} {args : Array Value} {below : List Frame} {meth : Method} {c : Code} {H : Heap} {locs : List Loc} {ls : Array Slot} {G : jG}  (C : jCx p s m args meth c cX10_endsWith 7 RX10 (Cond.code yX10_endsWith cX10_endsWith 7 (some .boolean)) (some .boolean)) (hRf : 0 ≤ R.frames) (hRl : 0 ≤ R.locals)  (M : jM) (l0 l1 l2 l3 l4 : Int) (h0 : jkd l0 = (10, 0)) {fin : Int} (S : Int × Int) {rr : (Int × Int) ⊕ Int} (hf : f_X10_endsWith_L16 M l0 l1 l2 l3 l4 S = some rr) (kc : ∀ q : Int × Int, rr = .inl q → ∀ (H : Heap) (locs : List Loc) (ls : Array Slot), jOk G M s H locs → lv_has ls 7 [(0, jR G l0), (1, vI l1), (2, vI l2), (3, vI l3), (4, vI l4), (5, vI q.1), (6, vI q.2)] → W p l e R s m args below meth c H locs 0 0 (MQ below (jQ G (some (vI fin)) M) args s 0 0 (jA G)) (F0 m 16 ls [])) (kx0 : ∀ q : Int, rr = .inr q → ∀ (H : Heap) (locs : List Loc) (ls : Array Slot), jOk G M s H locs → lv_has ls 7 [(5, vI q)] → W p l e R s m args below meth c H locs 0 0 (MQ below (jQ G (some (vI fin)) M) args s 0 0 (jA G)) (F0 m 73 ls [])) (hO : jOk G M s H locs) (hl : lv_has ls 7 [(0, jR G l0), (1, vI l1), (2, vI l2), (3, vI l3), (4, vI l4), (5, vI S.1), (6, vI S.2)]) : W p l e R s m args below meth c H locs 0 0 (MQ below (jQ G (some (vI fin)) M) args s 0 0 (jA G)) (F0 m 16 ls []) := by
  unfold f_X10_endsWith_L16 at hf
  refine lv_iload C.1 C.2.1 dX10_endsWith_16 (lv_at hl 6 rfl) ?_
  refine lv_iload C.1 C.2.1 dX10_endsWith_18 (lv_at hl 4 rfl) ?_
  refine j_icmp_ge (tgt := 73) C rfl rfl dX10_endsWith_20 (by decide) (fun c2 => ?_) (fun c2 => ?_)
  · have hf := (if_pos c2).symm.trans hf
    exact kx0 _ (som_e hf).symm _ _ _ hO (lv_sub hl [5] rfl)
  · have hf := (if_neg c2).symm.trans hf
    refine lv_iload C.1 C.2.1 dX10_endsWith_23 (lv_at hl 5 rfl) ?_
    refine j_if_eq (tgt := 73) C rfl dX10_endsWith_25 (by decide) (fun c3 => ?_) (fun c3 => ?_)
    · have hf := (if_pos c3).symm.trans hf
      exact kx0 _ (som_e hf).symm _ _ _ hO (lv_sub hl [5] rfl)
    · have hf := (if_neg c3).symm.trans hf
      refine lv_aload_n C.1 C.2.1 dX10_endsWith_28 rfl (lv_at hl 0 rfl) ?_
      refine j_get C hO (ci := 10) (k := 1) (v := jR G (jpt l0 1)) h0 rfl inlX10 (by decide) kF_5_23 rfl rfl dX10_endsWith_29 ?_
      refine lv_iload_n C.1 C.2.1 dX10_endsWith_32 rfl (lv_at hl 1 rfl) ?_
      refine lv_iload_n C.1 C.2.1 dX10_endsWith_33 rfl (lv_at hl 2 rfl) ?_
      refine j_iadd C dX10_endsWith_34 ?_
      refine lv_iload C.1 C.2.1 dX10_endsWith_35 (lv_at hl 4 rfl) ?_
      refine j_isub C dX10_endsWith_37 ?_
      refine lv_iload C.1 C.2.1 dX10_endsWith_38 (lv_at hl 6 rfl) ?_
      refine j_iadd C dX10_endsWith_40 ?_
      obtain ⟨g4, hf⟩ := grd_e hf
      refine j_iald C hO (tp_10_1 h0) rfl g4.1 g4.2 dX10_endsWith_41 ?_
      refine lv_aload_n C.1 C.2.1 dX10_endsWith_42 rfl (lv_at hl 0 rfl) ?_
      refine j_get C hO (ci := 10) (k := 1) (v := jR G (jpt l0 1)) h0 rfl inlX10 (by decide) kF_5_23 rfl rfl dX10_endsWith_43 ?_
      refine lv_bipush (v := Int32.ofInt 10) C.1 C.2.1 dX10_endsWith_46 (by decide) ?_
      refine lv_bipush (v := Int32.ofInt 6) C.1 C.2.1 dX10_endsWith_48 (by decide) ?_
      refine lv_iload_n C.1 C.2.1 dX10_endsWith_50 rfl (lv_at hl 3 rfl) ?_
      refine j_imul C dX10_endsWith_51 ?_
      refine j_iadd C dX10_endsWith_52 ?_
      refine lv_iload C.1 C.2.1 dX10_endsWith_53 (lv_at hl 6 rfl) ?_
      refine j_iadd C dX10_endsWith_55 ?_
      obtain ⟨g5, hf⟩ := grd_e hf
      refine j_iald C hO (tp_10_1 h0) rfl g5.1 g5.2 dX10_endsWith_56 ?_
      refine j_icmp_ne (tgt := 64) C rfl rfl dX10_endsWith_57 (by decide) (fun c6 => ?_) (fun c6 => ?_)
      · have hf := (if_neg c6).symm.trans hf
        refine lv_iconst (v := Int32.ofInt 0) C.1 C.2.1 dX10_endsWith_64 rfl ?_
        exact w_X10_endsWith_65 C hRf hRl M l0 l1 l2 l3 l4 S.2 0 h0 hf kc kx0 hO (lv_sub hl [0, 1, 2, 3, 4, 6] rfl)
      · have hf := (if_pos c6).symm.trans hf
        refine lv_iconst (v := Int32.ofInt 1) C.1 C.2.1 dX10_endsWith_60 rfl ?_
        refine lv_goto (tgt := 65) C.1 C.2.1 dX10_endsWith_61 (by decide) ?_
        exact w_X10_endsWith_65 C hRf hRl M l0 l1 l2 l3 l4 S.2 1 h0 hf kc kx0 hO (lv_sub hl [0, 1, 2, 3, 4, 6] rfl)
set_option maxHeartbeats 4000000 in
theorem w_X10_endsWith_11 {p : Program} {l : Launch} {e : Env} {R : Room} {s : State} {m : MethodId} {args : Array Value} {below : List Frame} {meth : Method} {c : Code} {H : Heap} {locs : List Loc} {ls : Array Slot} {G : jG}  (C : jCx p s m args meth c cX10_endsWith 7 RX10 (Cond.code yX10_endsWith cX10_endsWith 7 (some .boolean)) (some .boolean)) (hRf : 0 ≤ R.frames) (hRl : 0 ≤ R.locals)  (M : jM) (l0 l1 l2 l3 l4 s0 : Int) (h0 : jkd l0 = (10, 0)) {fin : Int} (hf : f_X10_endsWith_11 M l0 l1 l2 l3 l4 s0 = some fin) (hO : jOk G M s H locs) (hl : lv_has ls 7 [(0, jR G l0), (1, vI l1), (2, vI l2), (3, vI l3), (4, vI l4)]) : W p l e R s m args below meth c H locs 0 0 (MQ below (jQ G (some (vI fin)) M) args s 0 0 (jA G)) (F0 m 11 ls [vI s0]) := by
  unfold f_X10_endsWith_11 at hf
  refine lv_istore (lv' := [(5, vI s0), (0, jR G l0), (1, vI l1), (2, vI l2), (3, vI l3), (4, vI l4)]) C.1 C.2.1 dX10_endsWith_11 hl (by decide) rfl (fun ls hl => ?_)
  refine lv_iconst (v := Int32.ofInt 0) C.1 C.2.1 dX10_endsWith_13 rfl ?_
  refine lv_istore (lv' := [(6, vI 0), (5, vI s0), (0, jR G l0), (1, vI l1), (2, vI l2), (3, vI l3), (4, vI l4)]) C.1 C.2.1 dX10_endsWith_14 hl (by decide) rfl (fun ls hl => ?_)
  obtain ⟨x7, hx7, hf⟩ := bnd_e hf
  refine iter_e (P := fun Z => ∀ (H : Heap) (locs : List Loc) (ls : Array Slot), jOk G M s H locs → lv_has ls 7 [(0, jR G l0), (1, vI l1), (2, vI l2), (3, vI l3), (4, vI l4), (5, vI Z.1), (6, vI Z.2)] → W p l e R s m args below meth c H locs 0 0 (MQ below (jQ G (some (vI fin)) M) args s 0 0 (jA G)) (F0 m 16 ls [])) (E := fun q => ∀ (H : Heap) (locs : List Loc) (ls : Array Slot), jOk G M s H locs → lv_has ls 7 [(5, vI q)] → W p l e R s m args below meth c H locs 0 0 (MQ below (jQ G (some (vI fin)) M) args s 0 0 (jA G)) (F0 m 73 ls [])) (fun Z rr hb kc kx H locs ls hO hl => w_X10_endsWith_L16 C hRf hRl M l0 l1 l2 l3 l4 h0 Z hb kc (fun q e => kx q e) hO hl) 5000 (s0, 0) x7 hx7 ?_ _ _ _ hO (lv_sub hl [2, 3, 4, 5, 6, 1, 0] rfl)
  clear hO hl
  intro H locs ls hO hl
  refine lv_iload C.1 C.2.1 dX10_endsWith_73 (lv_at hl 0 rfl) ?_
  obtain ⟨g8, hf⟩ := grd_e hf
  have hf := som_e hf
  subst hf
  exact j_zret C hO g8 dX10_endsWith_75
set_option maxHeartbeats 4000000 in
theorem w_X10_endsWith {p : Program} {l : Launch} {e : Env} {R : Room} {s : State} {m : MethodId} {args : Array Value} {below : List Frame} {meth : Method} {c : Code} {H : Heap} {locs : List Loc} {ls : Array Slot} {G : jG}  (C : jCx p s m args meth c cX10_endsWith 7 RX10 (Cond.code yX10_endsWith cX10_endsWith 7 (some .boolean)) (some .boolean)) (hRf : 0 ≤ R.frames) (hRl : 0 ≤ R.locals)  (M : jM) (l0 l1 l2 l3 l4 : Int) (h0 : jkd l0 = (10, 0)) {fin : Int} (hf : f_X10_endsWith M l0 l1 l2 l3 l4 = some fin) (hO : jOk G M s H locs) (hl : lv_has ls 7 [(0, jR G l0), (1, vI l1), (2, vI l2), (3, vI l3), (4, vI l4)]) : W p l e R s m args below meth c H locs 0 0 (MQ below (jQ G (some (vI fin)) M) args s 0 0 (jA G)) (F0 m 0 ls []) := by
  unfold f_X10_endsWith at hf
  refine lv_iload_n C.1 C.2.1 dX10_endsWith_0 rfl (lv_at hl 2 rfl) ?_
  refine lv_iload C.1 C.2.1 dX10_endsWith_1 (lv_at hl 4 rfl) ?_
  refine j_icmp_lt (tgt := 10) C rfl rfl dX10_endsWith_3 (by decide) (fun c1 => ?_) (fun c1 => ?_)
  · have hf := (if_pos c1).symm.trans hf
    refine lv_iconst (v := Int32.ofInt 0) C.1 C.2.1 dX10_endsWith_10 rfl ?_
    exact w_X10_endsWith_11 C hRf hRl M l0 l1 l2 l3 l4 0 h0 hf hO (lv_sub hl [0, 1, 2, 3, 4] rfl)
  · have hf := (if_neg c1).symm.trans hf
    refine lv_iconst (v := Int32.ofInt 1) C.1 C.2.1 dX10_endsWith_6 rfl ?_
    refine lv_goto (tgt := 11) C.1 C.2.1 dX10_endsWith_7 (by decide) ?_
    exact w_X10_endsWith_11 C hRf hRl M l0 l1 l2 l3 l4 1 h0 hf hO (lv_sub hl [0, 1, 2, 3, 4] rfl)
set_option maxHeartbeats 1000000 in
theorem c_X10_endsWith (l : Launch) (G : jG)  (M : jM) (l0 l1 l2 l3 l4 : Int) (h0 : jkd l0 = (10, 0)) {fin : Int} (h : f_X10_endsWith M l0 l1 l2 l3 l4 = some fin) : Met l yX10_endsWith (Cond.code yX10_endsWith cX10_endsWith 7 (some .boolean) :: wsL_law) ({ frames := 0, cells := 0, slots := 0, locals := 0 } : Room) (va_Pc [jR G l0, vI l1, vI l2, vI l3, vI l4] (fun U => jRep G M U)) (jQ G (some (vI fin)) M) 0 0 (jA G) := by
  refine Met.ofW (cc := cX10_endsWith) (maxL := 7) (ret := (some .boolean)) (by decide) rfl ?_
  intro p e s m args below meth c s₁ B hml hv
  obtain ⟨rfl, hR0⟩ := hv
  have C : jCx p s m ([jR G l0, vI l1, vI l2, vI l3, vI l4] : List Value).toArray meth c cX10_endsWith 7 RX10 (Cond.code yX10_endsWith cX10_endsWith 7 (some .boolean)) (some .boolean) := ⟨B.exec, B.bytes, hml, findClass_of_methodNamed B.named, atoms_spec B.pre, B.returns, B.notSynchronized⟩
  have hO := hR0.ok
  have hl := lv_entry ([jR G l0, vI l1, vI l2, vI l3, vI l4]) (n := 7) (Nat.le_of_ble_eq_true rfl)
  rw [lg_entry_eq]
  generalize (lg_sl ([jR G l0, vI l1, vI l2, vI l3, vI l4]) ++ List.replicate (7 - (lg_sl ([jR G l0, vI l1, vI l2, vI l3, vI l4])).length) Slot.unset).toArray = ls at hl ⊢
  have hl : lv_has ls 7 [(0, jR G l0), (1, vI l1), (2, vI l2), (3, vI l3), (4, vI l4)] := hl
  exact w_X10_endsWith C (Nat.le_refl _) (Nat.le_refl _) M l0 l1 l2 l3 l4 h0 h hO hl
set_option maxHeartbeats 4000000 in
theorem w_X10_isWithin_42 {p : Program} {l : Launch} {e : Env} {R : Room} {s : State} {m : MethodId} {args : Array Value} {below : List Frame} {meth : Method} {c : Code} {H : Heap} {locs : List Loc} {ls : Array Slot} {G : jG}  (C : jCx p s m args meth c cX10_isWithin 6 RX10 (Cond.code yX10_isWithin cX10_isWithin 6 (some .boolean)) (some .boolean)) (hRf : 1 ≤ R.frames) (hRl : 26 ≤ R.locals)  (M : jM) (l0 l1 l2 l3 l5 s0 : Int) (h0 : jkd l0 = (10, 0)) {fin : Int} {rr : (Int × Int) ⊕ Int} (hf : f_X10_isWithin_42 M l0 l1 l2 l3 l5 s0 = some rr) (kc : ∀ q : Int × Int, rr = .inl q → ∀ (H : Heap) (locs : List Loc) (ls : Array Slot), jOk G M s H locs → lv_has ls 6 [(0, jR G l0), (1, vI l1), (2, vI l2), (3, vI l3), (4, vI q.1), (5, vI q.2)] → W p l e R s m args below meth c H locs 0 0 (MQ below (jQ G (some (vI fin)) M) args s 0 0 (jA G)) (F0 m 6 ls [])) (kx0 : ∀ q : Int, rr = .inr q → ∀ (H : Heap) (locs : List Loc) (ls : Array Slot), jOk G M s H locs → lv_has ls 6 [(4, vI q)] → W p l e R s m args below meth c H locs 0 0 (MQ below (jQ G (some (vI fin)) M) args s 0 0 (jA G)) (F0 m 50 ls [])) (hO : jOk G M s H locs) (hl : lv_has ls 6 [(0, jR G l0), (1, vI l1), (2, vI l2), (3, vI l3), (5, vI l5)]) : W p l e R s m args below meth c H locs 0 0 (MQ below (jQ G (some (vI fin)) M) args s 0 0 (jA G)) (F0 m 42 ls [vI s0]) := by
  unfold f_X10_isWithin_42 at hf
  refine lv_istore (lv' := [(4, vI s0), (0, jR G l0), (1, vI l1), (2, vI l2), (3, vI l3), (5, vI l5)]) C.1 C.2.1 dX10_isWithin_42 hl (by decide) rfl (fun ls hl => ?_)
  refine lv_iinc (v := Int32.ofInt (l5 + 1)) (lv' := [(5, vI (l5 + 1)), (4, vI s0), (0, jR G l0), (1, vI l1), (2, vI l2), (3, vI l3)]) C.1 C.2.1 dX10_isWithin_44 hl (k := 5) rfl (Int32.ofInt_add _ _).symm (by decide) rfl (fun ls hl => ?_)
  refine lv_goto (tgt := 6) C.1 C.2.1 dX10_isWithin_47 (by decide) ?_
  exact kc _ (som_e hf).symm _ _ _ hO (lv_sub hl [2, 3, 4, 5, 1, 0] rfl)
set_option maxHeartbeats 4000000 in
theorem w_X10_isWithin_37 {p : Program} {l : Launch} {e : Env} {R : Room} {s : State} {m : MethodId} {args : Array Value} {below : List Frame} {meth : Method} {c : Code} {H : Heap} {locs : List Loc} {ls : Array Slot} {G : jG}  (C : jCx p s m args meth c cX10_isWithin 6 RX10 (Cond.code yX10_isWithin cX10_isWithin 6 (some .boolean)) (some .boolean)) (hRf : 1 ≤ R.frames) (hRl : 26 ≤ R.locals)  (M : jM) (l0 l1 l2 l3 l5 : Int) (h0 : jkd l0 = (10, 0)) {fin : Int} {rr : (Int × Int) ⊕ Int} (hf : f_X10_isWithin_37 M l0 l1 l2 l3 l5 = some rr) (kc : ∀ q : Int × Int, rr = .inl q → ∀ (H : Heap) (locs : List Loc) (ls : Array Slot), jOk G M s H locs → lv_has ls 6 [(0, jR G l0), (1, vI l1), (2, vI l2), (3, vI l3), (4, vI q.1), (5, vI q.2)] → W p l e R s m args below meth c H locs 0 0 (MQ below (jQ G (some (vI fin)) M) args s 0 0 (jA G)) (F0 m 6 ls [])) (kx0 : ∀ q : Int, rr = .inr q → ∀ (H : Heap) (locs : List Loc) (ls : Array Slot), jOk G M s H locs → lv_has ls 6 [(4, vI q)] → W p l e R s m args below meth c H locs 0 0 (MQ below (jQ G (some (vI fin)) M) args s 0 0 (jA G)) (F0 m 50 ls [])) (hO : jOk G M s H locs) (hl : lv_has ls 6 [(0, jR G l0), (1, vI l1), (2, vI l2), (3, vI l3), (5, vI l5)]) : W p l e R s m args below meth c H locs 0 0 (MQ below (jQ G (some (vI fin)) M) args s 0 0 (jA G)) (F0 m 37 ls []) := by
  unfold f_X10_isWithin_37 at hf
  refine lv_iconst (v := Int32.ofInt 1) C.1 C.2.1 dX10_isWithin_37 rfl ?_
  refine lv_goto (tgt := 42) C.1 C.2.1 dX10_isWithin_38 (by decide) ?_
  exact w_X10_isWithin_42 C hRf hRl M l0 l1 l2 l3 l5 1 h0 hf kc kx0 hO (lv_sub hl [0, 1, 2, 3, 4] rfl)
set_option maxHeartbeats 4000000 in
theorem w_X10_isWithin_L6 {p : Program} {l : Launch} {e : Env} {R : Room} {s : State} {m : MethodId} {args : Array Value} {below : List Frame} {meth : Method} {c : Code} {H : Heap} {locs : List Loc} {ls : Array Slot} {G : jG}  (C : jCx p s m args meth c cX10_isWithin 6 RX10 (Cond.code yX10_isWithin cX10_isWithin 6 (some .boolean)) (some .boolean)) (hRf : 1 ≤ R.frames) (hRl : 26 ≤ R.locals)  (M : jM) (l0 l1 l2 l3 : Int) (h0 : jkd l0 = (10, 0)) {fin : Int} (S : Int × Int) {rr : (Int × Int) ⊕ Int} (hf : f_X10_isWithin_L6 M l0 l1 l2 l3 S = some rr) (kc : ∀ q : Int × Int, rr = .inl q → ∀ (H : Heap) (locs : List Loc) (ls : Array Slot), jOk G M s H locs → lv_has ls 6 [(0, jR G l0), (1, vI l1), (2, vI l2), (3, vI l3), (4, vI q.1), (5, vI q.2)] → W p l e R s m args below meth c H locs 0 0 (MQ below (jQ G (some (vI fin)) M) args s 0 0 (jA G)) (F0 m 6 ls [])) (kx0 : ∀ q : Int, rr = .inr q → ∀ (H : Heap) (locs : List Loc) (ls : Array Slot), jOk G M s H locs → lv_has ls 6 [(4, vI q)] → W p l e R s m args below meth c H locs 0 0 (MQ below (jQ G (some (vI fin)) M) args s 0 0 (jA G)) (F0 m 50 ls [])) (hO : jOk G M s H locs) (hl : lv_has ls 6 [(0, jR G l0), (1, vI l1), (2, vI l2), (3, vI l3), (4, vI S.1), (5, vI S.2)]) : W p l e R s m args below meth c H locs 0 0 (MQ below (jQ G (some (vI fin)) M) args s 0 0 (jA G)) (F0 m 6 ls []) := by
  unfold f_X10_isWithin_L6 at hf
  refine lv_iload C.1 C.2.1 dX10_isWithin_6 (lv_at hl 5 rfl) ?_
  refine lv_iload_n C.1 C.2.1 dX10_isWithin_8 rfl (lv_at hl 3 rfl) ?_
  refine j_icmp_gt (tgt := 50) C rfl rfl dX10_isWithin_9 (by decide) (fun c1 => ?_) (fun c1 => ?_)
  · have hf := (if_pos c1).symm.trans hf
    exact kx0 _ (som_e hf).symm _ _ _ hO (lv_sub hl [4] rfl)
  · have hf := (if_neg c1).symm.trans hf
    refine lv_iload C.1 C.2.1 dX10_isWithin_12 (lv_at hl 4 rfl) ?_
    refine j_if_ne (tgt := 37) C rfl dX10_isWithin_14 (by decide) (fun c2 => ?_) (fun c2 => ?_)
    · have hf := (if_neg c2).symm.trans hf
      exact w_X10_isWithin_37 C hRf hRl M l0 l1 l2 l3 S.2 h0 hf kc kx0 hO (lv_sub hl [0, 1, 2, 3, 5] rfl)
    · have hf := (if_pos c2).symm.trans hf
      refine lv_aload_n C.1 C.2.1 dX10_isWithin_17 rfl (lv_at hl 0 rfl) ?_
      refine lv_iload_n C.1 C.2.1 dX10_isWithin_18 rfl (lv_at hl 2 rfl) ?_
      refine lv_iload C.1 C.2.1 dX10_isWithin_19 (lv_at hl 5 rfl) ?_
      refine lv_iload_n C.1 C.2.1 dX10_isWithin_21 rfl (lv_at hl 1 rfl) ?_
      refine lv_aload_n C.1 C.2.1 dX10_isWithin_22 rfl (lv_at hl 0 rfl) ?_
      refine j_get C hO (ci := 10) (k := 1) (v := jR G (jpt l0 1)) h0 rfl inlX10 (by decide) kF_5_23 rfl rfl dX10_isWithin_23 ?_
      refine lv_bipush (v := Int32.ofInt 58) C.1 C.2.1 dX10_isWithin_26 (by decide) ?_
      refine lv_iload_n C.1 C.2.1 dX10_isWithin_28 rfl (lv_at hl 1 rfl) ?_
      refine j_iadd C dX10_isWithin_29 ?_
      obtain ⟨g3, hf⟩ := grd_e hf
      refine j_iald C hO (tp_10_1 h0) rfl g3.1 g3.2 dX10_isWithin_30 ?_
      obtain ⟨r4, hr4, hf⟩ := bnd_e hf
      refine j_callV C hO (n := 4) (As := [vI l2, vI S.2, vI l1, vI (M (jpt l0 1) (w32 (58 + l1)))]) (st1 := [vI r4]) (c_X10_endsWith l G M l0 l2 S.2 l1 (M (jpt l0 1) (w32 (58 + l1))) h0 hr4) h0 rfl kC_23_15 kM_23_12 kI_23_13 kS_23_14 kN_1_5 ⟨by decide, by decide, by decide⟩ ⟨Nat.le_trans (by decide) hRf, Nat.le_trans (by decide) hRl⟩ rfl rfl rfl hl.1 rfl (Nat.le_of_ble_eq_true rfl) ⟨Nat.zero_le _, Nat.zero_le _⟩ dX10_isWithin_31 rfl (fun H locs hO => ?_)
      refine j_if_eq (tgt := 41) C rfl dX10_isWithin_34 (by decide) (fun c5 => ?_) (fun c5 => ?_)
      · have hf := (if_pos c5).symm.trans hf
        refine lv_iconst (v := Int32.ofInt 0) C.1 C.2.1 dX10_isWithin_41 rfl ?_
        exact w_X10_isWithin_42 C hRf hRl M l0 l1 l2 l3 S.2 0 h0 hf kc kx0 hO (lv_sub hl [0, 1, 2, 3, 5] rfl)
      · have hf := (if_neg c5).symm.trans hf
        exact w_X10_isWithin_37 C hRf hRl M l0 l1 l2 l3 S.2 h0 hf kc kx0 hO (lv_sub hl [0, 1, 2, 3, 5] rfl)
set_option maxHeartbeats 4000000 in
theorem w_X10_isWithin {p : Program} {l : Launch} {e : Env} {R : Room} {s : State} {m : MethodId} {args : Array Value} {below : List Frame} {meth : Method} {c : Code} {H : Heap} {locs : List Loc} {ls : Array Slot} {G : jG}  (C : jCx p s m args meth c cX10_isWithin 6 RX10 (Cond.code yX10_isWithin cX10_isWithin 6 (some .boolean)) (some .boolean)) (hRf : 1 ≤ R.frames) (hRl : 26 ≤ R.locals)  (M : jM) (l0 l1 l2 l3 : Int) (h0 : jkd l0 = (10, 0)) {fin : Int} (hf : f_X10_isWithin M l0 l1 l2 l3 = some fin) (hO : jOk G M s H locs) (hl : lv_has ls 6 [(0, jR G l0), (1, vI l1), (2, vI l2), (3, vI l3)]) : W p l e R s m args below meth c H locs 0 0 (MQ below (jQ G (some (vI fin)) M) args s 0 0 (jA G)) (F0 m 0 ls []) := by
  unfold f_X10_isWithin at hf
  refine lv_iconst (v := Int32.ofInt 0) C.1 C.2.1 dX10_isWithin_0 rfl ?_
  refine lv_istore (lv' := [(4, vI 0), (0, jR G l0), (1, vI l1), (2, vI l2), (3, vI l3)]) C.1 C.2.1 dX10_isWithin_1 hl (by decide) rfl (fun ls hl => ?_)
  refine lv_iconst (v := Int32.ofInt 1) C.1 C.2.1 dX10_isWithin_3 rfl ?_
  refine lv_istore (lv' := [(5, vI 1), (4, vI 0), (0, jR G l0), (1, vI l1), (2, vI l2), (3, vI l3)]) C.1 C.2.1 dX10_isWithin_4 hl (by decide) rfl (fun ls hl => ?_)
  obtain ⟨x6, hx6, hf⟩ := bnd_e hf
  refine iter_e (P := fun Z => ∀ (H : Heap) (locs : List Loc) (ls : Array Slot), jOk G M s H locs → lv_has ls 6 [(0, jR G l0), (1, vI l1), (2, vI l2), (3, vI l3), (4, vI Z.1), (5, vI Z.2)] → W p l e R s m args below meth c H locs 0 0 (MQ below (jQ G (some (vI fin)) M) args s 0 0 (jA G)) (F0 m 6 ls [])) (E := fun q => ∀ (H : Heap) (locs : List Loc) (ls : Array Slot), jOk G M s H locs → lv_has ls 6 [(4, vI q)] → W p l e R s m args below meth c H locs 0 0 (MQ below (jQ G (some (vI fin)) M) args s 0 0 (jA G)) (F0 m 50 ls [])) (fun Z rr hb kc kx H locs ls hO hl => w_X10_isWithin_L6 C hRf hRl M l0 l1 l2 l3 h0 Z hb kc (fun q e => kx q e) hO hl) 5000 (0, 1) x6 hx6 ?_ _ _ _ hO (lv_sub hl [2, 3, 4, 5, 1, 0] rfl)
  clear hO hl
  intro H locs ls hO hl
  refine lv_iload C.1 C.2.1 dX10_isWithin_50 (lv_at hl 0 rfl) ?_
  obtain ⟨g7, hf⟩ := grd_e hf
  have hf := som_e hf
  subst hf
  exact j_zret C hO g7 dX10_isWithin_52
set_option maxHeartbeats 1000000 in
theorem c_X10_isWithin (l : Launch) (G : jG)  (M : jM) (l0 l1 l2 l3 : Int) (h0 : jkd l0 = (10, 0)) {fin : Int} (h : f_X10_isWithin M l0 l1 l2 l3 = some fin) : Met l yX10_isWithin (Cond.code yX10_isWithin cX10_isWithin 6 (some .boolean) :: wsL_law) ({ frames := 1, cells := 0, slots := 0, locals := 26 } : Room) (va_Pc [jR G l0, vI l1, vI l2, vI l3] (fun U => jRep G M U)) (jQ G (some (vI fin)) M) 0 0 (jA G) := by
  refine Met.ofW (cc := cX10_isWithin) (maxL := 6) (ret := (some .boolean)) (by decide) rfl ?_
  intro p e s m args below meth c s₁ B hml hv
  obtain ⟨rfl, hR0⟩ := hv
  have C : jCx p s m ([jR G l0, vI l1, vI l2, vI l3] : List Value).toArray meth c cX10_isWithin 6 RX10 (Cond.code yX10_isWithin cX10_isWithin 6 (some .boolean)) (some .boolean) := ⟨B.exec, B.bytes, hml, findClass_of_methodNamed B.named, atoms_spec B.pre, B.returns, B.notSynchronized⟩
  have hO := hR0.ok
  have hl := lv_entry ([jR G l0, vI l1, vI l2, vI l3]) (n := 6) (Nat.le_of_ble_eq_true rfl)
  rw [lg_entry_eq]
  generalize (lg_sl ([jR G l0, vI l1, vI l2, vI l3]) ++ List.replicate (6 - (lg_sl ([jR G l0, vI l1, vI l2, vI l3])).length) Slot.unset).toArray = ls at hl ⊢
  have hl : lv_has ls 6 [(0, jR G l0), (1, vI l1), (2, vI l2), (3, vI l3)] := hl
  exact w_X10_isWithin C (Nat.le_refl _) (Nat.le_refl _) M l0 l1 l2 l3 h0 h hO hl
set_option maxHeartbeats 4000000 in
theorem w_X10_areApart {p : Program} {l : Launch} {e : Env} {R : Room} {s : State} {m : MethodId} {args : Array Value} {below : List Frame} {meth : Method} {c : Code} {H : Heap} {locs : List Loc} {ls : Array Slot} {G : jG}  (C : jCx p s m args meth c cX10_areApart 3 RX10 (Cond.code yX10_areApart cX10_areApart 3 (some .boolean)) (some .boolean)) (hRf : 2 ≤ R.frames) (hRl : 51 ≤ R.locals)  (M : jM) (l0 l1 l2 : Int) (h0 : jkd l0 = (10, 0)) {fin : Int} (hf : f_X10_areApart M l0 l1 l2 = some fin) (hO : jOk G M s H locs) (hl : lv_has ls 3 [(0, jR G l0), (1, vI l1), (2, vI l2)]) : W p l e R s m args below meth c H locs 0 0 (MQ below (jQ G (some (vI fin)) M) args s 0 0 (jA G)) (F0 m 0 ls []) := by
  unfold f_X10_areApart at hf
  refine lv_aload_n C.1 C.2.1 dX10_areApart_0 rfl (lv_at hl 0 rfl) ?_
  refine lv_iload_n C.1 C.2.1 dX10_areApart_1 rfl (lv_at hl 1 rfl) ?_
  refine lv_bipush (v := Int32.ofInt 10) C.1 C.2.1 dX10_areApart_2 (by decide) ?_
  refine lv_bipush (v := Int32.ofInt 6) C.1 C.2.1 dX10_areApart_4 (by decide) ?_
  refine lv_iload_n C.1 C.2.1 dX10_areApart_6 rfl (lv_at hl 2 rfl) ?_
  refine j_imul C dX10_areApart_7 ?_
  refine j_iadd C dX10_areApart_8 ?_
  refine lv_aload_n C.1 C.2.1 dX10_areApart_9 rfl (lv_at hl 0 rfl) ?_
  refine j_get C hO (ci := 10) (k := 1) (v := jR G (jpt l0 1)) h0 rfl inlX10 (by decide) kF_5_23 rfl rfl dX10_areApart_10 ?_
  refine lv_bipush (v := Int32.ofInt 58) C.1 C.2.1 dX10_areApart_13 (by decide) ?_
  refine lv_iload_n C.1 C.2.1 dX10_areApart_15 rfl (lv_at hl 2 rfl) ?_
  refine j_iadd C dX10_areApart_16 ?_
  obtain ⟨g1, hf⟩ := grd_e hf
  refine j_iald C hO (tp_10_1 h0) rfl g1.1 g1.2 dX10_areApart_17 ?_
  obtain ⟨r2, hr2, hf⟩ := bnd_e hf
  refine j_callV C hO (n := 3) (As := [vI l1, vI (10 + (6 * l2)), vI (M (jpt l0 1) (w32 (58 + l2)))]) (st1 := [vI r2]) (c_X10_isWithin l G M l0 l1 (10 + (6 * l2)) (M (jpt l0 1) (w32 (58 + l2))) h0 hr2) h0 rfl kC_26_4 kM_26_1 kI_26_2 kS_26_3 kN_1_5 ⟨by decide, by decide, by decide⟩ ⟨Nat.le_trans (by decide) hRf, Nat.le_trans (by decide) hRl⟩ rfl rfl rfl hl.1 rfl (Nat.le_of_ble_eq_true rfl) ⟨Nat.zero_le _, Nat.zero_le _⟩ dX10_areApart_18 rfl (fun H locs hO => ?_)
  refine j_if_ne (tgt := 52) C rfl dX10_areApart_21 (by decide) (fun c3 => ?_) (fun c3 => ?_)
  · have hf := (if_neg c3).symm.trans hf
    refine lv_iconst (v := Int32.ofInt 0) C.1 C.2.1 dX10_areApart_52 rfl ?_
    have hf := som_e hf
    subst hf
    exact j_zret C hO (Or.inl rfl) dX10_areApart_53
  · have hf := (if_pos c3).symm.trans hf
    refine lv_aload_n C.1 C.2.1 dX10_areApart_24 rfl (lv_at hl 0 rfl) ?_
    refine lv_iload_n C.1 C.2.1 dX10_areApart_25 rfl (lv_at hl 2 rfl) ?_
    refine lv_bipush (v := Int32.ofInt 10) C.1 C.2.1 dX10_areApart_26 (by decide) ?_
    refine lv_bipush (v := Int32.ofInt 6) C.1 C.2.1 dX10_areApart_28 (by decide) ?_
    refine lv_iload_n C.1 C.2.1 dX10_areApart_30 rfl (lv_at hl 1 rfl) ?_
    refine j_imul C dX10_areApart_31 ?_
    refine j_iadd C dX10_areApart_32 ?_
    refine lv_aload_n C.1 C.2.1 dX10_areApart_33 rfl (lv_at hl 0 rfl) ?_
    refine j_get C hO (ci := 10) (k := 1) (v := jR G (jpt l0 1)) h0 rfl inlX10 (by decide) kF_5_23 rfl rfl dX10_areApart_34 ?_
    refine lv_bipush (v := Int32.ofInt 58) C.1 C.2.1 dX10_areApart_37 (by decide) ?_
    refine lv_iload_n C.1 C.2.1 dX10_areApart_39 rfl (lv_at hl 1 rfl) ?_
    refine j_iadd C dX10_areApart_40 ?_
    obtain ⟨g4, hf⟩ := grd_e hf
    refine j_iald C hO (tp_10_1 h0) rfl g4.1 g4.2 dX10_areApart_41 ?_
    obtain ⟨r5, hr5, hf⟩ := bnd_e hf
    refine j_callV C hO (n := 3) (As := [vI l2, vI (10 + (6 * l1)), vI (M (jpt l0 1) (w32 (58 + l1)))]) (st1 := [vI r5]) (c_X10_isWithin l G M l0 l2 (10 + (6 * l1)) (M (jpt l0 1) (w32 (58 + l1))) h0 hr5) h0 rfl kC_26_4 kM_26_1 kI_26_2 kS_26_3 kN_1_5 ⟨by decide, by decide, by decide⟩ ⟨Nat.le_trans (by decide) hRf, Nat.le_trans (by decide) hRl⟩ rfl rfl rfl hl.1 rfl (Nat.le_of_ble_eq_true rfl) ⟨Nat.zero_le _, Nat.zero_le _⟩ dX10_areApart_42 rfl (fun H locs hO => ?_)
    refine j_if_ne (tgt := 52) C rfl dX10_areApart_45 (by decide) (fun c6 => ?_) (fun c6 => ?_)
    · have hf := (if_neg c6).symm.trans hf
      refine lv_iconst (v := Int32.ofInt 0) C.1 C.2.1 dX10_areApart_52 rfl ?_
      have hf := som_e hf
      subst hf
      exact j_zret C hO (Or.inl rfl) dX10_areApart_53
    · have hf := (if_pos c6).symm.trans hf
      refine lv_iconst (v := Int32.ofInt 1) C.1 C.2.1 dX10_areApart_48 rfl ?_
      refine lv_goto (tgt := 53) C.1 C.2.1 dX10_areApart_49 (by decide) ?_
      have hf := som_e hf
      subst hf
      exact j_zret C hO (Or.inr rfl) dX10_areApart_53
set_option maxHeartbeats 1000000 in
theorem c_X10_areApart (l : Launch) (G : jG)  (M : jM) (l0 l1 l2 : Int) (h0 : jkd l0 = (10, 0)) {fin : Int} (h : f_X10_areApart M l0 l1 l2 = some fin) : Met l yX10_areApart (Cond.code yX10_areApart cX10_areApart 3 (some .boolean) :: wsL_law) ({ frames := 2, cells := 0, slots := 0, locals := 51 } : Room) (va_Pc [jR G l0, vI l1, vI l2] (fun U => jRep G M U)) (jQ G (some (vI fin)) M) 0 0 (jA G) := by
  refine Met.ofW (cc := cX10_areApart) (maxL := 3) (ret := (some .boolean)) (by decide) rfl ?_
  intro p e s m args below meth c s₁ B hml hv
  obtain ⟨rfl, hR0⟩ := hv
  have C : jCx p s m ([jR G l0, vI l1, vI l2] : List Value).toArray meth c cX10_areApart 3 RX10 (Cond.code yX10_areApart cX10_areApart 3 (some .boolean)) (some .boolean) := ⟨B.exec, B.bytes, hml, findClass_of_methodNamed B.named, atoms_spec B.pre, B.returns, B.notSynchronized⟩
  have hO := hR0.ok
  have hl := lv_entry ([jR G l0, vI l1, vI l2]) (n := 3) (Nat.le_of_ble_eq_true rfl)
  rw [lg_entry_eq]
  generalize (lg_sl ([jR G l0, vI l1, vI l2]) ++ List.replicate (3 - (lg_sl ([jR G l0, vI l1, vI l2])).length) Slot.unset).toArray = ls at hl ⊢
  have hl : lv_has ls 3 [(0, jR G l0), (1, vI l1), (2, vI l2)] := hl
  exact w_X10_areApart C (Nat.le_refl _) (Nat.le_refl _) M l0 l1 l2 h0 h hO hl
