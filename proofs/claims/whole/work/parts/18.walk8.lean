set_option maxHeartbeats 4000000 in
theorem w_X9_within {p : Program} {l : Launch} {e : Env} {R : Room} {s : State} {m : MethodId} {args : Array Value} {below : List Frame} {meth : Method} {c : Code} {H : Heap} {locs : List Loc} {ls : Array Slot} {G : jG}  (C : jCx p s m args meth c cX9_within 4 RX9 (Cond.code yX9_within cX9_within 4 (some .long)) (some .long)) (hRf : 4 ≤ R.frames) (hRl : 89 ≤ R.locals)  (M : jM) (l0 l1 l2 l3 : Int) (h0 : jkd l0 = (9, 0)) {fin : Int × jM} (hf : f_X9_within M l0 l1 l2 l3 = some fin) (hO : jOk G M s H locs) (hl : lv_has ls 4 [(0, jR G l0), (1, vI l1), (2, vI l2), (3, vI l3)]) : W p l e R s m args below meth c H locs 0 0 (MQ below (jQ G (some (vL fin.1)) fin.2) args s 0 0 (jA G)) (F0 m 0 ls []) := by
  unfold f_X9_within at hf
  refine lv_aload_n C.1 C.2.1 dX9_within_0 rfl (lv_at hl 0 rfl) ?_
  obtain ⟨r1, hr1, hf⟩ := bnd_e hf
  refine j_callV C hO (n := 0) (As := []) (st1 := []) (c_X9_weigh l G M l0 h0 hr1) h0 rfl kC_15_12 kM_15_9 kI_15_10 kS_15_11 kN_1_2 ⟨by decide, by decide, by decide⟩ ⟨Nat.le_trans (by decide) hRf, Nat.le_trans (by decide) hRl⟩ rfl rfl rfl hl.1 rfl (Nat.le_of_ble_eq_true rfl) ⟨Nat.zero_le _, Nat.zero_le _⟩ dX9_within_1 rfl (fun H locs hO => ?_)
  refine lv_aload_n C.1 C.2.1 dX9_within_4 rfl (lv_at hl 0 rfl) ?_
  refine lv_iload_n C.1 C.2.1 dX9_within_5 rfl (lv_at hl 1 rfl) ?_
  obtain ⟨r2, hr2, hf⟩ := bnd_e hf
  obtain ⟨g3, hf⟩ := grd_e hf
  refine j_callV C hO (n := 1) (As := [vI l1]) (st1 := [jN G r2]) (c_X9_lawfulRow l G r1 l0 l1 h0 hr2) h0 rfl kC_21_7 kM_21_4 kI_21_5 kS_21_6 kN_1_2 ⟨by decide, by decide, by decide⟩ ⟨Nat.le_trans (by decide) hRf, Nat.le_trans (by decide) hRl⟩ rfl rfl rfl hl.1 rfl (Nat.le_of_ble_eq_true rfl) ⟨Nat.zero_le _, Nat.zero_le _⟩ dX9_within_6 rfl (fun H locs hO => ?_)
  refine j_ifnull (tgt := 29) C dX9_within_9 (by decide) (fun c4 => ?_) (fun c4 => ?_)
  · have hf := (if_pos c4).symm.trans hf
    refine j_ldc2 (x := (-9223372036854775808)) C kL_21_3 (by decide) dX9_within_29 ?_
    have hf := som_e hf
    subst hf
    exact j_lret C hO dX9_within_32
  · have hf := (if_neg c4).symm.trans hf
    refine lv_iload_n C.1 C.2.1 dX9_within_12 rfl (lv_at hl 2 rfl) ?_
    refine j_if_lt (tgt := 29) C rfl dX9_within_13 (by decide) (fun c5 => ?_) (fun c5 => ?_)
    · have hf := (if_pos c5).symm.trans hf
      refine j_ldc2 (x := (-9223372036854775808)) C kL_21_3 (by decide) dX9_within_29 ?_
      have hf := som_e hf
      subst hf
      exact j_lret C hO dX9_within_32
    · have hf := (if_neg c5).symm.trans hf
      refine lv_iload_n C.1 C.2.1 dX9_within_16 rfl (lv_at hl 2 rfl) ?_
      refine lv_bipush (v := Int32.ofInt 15) C.1 C.2.1 dX9_within_17 (by decide) ?_
      refine j_icmp_gt (tgt := 29) C rfl (w32_id (by decide) (by decide)) dX9_within_19 (by decide) (fun c6 => ?_) (fun c6 => ?_)
      · have hf := (if_pos c6).symm.trans hf
        refine j_ldc2 (x := (-9223372036854775808)) C kL_21_3 (by decide) dX9_within_29 ?_
        have hf := som_e hf
        subst hf
        exact j_lret C hO dX9_within_32
      · have hf := (if_neg c6).symm.trans hf
        refine lv_iload_n C.1 C.2.1 dX9_within_22 rfl (lv_at hl 3 rfl) ?_
        obtain ⟨r7, hr7, hf⟩ := bnd_e hf
        refine j_callS C hO (n := 1) (As := [vI l3]) (st1 := [vI r7]) (c_X9_isPart l G r1 l3  hr7) kC_21_16 kM_21_14 kT_21_15 kN_1_2 ⟨by decide, by decide, by decide⟩ ⟨Nat.le_trans (by decide) hRf, Nat.le_trans (by decide) hRl⟩ rfl rfl rfl hl.1 rfl (Nat.le_of_ble_eq_true rfl) ⟨Nat.zero_le _, Nat.zero_le _⟩ dX9_within_23 rfl (fun H locs hO => ?_)
        refine j_if_ne (tgt := 33) C rfl dX9_within_26 (by decide) (fun c8 => ?_) (fun c8 => ?_)
        · have hf := (if_neg c8).symm.trans hf
          refine lv_aload_n C.1 C.2.1 dX9_within_33 rfl (lv_at hl 0 rfl) ?_
          refine j_get C hO (ci := 9) (k := 8) (v := jR G (jpt l0 8)) h0 rfl inlX9 (by decide) kF_2_17 rfl rfl dX9_within_34 ?_
          refine lv_aload_n C.1 C.2.1 dX9_within_37 rfl (lv_at hl 0 rfl) ?_
          refine j_get C hO (ci := 9) (k := 0) (v := jR G (jpt l0 0)) h0 rfl inlX9 (by decide) kF_1_15 rfl rfl dX9_within_38 ?_
          refine lv_aload_n C.1 C.2.1 dX9_within_41 rfl (lv_at hl 0 rfl) ?_
          refine j_get C hO (ci := 9) (k := 5) (v := jR G (jpt l0 5)) h0 rfl inlX9 (by decide) kF_2_5 rfl rfl dX9_within_42 ?_
          obtain ⟨r9, hr9, hf⟩ := bnd_e hf
          refine j_callV C hO (n := 2) (As := [jR G (jpt l0 0), jR G (jpt l0 5)]) (st1 := []) (c_X4_build l G r1 (jpt l0 8) (jpt l0 0) (jpt l0 5) (tp_9_8 h0) (tp_9_0 h0) (tp_9_5 h0) hr9) (tp_9_8 h0) rfl kC_34_8 kM_34_5 kI_34_6 kS_34_7 kN_2_16 ⟨by decide, by decide, by decide⟩ ⟨Nat.le_trans (by decide) hRf, Nat.le_trans (by decide) hRl⟩ rfl rfl rfl hl.1 rfl (Nat.le_of_ble_eq_true rfl) ⟨Nat.zero_le _, Nat.zero_le _⟩ dX9_within_45 rfl (fun H locs hO => ?_)
          refine lv_aload_n C.1 C.2.1 dX9_within_48 rfl (lv_at hl 0 rfl) ?_
          refine j_get C hO (ci := 9) (k := 8) (v := jR G (jpt l0 8)) h0 rfl inlX9 (by decide) kF_2_17 rfl rfl dX9_within_49 ?_
          refine lv_iload_n C.1 C.2.1 dX9_within_52 rfl (lv_at hl 1 rfl) ?_
          refine lv_iload_n C.1 C.2.1 dX9_within_53 rfl (lv_at hl 2 rfl) ?_
          obtain ⟨r10, hr10, hf⟩ := bnd_e hf
          refine j_callV C hO (n := 2) (As := [vI l1, vI l2]) (st1 := [vL r10.1]) (c_X4_winsOf l G r9 (jpt l0 8) l1 l2 (tp_9_8 h0) hr10) (tp_9_8 h0) rfl kC_35_10 kM_35_7 kI_35_8 kS_35_9 kN_2_16 ⟨by decide, by decide, by decide⟩ ⟨Nat.le_trans (by decide) hRf, Nat.le_trans (by decide) hRl⟩ rfl rfl rfl hl.1 rfl (Nat.le_of_ble_eq_true rfl) ⟨Nat.zero_le _, Nat.zero_le _⟩ dX9_within_54 rfl (fun H locs hO => ?_)
          refine lv_aload_n C.1 C.2.1 dX9_within_57 rfl (lv_at hl 0 rfl) ?_
          refine j_get C hO (ci := 9) (k := 5) (v := jR G (jpt l0 5)) h0 rfl inlX9 (by decide) kF_2_5 rfl rfl dX9_within_58 ?_
          refine j_get C hO (ci := 6) (k := 1) (v := vI (r10.2 (jpt l0 5) 1)) (tp_9_5 h0) rfl inlX6 (by decide) kF_15_8 rfl rfl dX9_within_61 ?_
          refine j_i2l C dX9_within_64 ?_
          refine lv_iload_n C.1 C.2.1 dX9_within_65 rfl (lv_at hl 2 rfl) ?_
          obtain ⟨r11, hr11, hf⟩ := bnd_e hf
          refine j_callS C hO (n := 2) (As := [vL (w32 (r10.2 (jpt l0 5) 1)), vI l2]) (st1 := [vL r11, vL r10.1]) (c_X9_power l G r10.2 (w32 (r10.2 (jpt l0 5) 1)) l2  hr11) kC_35_23 kM_35_21 kT_35_22 kN_1_2 ⟨by decide, by decide, by decide⟩ ⟨Nat.le_trans (by decide) hRf, Nat.le_trans (by decide) hRl⟩ rfl rfl rfl hl.1 rfl (Nat.le_of_ble_eq_true rfl) ⟨Nat.zero_le _, Nat.zero_le _⟩ dX9_within_66 rfl (fun H locs hO => ?_)
          refine lv_iload_n C.1 C.2.1 dX9_within_69 rfl (lv_at hl 3 rfl) ?_
          obtain ⟨r12, hr12, hf⟩ := bnd_e hf
          refine j_callS C hO (n := 3) (As := [vL r10.1, vL r11, vI l3]) (st1 := [vL r12]) (c_X9_fraction l G r10.2 r10.1 r11 l3  hr12) kC_22_12 kM_22_10 kT_22_11 kN_1_2 ⟨by decide, by decide, by decide⟩ ⟨Nat.le_trans (by decide) hRf, Nat.le_trans (by decide) hRl⟩ rfl rfl rfl hl.1 rfl (Nat.le_of_ble_eq_true rfl) ⟨Nat.zero_le _, Nat.zero_le _⟩ dX9_within_70 rfl (fun H locs hO => ?_)
          have hf := som_e hf
          subst hf
          exact j_lret C hO dX9_within_73
        · have hf := (if_pos c8).symm.trans hf
          refine j_ldc2 (x := (-9223372036854775808)) C kL_21_3 (by decide) dX9_within_29 ?_
          have hf := som_e hf
          subst hf
          exact j_lret C hO dX9_within_32
set_option maxHeartbeats 1000000 in
theorem c_X9_within (l : Launch) (G : jG)  (M : jM) (l0 l1 l2 l3 : Int) (h0 : jkd l0 = (9, 0)) {fin : Int × jM} (h : f_X9_within M l0 l1 l2 l3 = some fin) : Met l yX9_within (Cond.code yX9_within cX9_within 4 (some .long) :: wsL_law) ({ frames := 4, cells := 0, slots := 0, locals := 89 } : Room) (va_Pc [jR G l0, vI l1, vI l2, vI l3] (fun U => jRep G M U)) (jQ G (some (vL fin.1)) fin.2) 0 0 (jA G) := by
  refine Met.ofW (cc := cX9_within) (maxL := 4) (ret := (some .long)) (by decide) rfl ?_
  intro p e s m args below meth c s₁ B hml hv
  obtain ⟨rfl, hR0⟩ := hv
  have C : jCx p s m ([jR G l0, vI l1, vI l2, vI l3] : List Value).toArray meth c cX9_within 4 RX9 (Cond.code yX9_within cX9_within 4 (some .long)) (some .long) := ⟨B.exec, B.bytes, hml, findClass_of_methodNamed B.named, atoms_spec B.pre, B.returns, B.notSynchronized⟩
  have hO := hR0.ok
  have hl := lv_entry ([jR G l0, vI l1, vI l2, vI l3]) (n := 4) (Nat.le_of_ble_eq_true rfl)
  rw [lg_entry_eq]
  generalize (lg_sl ([jR G l0, vI l1, vI l2, vI l3]) ++ List.replicate (4 - (lg_sl ([jR G l0, vI l1, vI l2, vI l3])).length) Slot.unset).toArray = ls at hl ⊢
  have hl : lv_has ls 4 [(0, jR G l0), (1, vI l1), (2, vI l2), (3, vI l3)] := hl
  exact w_X9_within C (Nat.le_refl _) (Nat.le_refl _) M l0 l1 l2 l3 h0 h hO hl
set_option maxHeartbeats 4000000 in
theorem w_X9_often {p : Program} {l : Launch} {e : Env} {R : Room} {s : State} {m : MethodId} {args : Array Value} {below : List Frame} {meth : Method} {c : Code} {H : Heap} {locs : List Loc} {ls : Array Slot} {G : jG}  (C : jCx p s m args meth c cX9_often 7 RX9 (Cond.code yX9_often cX9_often 7 (some .long)) (some .long)) (hRf : 4 ≤ R.frames) (hRl : 89 ≤ R.locals)  (M : jM) (l0 l1 l2 l3 : Int) (h0 : jkd l0 = (9, 0)) {fin : Int × jM} (hf : f_X9_often M l0 l1 l2 l3 = some fin) (hO : jOk G M s H locs) (hl : lv_has ls 7 [(0, jR G l0), (1, vI l1), (2, vI l2), (3, vI l3)]) : W p l e R s m args below meth c H locs 0 0 (MQ below (jQ G (some (vL fin.1)) fin.2) args s 0 0 (jA G)) (F0 m 0 ls []) := by
  unfold f_X9_often at hf
  refine lv_aload_n C.1 C.2.1 dX9_often_0 rfl (lv_at hl 0 rfl) ?_
  obtain ⟨r1, hr1, hf⟩ := bnd_e hf
  refine j_callV C hO (n := 0) (As := []) (st1 := []) (c_X9_weigh l G M l0 h0 hr1) h0 rfl kC_15_12 kM_15_9 kI_15_10 kS_15_11 kN_1_2 ⟨by decide, by decide, by decide⟩ ⟨Nat.le_trans (by decide) hRf, Nat.le_trans (by decide) hRl⟩ rfl rfl rfl hl.1 rfl (Nat.le_of_ble_eq_true rfl) ⟨Nat.zero_le _, Nat.zero_le _⟩ dX9_often_1 rfl (fun H locs hO => ?_)
  refine lv_aload_n C.1 C.2.1 dX9_often_4 rfl (lv_at hl 0 rfl) ?_
  refine lv_iload_n C.1 C.2.1 dX9_often_5 rfl (lv_at hl 1 rfl) ?_
  obtain ⟨r2, hr2, hf⟩ := bnd_e hf
  obtain ⟨g3, hf⟩ := grd_e hf
  refine j_callV C hO (n := 1) (As := [vI l1]) (st1 := [jN G r2]) (c_X9_lawfulRow l G r1 l0 l1 h0 hr2) h0 rfl kC_21_7 kM_21_4 kI_21_5 kS_21_6 kN_1_2 ⟨by decide, by decide, by decide⟩ ⟨Nat.le_trans (by decide) hRf, Nat.le_trans (by decide) hRl⟩ rfl rfl rfl hl.1 rfl (Nat.le_of_ble_eq_true rfl) ⟨Nat.zero_le _, Nat.zero_le _⟩ dX9_often_6 rfl (fun H locs hO => ?_)
  refine j_astoreN (i := 4) (lv' := [(0, jR G l0), (1, vI l1), (2, vI l2), (3, vI l3)]) C dX9_often_9 hl (by decide) (fun _ _ => rfl) (fun ls hl => ?_)
  refine j_aloadN C dX9_often_11 (lv_at hl 0 rfl) ?_
  refine j_ifnull (tgt := 33) C dX9_often_13 (by decide) (fun c4 => ?_) (fun c4 => ?_)
  · have hf := (if_pos c4).symm.trans hf
    refine j_ldc2 (x := (-9223372036854775808)) C kL_21_3 (by decide) dX9_often_33 ?_
    have hf := som_e hf
    subst hf
    exact j_lret C hO dX9_often_36
  · have hf := (if_neg c4).symm.trans hf
    rw [jN_p (Int.not_lt.mp c4)] at hl
    refine lv_iload_n C.1 C.2.1 dX9_often_16 rfl (lv_at hl 3 rfl) ?_
    refine j_if_lt (tgt := 33) C rfl dX9_often_17 (by decide) (fun c5 => ?_) (fun c5 => ?_)
    · have hf := (if_pos c5).symm.trans hf
      refine j_ldc2 (x := (-9223372036854775808)) C kL_21_3 (by decide) dX9_often_33 ?_
      have hf := som_e hf
      subst hf
      exact j_lret C hO dX9_often_36
    · have hf := (if_neg c5).symm.trans hf
      refine lv_iload_n C.1 C.2.1 dX9_often_20 rfl (lv_at hl 3 rfl) ?_
      refine lv_bipush (v := Int32.ofInt 60) C.1 C.2.1 dX9_often_21 (by decide) ?_
      refine j_icmp_gt (tgt := 33) C rfl (w32_id (by decide) (by decide)) dX9_often_23 (by decide) (fun c6 => ?_) (fun c6 => ?_)
      · have hf := (if_pos c6).symm.trans hf
        refine j_ldc2 (x := (-9223372036854775808)) C kL_21_3 (by decide) dX9_often_33 ?_
        have hf := som_e hf
        subst hf
        exact j_lret C hO dX9_often_36
      · have hf := (if_neg c6).symm.trans hf
        refine lv_iload_n C.1 C.2.1 dX9_often_26 rfl (lv_at hl 4 rfl) ?_
        obtain ⟨r7, hr7, hf⟩ := bnd_e hf
        refine j_callS C hO (n := 1) (As := [vI l3]) (st1 := [vI r7]) (c_X9_isPart l G r1 l3  hr7) kC_21_16 kM_21_14 kT_21_15 kN_1_2 ⟨by decide, by decide, by decide⟩ ⟨Nat.le_trans (by decide) hRf, Nat.le_trans (by decide) hRl⟩ rfl rfl rfl hl.1 rfl (Nat.le_of_ble_eq_true rfl) ⟨Nat.zero_le _, Nat.zero_le _⟩ dX9_often_27 rfl (fun H locs hO => ?_)
        refine j_if_ne (tgt := 37) C rfl dX9_often_30 (by decide) (fun c8 => ?_) (fun c8 => ?_)
        · have hf := (if_neg c8).symm.trans hf
          refine lv_iconst (v := Int32.ofInt 0) C.1 C.2.1 dX9_often_37 rfl ?_
          refine lv_iload_n C.1 C.2.1 dX9_often_38 rfl (lv_at hl 3 rfl) ?_
          refine lv_aload C.1 C.2.1 dX9_often_39 (lv_at hl 0 rfl) ?_
          refine j_get C hO (ci := 3) (k := 0) (v := vI (r1 r2 0)) (g3.resolve_left c4) rfl inlX3 (by decide) kF_17_10 rfl rfl dX9_often_41 ?_
          refine j_isub C dX9_often_44 ?_
          refine lv_iconst (v := Int32.ofInt 1) C.1 C.2.1 dX9_often_45 rfl ?_
          refine j_iadd C dX9_often_46 ?_
          refine j_mmax C kM_37_7 kT_37_8 kN_7_16 kC_37_9 hl.1 (Nat.le_trans (by decide) hRf) (Nat.le_trans (by decide) hRl) ⟨Nat.zero_le _, Nat.zero_le _⟩ (Nat.le_of_ble_eq_true rfl) dX9_often_47 ?_
          refine j_i2l C dX9_often_50 ?_
          refine lv_lstore (lv' := [(5, vL (w32 (max (w32 0) (w32 ((l2 - (r1 r2 0)) + 1))))), (4, jR G r2), (0, jR G l0), (1, vI l1), (2, vI l2), (3, vI l3)]) C.1 C.2.1 dX9_often_51 hl (by decide) rfl (fun ls hl => ?_)
          refine lv_lload C.1 C.2.1 dX9_often_53 (lv_at hl 0 rfl) ?_
          refine lv_aload_n C.1 C.2.1 dX9_often_55 rfl (lv_at hl 2 rfl) ?_
          refine j_get C hO (ci := 9) (k := 5) (v := jR G (jpt l0 5)) h0 rfl inlX9 (by decide) kF_2_5 rfl rfl dX9_often_56 ?_
          refine lv_aload C.1 C.2.1 dX9_often_59 (lv_at hl 1 rfl) ?_
          obtain ⟨r9, hr9, hf⟩ := bnd_e hf
          refine j_callV C hO (n := 1) (As := [jR G r2]) (st1 := [vL r9, vL (w32 (max (w32 0) (w32 ((l2 - (r1 r2 0)) + 1))))]) (c_X6_product l G r1 (jpt l0 5) r2 (tp_9_5 h0) (g3.resolve_left c4) hr9) (tp_9_5 h0) rfl kC_22_9 kM_22_6 kI_22_7 kS_22_8 kN_2_4 ⟨by decide, by decide, by decide⟩ ⟨Nat.le_trans (by decide) hRf, Nat.le_trans (by decide) hRl⟩ rfl rfl rfl hl.1 rfl (Nat.le_of_ble_eq_true rfl) ⟨Nat.zero_le _, Nat.zero_le _⟩ dX9_often_61 rfl (fun H locs hO => ?_)
          refine j_lmul C dX9_often_64 ?_
          refine lv_aload_n C.1 C.2.1 dX9_often_65 rfl (lv_at hl 2 rfl) ?_
          refine j_get C hO (ci := 9) (k := 5) (v := jR G (jpt l0 5)) h0 rfl inlX9 (by decide) kF_2_5 rfl rfl dX9_often_66 ?_
          refine j_get C hO (ci := 6) (k := 1) (v := vI (r1 (jpt l0 5) 1)) (tp_9_5 h0) rfl inlX6 (by decide) kF_15_8 rfl rfl dX9_often_69 ?_
          refine j_i2l C dX9_often_72 ?_
          refine lv_aload C.1 C.2.1 dX9_often_73 (lv_at hl 1 rfl) ?_
          refine j_get C hO (ci := 3) (k := 0) (v := vI (r1 r2 0)) (g3.resolve_left c4) rfl inlX3 (by decide) kF_17_10 rfl rfl dX9_often_75 ?_
          obtain ⟨r10, hr10, hf⟩ := bnd_e hf
          refine j_callS C hO (n := 2) (As := [vL (w32 (r1 (jpt l0 5) 1)), vI (r1 r2 0)]) (st1 := [vL r10, vL ((w32 (max (w32 0) (w32 ((l2 - (r1 r2 0)) + 1)))) * r9)]) (c_X9_power l G r1 (w32 (r1 (jpt l0 5) 1)) (r1 r2 0)  hr10) kC_35_23 kM_35_21 kT_35_22 kN_1_2 ⟨by decide, by decide, by decide⟩ ⟨Nat.le_trans (by decide) hRf, Nat.le_trans (by decide) hRl⟩ rfl rfl rfl hl.1 rfl (Nat.le_of_ble_eq_true rfl) ⟨Nat.zero_le _, Nat.zero_le _⟩ dX9_often_78 rfl (fun H locs hO => ?_)
          refine lv_iload_n C.1 C.2.1 dX9_often_81 rfl (lv_at hl 5 rfl) ?_
          obtain ⟨r11, hr11, hf⟩ := bnd_e hf
          refine j_callS C hO (n := 3) (As := [vL ((w32 (max (w32 0) (w32 ((l2 - (r1 r2 0)) + 1)))) * r9), vL r10, vI l3]) (st1 := [vL r11]) (c_X9_fraction l G r1 ((w32 (max (w32 0) (w32 ((l2 - (r1 r2 0)) + 1)))) * r9) r10 l3  hr11) kC_22_12 kM_22_10 kT_22_11 kN_1_2 ⟨by decide, by decide, by decide⟩ ⟨Nat.le_trans (by decide) hRf, Nat.le_trans (by decide) hRl⟩ rfl rfl rfl hl.1 rfl (Nat.le_of_ble_eq_true rfl) ⟨Nat.zero_le _, Nat.zero_le _⟩ dX9_often_82 rfl (fun H locs hO => ?_)
          have hf := som_e hf
          subst hf
          exact j_lret C hO dX9_often_85
        · have hf := (if_pos c8).symm.trans hf
          refine j_ldc2 (x := (-9223372036854775808)) C kL_21_3 (by decide) dX9_often_33 ?_
          have hf := som_e hf
          subst hf
          exact j_lret C hO dX9_often_36
set_option maxHeartbeats 1000000 in
theorem c_X9_often (l : Launch) (G : jG)  (M : jM) (l0 l1 l2 l3 : Int) (h0 : jkd l0 = (9, 0)) {fin : Int × jM} (h : f_X9_often M l0 l1 l2 l3 = some fin) : Met l yX9_often (Cond.code yX9_often cX9_often 7 (some .long) :: wsL_law) ({ frames := 4, cells := 0, slots := 0, locals := 89 } : Room) (va_Pc [jR G l0, vI l1, vI l2, vI l3] (fun U => jRep G M U)) (jQ G (some (vL fin.1)) fin.2) 0 0 (jA G) := by
  refine Met.ofW (cc := cX9_often) (maxL := 7) (ret := (some .long)) (by decide) rfl ?_
  intro p e s m args below meth c s₁ B hml hv
  obtain ⟨rfl, hR0⟩ := hv
  have C : jCx p s m ([jR G l0, vI l1, vI l2, vI l3] : List Value).toArray meth c cX9_often 7 RX9 (Cond.code yX9_often cX9_often 7 (some .long)) (some .long) := ⟨B.exec, B.bytes, hml, findClass_of_methodNamed B.named, atoms_spec B.pre, B.returns, B.notSynchronized⟩
  have hO := hR0.ok
  have hl := lv_entry ([jR G l0, vI l1, vI l2, vI l3]) (n := 7) (Nat.le_of_ble_eq_true rfl)
  rw [lg_entry_eq]
  generalize (lg_sl ([jR G l0, vI l1, vI l2, vI l3]) ++ List.replicate (7 - (lg_sl ([jR G l0, vI l1, vI l2, vI l3])).length) Slot.unset).toArray = ls at hl ⊢
  have hl : lv_has ls 7 [(0, jR G l0), (1, vI l1), (2, vI l2), (3, vI l3)] := hl
  exact w_X9_often C (Nat.le_refl _) (Nat.le_refl _) M l0 l1 l2 l3 h0 h hO hl
set_option maxHeartbeats 4000000 in
theorem w_X9_free {p : Program} {l : Launch} {e : Env} {R : Room} {s : State} {m : MethodId} {args : Array Value} {below : List Frame} {meth : Method} {c : Code} {H : Heap} {locs : List Loc} {ls : Array Slot} {G : jG}  (C : jCx p s m args meth c cX9_free 2 RX9 (Cond.code yX9_free cX9_free 2 (some .long)) (some .long)) (hRf : 4 ≤ R.frames) (hRl : 89 ≤ R.locals)  (M : jM) (l0 l1 : Int) (h0 : jkd l0 = (9, 0)) {fin : Int × jM} (hf : f_X9_free M l0 l1 = some fin) (hO : jOk G M s H locs) (hl : lv_has ls 2 [(0, jR G l0), (1, vI l1)]) : W p l e R s m args below meth c H locs 0 0 (MQ below (jQ G (some (vL fin.1)) fin.2) args s 0 0 (jA G)) (F0 m 0 ls []) := by
  unfold f_X9_free at hf
  refine lv_iload_n C.1 C.2.1 dX9_free_0 rfl (lv_at hl 1 rfl) ?_
  refine j_if_lt (tgt := 10) C rfl dX9_free_1 (by decide) (fun c1 => ?_) (fun c1 => ?_)
  · have hf := (if_pos c1).symm.trans hf
    refine j_ldc2 (x := (-9223372036854775808)) C kL_21_3 (by decide) dX9_free_10 ?_
    have hf := som_e hf
    subst hf
    exact j_lret C hO dX9_free_13
  · have hf := (if_neg c1).symm.trans hf
    refine lv_iload_n C.1 C.2.1 dX9_free_4 rfl (lv_at hl 1 rfl) ?_
    refine lv_bipush (v := Int32.ofInt 30) C.1 C.2.1 dX9_free_5 (by decide) ?_
    refine j_icmp_le (tgt := 14) C rfl (w32_id (by decide) (by decide)) dX9_free_7 (by decide) (fun c2 => ?_) (fun c2 => ?_)
    · have hf := (if_pos c2).symm.trans hf
      refine lv_aload_n C.1 C.2.1 dX9_free_14 rfl (lv_at hl 0 rfl) ?_
      obtain ⟨r3, hr3, hf⟩ := bnd_e hf
      refine j_callV C hO (n := 0) (As := []) (st1 := []) (c_X9_weigh l G M l0 h0 hr3) h0 rfl kC_15_12 kM_15_9 kI_15_10 kS_15_11 kN_1_2 ⟨by decide, by decide, by decide⟩ ⟨Nat.le_trans (by decide) hRf, Nat.le_trans (by decide) hRl⟩ rfl rfl rfl hl.1 rfl (Nat.le_of_ble_eq_true rfl) ⟨Nat.zero_le _, Nat.zero_le _⟩ dX9_free_15 rfl (fun H locs hO => ?_)
      refine lv_aload_n C.1 C.2.1 dX9_free_18 rfl (lv_at hl 0 rfl) ?_
      refine j_get C hO (ci := 9) (k := 8) (v := jR G (jpt l0 8)) h0 rfl inlX9 (by decide) kF_2_17 rfl rfl dX9_free_19 ?_
      refine lv_aload_n C.1 C.2.1 dX9_free_22 rfl (lv_at hl 0 rfl) ?_
      refine j_get C hO (ci := 9) (k := 0) (v := jR G (jpt l0 0)) h0 rfl inlX9 (by decide) kF_1_15 rfl rfl dX9_free_23 ?_
      refine lv_aload_n C.1 C.2.1 dX9_free_26 rfl (lv_at hl 0 rfl) ?_
      refine j_get C hO (ci := 9) (k := 5) (v := jR G (jpt l0 5)) h0 rfl inlX9 (by decide) kF_2_5 rfl rfl dX9_free_27 ?_
      obtain ⟨r4, hr4, hf⟩ := bnd_e hf
      refine j_callV C hO (n := 2) (As := [jR G (jpt l0 0), jR G (jpt l0 5)]) (st1 := []) (c_X4_build l G r3 (jpt l0 8) (jpt l0 0) (jpt l0 5) (tp_9_8 h0) (tp_9_0 h0) (tp_9_5 h0) hr4) (tp_9_8 h0) rfl kC_34_8 kM_34_5 kI_34_6 kS_34_7 kN_2_16 ⟨by decide, by decide, by decide⟩ ⟨Nat.le_trans (by decide) hRf, Nat.le_trans (by decide) hRl⟩ rfl rfl rfl hl.1 rfl (Nat.le_of_ble_eq_true rfl) ⟨Nat.zero_le _, Nat.zero_le _⟩ dX9_free_30 rfl (fun H locs hO => ?_)
      refine lv_aload_n C.1 C.2.1 dX9_free_33 rfl (lv_at hl 0 rfl) ?_
      refine j_get C hO (ci := 9) (k := 8) (v := jR G (jpt l0 8)) h0 rfl inlX9 (by decide) kF_2_17 rfl rfl dX9_free_34 ?_
      refine lv_iload_n C.1 C.2.1 dX9_free_37 rfl (lv_at hl 1 rfl) ?_
      obtain ⟨r5, hr5, hf⟩ := bnd_e hf
      refine j_callV C hO (n := 1) (As := [vI l1]) (st1 := [vL r5.1]) (c_X4_rowsWithNone l G r4 (jpt l0 8) l1 (tp_9_8 h0) hr5) (tp_9_8 h0) rfl kC_37_21 kM_37_18 kI_37_19 kS_37_20 kN_2_16 ⟨by decide, by decide, by decide⟩ ⟨Nat.le_trans (by decide) hRf, Nat.le_trans (by decide) hRl⟩ rfl rfl rfl hl.1 rfl (Nat.le_of_ble_eq_true rfl) ⟨Nat.zero_le _, Nat.zero_le _⟩ dX9_free_38 rfl (fun H locs hO => ?_)
      have hf := som_e hf
      subst hf
      exact j_lret C hO dX9_free_41
    · have hf := (if_neg c2).symm.trans hf
      refine j_ldc2 (x := (-9223372036854775808)) C kL_21_3 (by decide) dX9_free_10 ?_
      have hf := som_e hf
      subst hf
      exact j_lret C hO dX9_free_13
set_option maxHeartbeats 1000000 in
theorem c_X9_free (l : Launch) (G : jG)  (M : jM) (l0 l1 : Int) (h0 : jkd l0 = (9, 0)) {fin : Int × jM} (h : f_X9_free M l0 l1 = some fin) : Met l yX9_free (Cond.code yX9_free cX9_free 2 (some .long) :: wsL_law) ({ frames := 4, cells := 0, slots := 0, locals := 89 } : Room) (va_Pc [jR G l0, vI l1] (fun U => jRep G M U)) (jQ G (some (vL fin.1)) fin.2) 0 0 (jA G) := by
  refine Met.ofW (cc := cX9_free) (maxL := 2) (ret := (some .long)) (by decide) rfl ?_
  intro p e s m args below meth c s₁ B hml hv
  obtain ⟨rfl, hR0⟩ := hv
  have C : jCx p s m ([jR G l0, vI l1] : List Value).toArray meth c cX9_free 2 RX9 (Cond.code yX9_free cX9_free 2 (some .long)) (some .long) := ⟨B.exec, B.bytes, hml, findClass_of_methodNamed B.named, atoms_spec B.pre, B.returns, B.notSynchronized⟩
  have hO := hR0.ok
  have hl := lv_entry ([jR G l0, vI l1]) (n := 2) (Nat.le_of_ble_eq_true rfl)
  rw [lg_entry_eq]
  generalize (lg_sl ([jR G l0, vI l1]) ++ List.replicate (2 - (lg_sl ([jR G l0, vI l1])).length) Slot.unset).toArray = ls at hl ⊢
  have hl : lv_has ls 2 [(0, jR G l0), (1, vI l1)] := hl
  exact w_X9_free C (Nat.le_refl _) (Nat.le_refl _) M l0 l1 h0 h hO hl
set_option maxHeartbeats 4000000 in
theorem w_X9_toss {p : Program} {l : Launch} {e : Env} {R : Room} {s : State} {m : MethodId} {args : Array Value} {below : List Frame} {meth : Method} {c : Code} {H : Heap} {locs : List Loc} {ls : Array Slot} {G : jG}  (C : jCx p s m args meth c cX9_toss 2 RX9 (Cond.code yX9_toss cX9_toss 2 (some .int)) (some .int)) (hRf : 2 ≤ R.frames) (hRl : 43 ≤ R.locals)  (M : jM) (l0 l1 : Int) (h0 : jkd l0 = (9, 0)) {fin : Int × jM} (hf : f_X9_toss M l0 l1 = some fin) (hO : jOk G M s H locs) (hl : lv_has ls 2 [(0, jR G l0), (1, vI l1)]) : W p l e R s m args below meth c H locs 0 0 (MQ below (jQ G (some (vI fin.1)) fin.2) args s 0 0 (jA G)) (F0 m 0 ls []) := by
  unfold f_X9_toss at hf
  refine lv_iload_n C.1 C.2.1 dX9_toss_0 rfl (lv_at hl 1 rfl) ?_
  refine lv_iconst (v := Int32.ofInt (-1)) C.1 C.2.1 dX9_toss_1 rfl ?_
  refine j_icmp_lt (tgt := 10) C rfl (w32_id (by decide) (by decide)) dX9_toss_2 (by decide) (fun c1 => ?_) (fun c1 => ?_)
  · have hf := (if_pos c1).symm.trans hf
    refine lv_bipush (v := Int32.ofInt (-2)) C.1 C.2.1 dX9_toss_10 (by decide) ?_
    have hf := som_e hf
    subst hf
    exact j_iret C hO dX9_toss_12
  · have hf := (if_neg c1).symm.trans hf
    refine lv_iload_n C.1 C.2.1 dX9_toss_5 rfl (lv_at hl 1 rfl) ?_
    refine lv_iconst (v := Int32.ofInt 3) C.1 C.2.1 dX9_toss_6 rfl ?_
    refine j_icmp_lt (tgt := 13) C rfl (w32_id (by decide) (by decide)) dX9_toss_7 (by decide) (fun c2 => ?_) (fun c2 => ?_)
    · have hf := (if_pos c2).symm.trans hf
      refine lv_aload_n C.1 C.2.1 dX9_toss_13 rfl (lv_at hl 0 rfl) ?_
      refine j_get C hO (ci := 9) (k := 0) (v := jR G (jpt l0 0)) h0 rfl inlX9 (by decide) kF_1_15 rfl rfl dX9_toss_14 ?_
      refine j_get C hO (ci := 8) (k := 12) (v := jR G (jpt (jpt l0 0) 12)) (tp_9_0 h0) rfl inlX8 (by decide) kF_27_2 rfl rfl dX9_toss_17 ?_
      refine lv_iload_n C.1 C.2.1 dX9_toss_20 rfl (lv_at hl 1 rfl) ?_
      refine lv_bipush (v := Int32.ofInt 24) C.1 C.2.1 dX9_toss_21 (by decide) ?_
      obtain ⟨r3, hr3, hf⟩ := bnd_e hf
      refine j_callS C hO (n := 3) (As := [jR G (jpt (jpt l0 0) 12), vI l1, vI 24]) (st1 := [vI r3.1]) (c_X9_lengthen l G M (jpt (jpt l0 0) 12) l1 24 (tp_8_12 (tp_9_0 h0)) hr3) kC_17_9 kM_17_7 kT_17_8 kN_1_2 ⟨by decide, by decide, by decide⟩ ⟨Nat.le_trans (by decide) hRf, Nat.le_trans (by decide) hRl⟩ rfl rfl rfl hl.1 rfl (Nat.le_of_ble_eq_true rfl) ⟨Nat.zero_le _, Nat.zero_le _⟩ dX9_toss_23 rfl (fun H locs hO => ?_)
      have hf := som_e hf
      subst hf
      exact j_iret C hO dX9_toss_26
    · have hf := (if_neg c2).symm.trans hf
      refine lv_bipush (v := Int32.ofInt (-2)) C.1 C.2.1 dX9_toss_10 (by decide) ?_
      have hf := som_e hf
      subst hf
      exact j_iret C hO dX9_toss_12
set_option maxHeartbeats 1000000 in
theorem c_X9_toss (l : Launch) (G : jG)  (M : jM) (l0 l1 : Int) (h0 : jkd l0 = (9, 0)) {fin : Int × jM} (h : f_X9_toss M l0 l1 = some fin) : Met l yX9_toss (Cond.code yX9_toss cX9_toss 2 (some .int) :: wsL_law) ({ frames := 2, cells := 0, slots := 0, locals := 43 } : Room) (va_Pc [jR G l0, vI l1] (fun U => jRep G M U)) (jQ G (some (vI fin.1)) fin.2) 0 0 (jA G) := by
  refine Met.ofW (cc := cX9_toss) (maxL := 2) (ret := (some .int)) (by decide) rfl ?_
  intro p e s m args below meth c s₁ B hml hv
  obtain ⟨rfl, hR0⟩ := hv
  have C : jCx p s m ([jR G l0, vI l1] : List Value).toArray meth c cX9_toss 2 RX9 (Cond.code yX9_toss cX9_toss 2 (some .int)) (some .int) := ⟨B.exec, B.bytes, hml, findClass_of_methodNamed B.named, atoms_spec B.pre, B.returns, B.notSynchronized⟩
  have hO := hR0.ok
  have hl := lv_entry ([jR G l0, vI l1]) (n := 2) (Nat.le_of_ble_eq_true rfl)
  rw [lg_entry_eq]
  generalize (lg_sl ([jR G l0, vI l1]) ++ List.replicate (2 - (lg_sl ([jR G l0, vI l1])).length) Slot.unset).toArray = ls at hl ⊢
  have hl : lv_has ls 2 [(0, jR G l0), (1, vI l1)] := hl
  exact w_X9_toss C (Nat.le_refl _) (Nat.le_refl _) M l0 l1 h0 h hO hl
set_option maxHeartbeats 4000000 in
theorem w_X9_came {p : Program} {l : Launch} {e : Env} {R : Room} {s : State} {m : MethodId} {args : Array Value} {below : List Frame} {meth : Method} {c : Code} {H : Heap} {locs : List Loc} {ls : Array Slot} {G : jG}  (C : jCx p s m args meth c cX9_came 3 RX9 (Cond.code yX9_came cX9_came 3 (some .int)) (some .int)) (hRf : 3 ≤ R.frames) (hRl : 65 ≤ R.locals)  (M : jM) (l0 l1 : Int) (h0 : jkd l0 = (9, 0)) {fin : Int} (hf : f_X9_came M l0 l1 = some fin) (hO : jOk G M s H locs) (hl : lv_has ls 3 [(0, jR G l0), (1, vI l1)]) : W p l e R s m args below meth c H locs 0 0 (MQ below (jQ G (some (vI fin)) M) args s 0 0 (jA G)) (F0 m 0 ls []) := by
  unfold f_X9_came at hf
  refine lv_aload_n C.1 C.2.1 dX9_came_0 rfl (lv_at hl 0 rfl) ?_
  refine j_get C hO (ci := 9) (k := 0) (v := jR G (jpt l0 0)) h0 rfl inlX9 (by decide) kF_1_15 rfl rfl dX9_came_1 ?_
  refine lv_iload_n C.1 C.2.1 dX9_came_4 rfl (lv_at hl 1 rfl) ?_
  obtain ⟨r1, hr1, hf⟩ := bnd_e hf
  obtain ⟨g2, hf⟩ := grd_e hf
  refine j_callV C hO (n := 1) (As := [vI l1]) (st1 := [jN G r1]) (c_X8_rowAt l G M (jpt l0 0) l1 (tp_9_0 h0) hr1) (tp_9_0 h0) rfl kC_18_22 kM_18_19 kI_18_20 kS_18_21 kN_1_14 ⟨by decide, by decide, by decide⟩ ⟨Nat.le_trans (by decide) hRf, Nat.le_trans (by decide) hRl⟩ rfl rfl rfl hl.1 rfl (Nat.le_of_ble_eq_true rfl) ⟨Nat.zero_le _, Nat.zero_le _⟩ dX9_came_5 rfl (fun H locs hO => ?_)
  refine j_astoreN_n (i := 2) (lv' := [(0, jR G l0), (1, vI l1)]) C dX9_came_8 rfl hl (by decide) (fun _ _ => rfl) (fun ls hl => ?_)
  refine j_aloadN_n C dX9_came_9 rfl (lv_at hl 0 rfl) ?_
  refine j_ifnonnull (tgt := 15) C dX9_came_10 (by decide) (fun c3 => ?_) (fun c3 => ?_)
  · have hf := (if_neg c3).symm.trans hf
    rw [jN_p (Int.not_lt.mp c3)] at hl
    refine lv_aload_n C.1 C.2.1 dX9_came_15 rfl (lv_at hl 1 rfl) ?_
    refine j_get C hO (ci := 9) (k := 0) (v := jR G (jpt l0 0)) h0 rfl inlX9 (by decide) kF_1_15 rfl rfl dX9_came_16 ?_
    refine j_get C hO (ci := 8) (k := 12) (v := jR G (jpt (jpt l0 0) 12)) (tp_9_0 h0) rfl inlX8 (by decide) kF_27_2 rfl rfl dX9_came_19 ?_
    refine lv_aload_n C.1 C.2.1 dX9_came_22 rfl (lv_at hl 0 rfl) ?_
    obtain ⟨r4, hr4, hf⟩ := bnd_e hf
    refine j_callV C hO (n := 1) (As := [jR G r1]) (st1 := [vI r4]) (c_X3_firstEndOf l G M (jpt (jpt l0 0) 12) r1 (tp_8_12 (tp_9_0 h0)) (g2.resolve_left c3) hr4) (tp_8_12 (tp_9_0 h0)) rfl kC_24_19 kM_38_14 kI_24_17 kS_24_18 kN_3_8 ⟨by decide, by decide, by decide⟩ ⟨Nat.le_trans (by decide) hRf, Nat.le_trans (by decide) hRl⟩ rfl rfl rfl hl.1 rfl (Nat.le_of_ble_eq_true rfl) ⟨Nat.zero_le _, Nat.zero_le _⟩ dX9_came_23 rfl (fun H locs hO => ?_)
    have hf := som_e hf
    subst hf
    exact j_iret C hO dX9_came_26
  · have hf := (if_pos c3).symm.trans hf
    refine lv_iconst (v := Int32.ofInt (-1)) C.1 C.2.1 dX9_came_13 rfl ?_
    have hf := som_e hf
    subst hf
    exact j_iret C hO dX9_came_14
set_option maxHeartbeats 1000000 in
theorem c_X9_came (l : Launch) (G : jG)  (M : jM) (l0 l1 : Int) (h0 : jkd l0 = (9, 0)) {fin : Int} (h : f_X9_came M l0 l1 = some fin) : Met l yX9_came (Cond.code yX9_came cX9_came 3 (some .int) :: wsL_law) ({ frames := 3, cells := 0, slots := 0, locals := 65 } : Room) (va_Pc [jR G l0, vI l1] (fun U => jRep G M U)) (jQ G (some (vI fin)) M) 0 0 (jA G) := by
  refine Met.ofW (cc := cX9_came) (maxL := 3) (ret := (some .int)) (by decide) rfl ?_
  intro p e s m args below meth c s₁ B hml hv
  obtain ⟨rfl, hR0⟩ := hv
  have C : jCx p s m ([jR G l0, vI l1] : List Value).toArray meth c cX9_came 3 RX9 (Cond.code yX9_came cX9_came 3 (some .int)) (some .int) := ⟨B.exec, B.bytes, hml, findClass_of_methodNamed B.named, atoms_spec B.pre, B.returns, B.notSynchronized⟩
  have hO := hR0.ok
  have hl := lv_entry ([jR G l0, vI l1]) (n := 3) (Nat.le_of_ble_eq_true rfl)
  rw [lg_entry_eq]
  generalize (lg_sl ([jR G l0, vI l1]) ++ List.replicate (3 - (lg_sl ([jR G l0, vI l1])).length) Slot.unset).toArray = ls at hl ⊢
  have hl : lv_has ls 3 [(0, jR G l0), (1, vI l1)] := hl
  exact w_X9_came C (Nat.le_refl _) (Nat.le_refl _) M l0 l1 h0 h hO hl
set_option maxHeartbeats 4000000 in
theorem w_X9_ends_54 {p : Program} {l : Launch} {e : Env} {R : Room} {s : State} {m : MethodId} {args : Array Value} {below : List Frame} {meth : Method} {c : Code} {H : Heap} {locs : List Loc} {ls : Array Slot} {G : jG}  (C : jCx p s m args meth c cX9_ends 5 RX9 (Cond.code yX9_ends cX9_ends 5 (some .int)) (some .int)) (hRf : 2 ≤ R.frames) (hRl : 43 ≤ R.locals)  (M : jM) (l0 l2 l3 l4 : Int) (h0 : jkd l0 = (9, 0)) (h2 : jkd l2 = (3, 0)) {fin : Int} {rr : (Int × Int) ⊕ Int} (hf : f_X9_ends_54 M l0 l2 l3 l4 = some rr) (kc : ∀ q : Int × Int, rr = .inl q → ∀ (H : Heap) (locs : List Loc) (ls : Array Slot), jOk G M s H locs → lv_has ls 5 [(0, jR G l0), (2, jR G l2), (3, vI q.1), (4, vI q.2)] → W p l e R s m args below meth c H locs 0 0 (MQ below (jQ G (some (vI fin)) M) args s 0 0 (jA G)) (F0 m 20 ls [])) (kx0 : ∀ q : Int, rr = .inr q → ∀ (H : Heap) (locs : List Loc) (ls : Array Slot), jOk G M s H locs → lv_has ls 5 [(3, vI q)] → W p l e R s m args below meth c H locs 0 0 (MQ below (jQ G (some (vI fin)) M) args s 0 0 (jA G)) (F0 m 60 ls [])) (hO : jOk G M s H locs) (hl : lv_has ls 5 [(0, jR G l0), (2, jR G l2), (3, vI l3), (4, vI l4)]) : W p l e R s m args below meth c H locs 0 0 (MQ below (jQ G (some (vI fin)) M) args s 0 0 (jA G)) (F0 m 54 ls []) := by
  unfold f_X9_ends_54 at hf
  refine lv_iinc (v := Int32.ofInt (l4 + 1)) (lv' := [(4, vI (l4 + 1)), (0, jR G l0), (2, jR G l2), (3, vI l3)]) C.1 C.2.1 dX9_ends_54 hl (k := 3) rfl (Int32.ofInt_add _ _).symm (by decide) rfl (fun ls hl => ?_)
  refine lv_goto (tgt := 20) C.1 C.2.1 dX9_ends_57 (by decide) ?_
  exact kc _ (som_e hf).symm _ _ _ hO (lv_sub hl [1, 2, 3, 0] rfl)
set_option maxHeartbeats 4000000 in
theorem w_X9_ends_L20 {p : Program} {l : Launch} {e : Env} {R : Room} {s : State} {m : MethodId} {args : Array Value} {below : List Frame} {meth : Method} {c : Code} {H : Heap} {locs : List Loc} {ls : Array Slot} {G : jG}  (C : jCx p s m args meth c cX9_ends 5 RX9 (Cond.code yX9_ends cX9_ends 5 (some .int)) (some .int)) (hRf : 2 ≤ R.frames) (hRl : 43 ≤ R.locals)  (M : jM) (l0 l2 : Int) (h0 : jkd l0 = (9, 0)) (h2 : jkd l2 = (3, 0)) {fin : Int} (S : Int × Int) {rr : (Int × Int) ⊕ Int} (hf : f_X9_ends_L20 M l0 l2 S = some rr) (kc : ∀ q : Int × Int, rr = .inl q → ∀ (H : Heap) (locs : List Loc) (ls : Array Slot), jOk G M s H locs → lv_has ls 5 [(0, jR G l0), (2, jR G l2), (3, vI q.1), (4, vI q.2)] → W p l e R s m args below meth c H locs 0 0 (MQ below (jQ G (some (vI fin)) M) args s 0 0 (jA G)) (F0 m 20 ls [])) (kx0 : ∀ q : Int, rr = .inr q → ∀ (H : Heap) (locs : List Loc) (ls : Array Slot), jOk G M s H locs → lv_has ls 5 [(3, vI q)] → W p l e R s m args below meth c H locs 0 0 (MQ below (jQ G (some (vI fin)) M) args s 0 0 (jA G)) (F0 m 60 ls [])) (hO : jOk G M s H locs) (hl : lv_has ls 5 [(0, jR G l0), (2, jR G l2), (3, vI S.1), (4, vI S.2)]) : W p l e R s m args below meth c H locs 0 0 (MQ below (jQ G (some (vI fin)) M) args s 0 0 (jA G)) (F0 m 20 ls []) := by
  unfold f_X9_ends_L20 at hf
  refine lv_iload C.1 C.2.1 dX9_ends_20 (lv_at hl 3 rfl) ?_
  refine lv_aload_n C.1 C.2.1 dX9_ends_22 rfl (lv_at hl 0 rfl) ?_
  refine j_get C hO (ci := 9) (k := 0) (v := jR G (jpt l0 0)) h0 rfl inlX9 (by decide) kF_1_15 rfl rfl dX9_ends_23 ?_
  refine j_get C hO (ci := 8) (k := 12) (v := jR G (jpt (jpt l0 0) 12)) (tp_9_0 h0) rfl inlX8 (by decide) kF_27_2 rfl rfl dX9_ends_26 ?_
  refine j_get C hO (ci := 3) (k := 0) (v := vI (M (jpt (jpt l0 0) 12) 0)) (tp_8_12 (tp_9_0 h0)) rfl inlX3 (by decide) kF_17_10 rfl rfl dX9_ends_29 ?_
  refine j_icmp_gt (tgt := 60) C rfl rfl dX9_ends_32 (by decide) (fun c4 => ?_) (fun c4 => ?_)
  · have hf := (if_pos c4).symm.trans hf
    exact kx0 _ (som_e hf).symm _ _ _ hO (lv_sub hl [2] rfl)
  · have hf := (if_neg c4).symm.trans hf
    refine lv_aload_n C.1 C.2.1 dX9_ends_35 rfl (lv_at hl 0 rfl) ?_
    refine j_get C hO (ci := 9) (k := 0) (v := jR G (jpt l0 0)) h0 rfl inlX9 (by decide) kF_1_15 rfl rfl dX9_ends_36 ?_
    refine j_get C hO (ci := 8) (k := 12) (v := jR G (jpt (jpt l0 0) 12)) (tp_9_0 h0) rfl inlX8 (by decide) kF_27_2 rfl rfl dX9_ends_39 ?_
    refine lv_aload_n C.1 C.2.1 dX9_ends_42 rfl (lv_at hl 1 rfl) ?_
    refine lv_iload C.1 C.2.1 dX9_ends_43 (lv_at hl 3 rfl) ?_
    obtain ⟨r5, hr5, hf⟩ := bnd_e hf
    refine j_callV C hO (n := 2) (As := [jR G l2, vI S.2]) (st1 := [vI r5]) (c_X3_endsAt l G M (jpt (jpt l0 0) 12) l2 S.2 (tp_8_12 (tp_9_0 h0)) h2 hr5) (tp_8_12 (tp_9_0 h0)) rfl kC_24_23 kM_39_3 kI_24_21 kS_24_22 kN_3_8 ⟨by decide, by decide, by decide⟩ ⟨Nat.le_trans (by decide) hRf, Nat.le_trans (by decide) hRl⟩ rfl rfl rfl hl.1 rfl (Nat.le_of_ble_eq_true rfl) ⟨Nat.zero_le _, Nat.zero_le _⟩ dX9_ends_45 rfl (fun H locs hO => ?_)
    refine j_if_eq (tgt := 54) C rfl dX9_ends_48 (by decide) (fun c6 => ?_) (fun c6 => ?_)
    · have hf := (if_pos c6).symm.trans hf
      exact w_X9_ends_54 C hRf hRl M l0 l2 S.1 S.2 h0 h2 hf kc kx0 hO (lv_sub hl [0, 1, 2, 3] rfl)
    · have hf := (if_neg c6).symm.trans hf
      refine lv_iinc (v := Int32.ofInt (S.1 + 1)) (lv' := [(3, vI (S.1 + 1)), (0, jR G l0), (2, jR G l2), (4, vI S.2)]) C.1 C.2.1 dX9_ends_51 hl (k := 2) rfl (Int32.ofInt_add _ _).symm (by decide) rfl (fun ls hl => ?_)
      exact w_X9_ends_54 C hRf hRl M l0 l2 (S.1 + 1) S.2 h0 h2 hf kc kx0 hO (lv_sub hl [1, 2, 0, 3] rfl)
set_option maxHeartbeats 4000000 in
theorem w_X9_ends {p : Program} {l : Launch} {e : Env} {R : Room} {s : State} {m : MethodId} {args : Array Value} {below : List Frame} {meth : Method} {c : Code} {H : Heap} {locs : List Loc} {ls : Array Slot} {G : jG}  (C : jCx p s m args meth c cX9_ends 5 RX9 (Cond.code yX9_ends cX9_ends 5 (some .int)) (some .int)) (hRf : 2 ≤ R.frames) (hRl : 43 ≤ R.locals)  (M : jM) (l0 l1 : Int) (h0 : jkd l0 = (9, 0)) {fin : Int} (hf : f_X9_ends M l0 l1 = some fin) (hO : jOk G M s H locs) (hl : lv_has ls 5 [(0, jR G l0), (1, vI l1)]) : W p l e R s m args below meth c H locs 0 0 (MQ below (jQ G (some (vI fin)) M) args s 0 0 (jA G)) (F0 m 0 ls []) := by
  unfold f_X9_ends at hf
  refine lv_aload_n C.1 C.2.1 dX9_ends_0 rfl (lv_at hl 0 rfl) ?_
  refine j_get C hO (ci := 9) (k := 0) (v := jR G (jpt l0 0)) h0 rfl inlX9 (by decide) kF_1_15 rfl rfl dX9_ends_1 ?_
  refine lv_iload_n C.1 C.2.1 dX9_ends_4 rfl (lv_at hl 1 rfl) ?_
  obtain ⟨r1, hr1, hf⟩ := bnd_e hf
  obtain ⟨g2, hf⟩ := grd_e hf
  refine j_callV C hO (n := 1) (As := [vI l1]) (st1 := [jN G r1]) (c_X8_rowAt l G M (jpt l0 0) l1 (tp_9_0 h0) hr1) (tp_9_0 h0) rfl kC_18_22 kM_18_19 kI_18_20 kS_18_21 kN_1_14 ⟨by decide, by decide, by decide⟩ ⟨Nat.le_trans (by decide) hRf, Nat.le_trans (by decide) hRl⟩ rfl rfl rfl hl.1 rfl (Nat.le_of_ble_eq_true rfl) ⟨Nat.zero_le _, Nat.zero_le _⟩ dX9_ends_5 rfl (fun H locs hO => ?_)
  refine j_astoreN_n (i := 2) (lv' := [(0, jR G l0), (1, vI l1)]) C dX9_ends_8 rfl hl (by decide) (fun _ _ => rfl) (fun ls hl => ?_)
  refine j_aloadN_n C dX9_ends_9 rfl (lv_at hl 0 rfl) ?_
  refine j_ifnonnull (tgt := 15) C dX9_ends_10 (by decide) (fun c3 => ?_) (fun c3 => ?_)
  · have hf := (if_neg c3).symm.trans hf
    rw [jN_p (Int.not_lt.mp c3)] at hl
    refine lv_iconst (v := Int32.ofInt 0) C.1 C.2.1 dX9_ends_15 rfl ?_
    refine lv_istore_n (lv' := [(3, vI 0), (2, jR G r1), (0, jR G l0), (1, vI l1)]) C.1 C.2.1 dX9_ends_16 rfl hl (by decide) rfl (fun ls hl => ?_)
    refine lv_iconst (v := Int32.ofInt 1) C.1 C.2.1 dX9_ends_17 rfl ?_
    refine lv_istore (lv' := [(4, vI 1), (3, vI 0), (2, jR G r1), (0, jR G l0), (1, vI l1)]) C.1 C.2.1 dX9_ends_18 hl (by decide) rfl (fun ls hl => ?_)
    obtain ⟨x7, hx7, hf⟩ := bnd_e hf
    refine iter_e (P := fun Z => ∀ (H : Heap) (locs : List Loc) (ls : Array Slot), jOk G M s H locs → lv_has ls 5 [(0, jR G l0), (2, jR G r1), (3, vI Z.1), (4, vI Z.2)] → W p l e R s m args below meth c H locs 0 0 (MQ below (jQ G (some (vI fin)) M) args s 0 0 (jA G)) (F0 m 20 ls [])) (E := fun q => ∀ (H : Heap) (locs : List Loc) (ls : Array Slot), jOk G M s H locs → lv_has ls 5 [(3, vI q)] → W p l e R s m args below meth c H locs 0 0 (MQ below (jQ G (some (vI fin)) M) args s 0 0 (jA G)) (F0 m 60 ls [])) (fun Z rr hb kc kx H locs ls hO hl => w_X9_ends_L20 C hRf hRl M l0 r1 h0 (g2.resolve_left c3) Z hb kc (fun q e => kx q e) hO hl) 5000 (0, 1) x7 hx7 ?_ _ _ _ hO (lv_sub hl [3, 2, 1, 0] rfl)
    clear hO hl
    intro H locs ls hO hl
    refine lv_iload_n C.1 C.2.1 dX9_ends_60 rfl (lv_at hl 0 rfl) ?_
    have hf := som_e hf
    subst hf
    exact j_iret C hO dX9_ends_61
  · have hf := (if_pos c3).symm.trans hf
    refine lv_iconst (v := Int32.ofInt (-1)) C.1 C.2.1 dX9_ends_13 rfl ?_
    have hf := som_e hf
    subst hf
    exact j_iret C hO dX9_ends_14
set_option maxHeartbeats 1000000 in
theorem c_X9_ends (l : Launch) (G : jG)  (M : jM) (l0 l1 : Int) (h0 : jkd l0 = (9, 0)) {fin : Int} (h : f_X9_ends M l0 l1 = some fin) : Met l yX9_ends (Cond.code yX9_ends cX9_ends 5 (some .int) :: wsL_law) ({ frames := 2, cells := 0, slots := 0, locals := 43 } : Room) (va_Pc [jR G l0, vI l1] (fun U => jRep G M U)) (jQ G (some (vI fin)) M) 0 0 (jA G) := by
  refine Met.ofW (cc := cX9_ends) (maxL := 5) (ret := (some .int)) (by decide) rfl ?_
  intro p e s m args below meth c s₁ B hml hv
  obtain ⟨rfl, hR0⟩ := hv
  have C : jCx p s m ([jR G l0, vI l1] : List Value).toArray meth c cX9_ends 5 RX9 (Cond.code yX9_ends cX9_ends 5 (some .int)) (some .int) := ⟨B.exec, B.bytes, hml, findClass_of_methodNamed B.named, atoms_spec B.pre, B.returns, B.notSynchronized⟩
  have hO := hR0.ok
  have hl := lv_entry ([jR G l0, vI l1]) (n := 5) (Nat.le_of_ble_eq_true rfl)
  rw [lg_entry_eq]
  generalize (lg_sl ([jR G l0, vI l1]) ++ List.replicate (5 - (lg_sl ([jR G l0, vI l1])).length) Slot.unset).toArray = ls at hl ⊢
  have hl : lv_has ls 5 [(0, jR G l0), (1, vI l1)] := hl
  exact w_X9_ends C (Nat.le_refl _) (Nat.le_refl _) M l0 l1 h0 h hO hl
set_option maxHeartbeats 4000000 in
theorem w_X9_ahead_L18 {p : Program} {l : Launch} {e : Env} {R : Room} {s : State} {m : MethodId} {args : Array Value} {below : List Frame} {meth : Method} {c : Code} {H : Heap} {locs : List Loc} {ls : Array Slot} {G : jG}  (C : jCx p s m args meth c cX9_ahead 3 RX9 (Cond.code yX9_ahead cX9_ahead 3 (some .int)) (some .int)) (hRf : 2 ≤ R.frames) (hRl : 43 ≤ R.locals)  (M : jM) (l0 l1 : Int) (h0 : jkd l0 = (9, 0)) {fin : Int} (S : Int) {rr : (Int) ⊕ (Unit ⊕ Int)} (hf : f_X9_ahead_L18 M l0 l1 S = some rr) (kc : ∀ q : Int, rr = .inl q → ∀ (H : Heap) (locs : List Loc) (ls : Array Slot), jOk G M s H locs → lv_has ls 3 [(0, jR G l0), (1, vI l1), (2, vI q)] → W p l e R s m args below meth c H locs 0 0 (MQ below (jQ G (some (vI fin)) M) args s 0 0 (jA G)) (F0 m 18 ls [])) (kx0 : ∀ q : Unit, rr = .inr (.inl q) → ∀ (H : Heap) (locs : List Loc) (ls : Array Slot), jOk G M s H locs → lv_has ls 3 [(0, jR G l0), (1, vI l1)] → W p l e R s m args below meth c H locs 0 0 (MQ below (jQ G (some (vI fin)) M) args s 0 0 (jA G)) (F0 m 60 ls [])) (kx1 : ∀ q : Int, rr = .inr (.inr q) → ∀ (H : Heap) (locs : List Loc) (ls : Array Slot), jOk G M s H locs → lv_has ls 3 [(2, vI q)] → W p l e R s m args below meth c H locs 0 0 (MQ below (jQ G (some (vI fin)) M) args s 0 0 (jA G)) (F0 m 52 ls [])) (hO : jOk G M s H locs) (hl : lv_has ls 3 [(0, jR G l0), (1, vI l1), (2, vI S)]) : W p l e R s m args below meth c H locs 0 0 (MQ below (jQ G (some (vI fin)) M) args s 0 0 (jA G)) (F0 m 18 ls []) := by
  unfold f_X9_ahead_L18 at hf
  refine lv_iload_n C.1 C.2.1 dX9_ahead_18 rfl (lv_at hl 2 rfl) ?_
  refine lv_aload_n C.1 C.2.1 dX9_ahead_19 rfl (lv_at hl 0 rfl) ?_
  refine j_get C hO (ci := 9) (k := 0) (v := jR G (jpt l0 0)) h0 rfl inlX9 (by decide) kF_1_15 rfl rfl dX9_ahead_20 ?_
  refine j_get C hO (ci := 8) (k := 7) (v := vI (M (jpt l0 0) 7)) (tp_9_0 h0) rfl inlX8 (by decide) kF_18_5 rfl rfl dX9_ahead_23 ?_
  refine j_icmp_ge (tgt := 60) C rfl rfl dX9_ahead_26 (by decide) (fun c2 => ?_) (fun c2 => ?_)
  · have hf := (if_pos c2).symm.trans hf
    exact kx0 _ (som_e hf).symm _ _ _ hO (lv_sub hl [0, 1] rfl)
  · have hf := (if_neg c2).symm.trans hf
    refine lv_aload_n C.1 C.2.1 dX9_ahead_29 rfl (lv_at hl 0 rfl) ?_
    refine j_get C hO (ci := 9) (k := 0) (v := jR G (jpt l0 0)) h0 rfl inlX9 (by decide) kF_1_15 rfl rfl dX9_ahead_30 ?_
    refine j_get C hO (ci := 8) (k := 12) (v := jR G (jpt (jpt l0 0) 12)) (tp_9_0 h0) rfl inlX8 (by decide) kF_27_2 rfl rfl dX9_ahead_33 ?_
    refine lv_aload_n C.1 C.2.1 dX9_ahead_36 rfl (lv_at hl 0 rfl) ?_
    refine j_get C hO (ci := 9) (k := 0) (v := jR G (jpt l0 0)) h0 rfl inlX9 (by decide) kF_1_15 rfl rfl dX9_ahead_37 ?_
    refine j_get C hO (ci := 8) (k := 6) (v := jR G (jpt (jpt l0 0) 6)) (tp_9_0 h0) rfl inlX8 (by decide) kF_18_6 rfl rfl dX9_ahead_40 ?_
    refine lv_iload_n C.1 C.2.1 dX9_ahead_43 rfl (lv_at hl 2 rfl) ?_
    obtain ⟨g3, hf⟩ := grd_e hf
    refine j_aald C hO (tp_8_6 (tp_9_0 h0)) rfl g3.1 g3.2 dX9_ahead_44 ?_
    refine lv_iload_n C.1 C.2.1 dX9_ahead_45 rfl (lv_at hl 1 rfl) ?_
    obtain ⟨r4, hr4, hf⟩ := bnd_e hf
    refine j_callV C hO (n := 2) (As := [jR G (jpt (jpt (jpt l0 0) 6) (w32 S)), vI l1]) (st1 := [vI r4]) (c_X3_endsAt l G M (jpt (jpt l0 0) 12) (jpt (jpt (jpt l0 0) 6) (w32 S)) l1 (tp_8_12 (tp_9_0 h0)) (tpo_6 (tp_8_6 (tp_9_0 h0)) g3.1 g3.2) hr4) (tp_8_12 (tp_9_0 h0)) rfl kC_24_23 kM_39_3 kI_24_21 kS_24_22 kN_3_8 ⟨by decide, by decide, by decide⟩ ⟨Nat.le_trans (by decide) hRf, Nat.le_trans (by decide) hRl⟩ rfl rfl rfl hl.1 rfl (Nat.le_of_ble_eq_true rfl) ⟨Nat.zero_le _, Nat.zero_le _⟩ dX9_ahead_46 rfl (fun H locs hO => ?_)
    refine j_if_eq (tgt := 54) C rfl dX9_ahead_49 (by decide) (fun c5 => ?_) (fun c5 => ?_)
    · have hf := (if_pos c5).symm.trans hf
      refine lv_iinc (v := Int32.ofInt (S + 1)) (lv' := [(2, vI (S + 1)), (0, jR G l0), (1, vI l1)]) C.1 C.2.1 dX9_ahead_54 hl (k := 2) rfl (Int32.ofInt_add _ _).symm (by decide) rfl (fun ls hl => ?_)
      refine lv_goto (tgt := 18) C.1 C.2.1 dX9_ahead_57 (by decide) ?_
      exact kc _ (som_e hf).symm _ _ _ hO (lv_sub hl [1, 2, 0] rfl)
    · have hf := (if_neg c5).symm.trans hf
      exact kx1 _ (som_e hf).symm _ _ _ hO (lv_sub hl [2] rfl)
set_option maxHeartbeats 4000000 in
theorem w_X9_ahead_L2 {p : Program} {l : Launch} {e : Env} {R : Room} {s : State} {m : MethodId} {args : Array Value} {below : List Frame} {meth : Method} {c : Code} {H : Heap} {locs : List Loc} {ls : Array Slot} {G : jG}  (C : jCx p s m args meth c cX9_ahead 3 RX9 (Cond.code yX9_ahead cX9_ahead 3 (some .int)) (some .int)) (hRf : 2 ≤ R.frames) (hRl : 43 ≤ R.locals)  (M : jM) (l0 : Int) (h0 : jkd l0 = (9, 0)) {fin : Int} (S : Int) {rr : (Int) ⊕ (Unit ⊕ Int)} (hf : f_X9_ahead_L2 M l0 S = some rr) (kc : ∀ q : Int, rr = .inl q → ∀ (H : Heap) (locs : List Loc) (ls : Array Slot), jOk G M s H locs → lv_has ls 3 [(0, jR G l0), (1, vI q)] → W p l e R s m args below meth c H locs 0 0 (MQ below (jQ G (some (vI fin)) M) args s 0 0 (jA G)) (F0 m 2 ls [])) (kx0 : ∀ q : Unit, rr = .inr (.inl q) → ∀ (H : Heap) (locs : List Loc) (ls : Array Slot), jOk G M s H locs → lv_has ls 3 [] → W p l e R s m args below meth c H locs 0 0 (MQ below (jQ G (some (vI fin)) M) args s 0 0 (jA G)) (F0 m 66 ls [])) (kx1 : ∀ q : Int, rr = .inr (.inr q) → ∀ (H : Heap) (locs : List Loc) (ls : Array Slot), jOk G M s H locs → lv_has ls 3 [(2, vI q)] → W p l e R s m args below meth c H locs 0 0 (MQ below (jQ G (some (vI fin)) M) args s 0 0 (jA G)) (F0 m 52 ls [])) (hO : jOk G M s H locs) (hl : lv_has ls 3 [(0, jR G l0), (1, vI S)]) : W p l e R s m args below meth c H locs 0 0 (MQ below (jQ G (some (vI fin)) M) args s 0 0 (jA G)) (F0 m 2 ls []) := by
  unfold f_X9_ahead_L2 at hf
  refine lv_iload_n C.1 C.2.1 dX9_ahead_2 rfl (lv_at hl 1 rfl) ?_
  refine lv_aload_n C.1 C.2.1 dX9_ahead_3 rfl (lv_at hl 0 rfl) ?_
  refine j_get C hO (ci := 9) (k := 0) (v := jR G (jpt l0 0)) h0 rfl inlX9 (by decide) kF_1_15 rfl rfl dX9_ahead_4 ?_
  refine j_get C hO (ci := 8) (k := 12) (v := jR G (jpt (jpt l0 0) 12)) (tp_9_0 h0) rfl inlX8 (by decide) kF_27_2 rfl rfl dX9_ahead_7 ?_
  refine j_get C hO (ci := 3) (k := 0) (v := vI (M (jpt (jpt l0 0) 12) 0)) (tp_8_12 (tp_9_0 h0)) rfl inlX3 (by decide) kF_17_10 rfl rfl dX9_ahead_10 ?_
  refine j_icmp_gt (tgt := 66) C rfl rfl dX9_ahead_13 (by decide) (fun c1 => ?_) (fun c1 => ?_)
  · have hf := (if_pos c1).symm.trans hf
    exact kx0 _ (som_e hf).symm _ _ _ hO (lv_sub hl [] rfl)
  · have hf := (if_neg c1).symm.trans hf
    refine lv_iconst (v := Int32.ofInt 0) C.1 C.2.1 dX9_ahead_16 rfl ?_
    refine lv_istore_n (lv' := [(2, vI 0), (0, jR G l0), (1, vI S)]) C.1 C.2.1 dX9_ahead_17 rfl hl (by decide) rfl (fun ls hl => ?_)
    obtain ⟨x6, hx6, hf⟩ := bnd_e hf
    refine iter_e (P := fun Z => ∀ (H : Heap) (locs : List Loc) (ls : Array Slot), jOk G M s H locs → lv_has ls 3 [(0, jR G l0), (1, vI S), (2, vI Z)] → W p l e R s m args below meth c H locs 0 0 (MQ below (jQ G (some (vI fin)) M) args s 0 0 (jA G)) (F0 m 18 ls [])) (E := fun x => (∀ q : Unit, x = (.inl q) → ∀ (H : Heap) (locs : List Loc) (ls : Array Slot), jOk G M s H locs → lv_has ls 3 [(0, jR G l0), (1, vI S)] → W p l e R s m args below meth c H locs 0 0 (MQ below (jQ G (some (vI fin)) M) args s 0 0 (jA G)) (F0 m 60 ls [])) ∧ (∀ q : Int, x = (.inr q) → ∀ (H : Heap) (locs : List Loc) (ls : Array Slot), jOk G M s H locs → lv_has ls 3 [(2, vI q)] → W p l e R s m args below meth c H locs 0 0 (MQ below (jQ G (some (vI fin)) M) args s 0 0 (jA G)) (F0 m 52 ls []))) (fun Z rr hb kc kx H locs ls hO hl => w_X9_ahead_L18 C hRf hRl M l0 S h0 Z hb kc (fun q e => (kx _ e).1 q rfl) (fun q e => (kx _ e).2 q rfl) hO hl) 5000 0 x6 hx6 ?_ _ _ _ hO (lv_sub hl [1, 2, 0] rfl)
    clear hO hl
    refine ⟨?_, ?_⟩
    · intro q7 eq7 H locs ls hO hl
      subst eq7
      have hf := sel_l hf
      refine lv_iinc (v := Int32.ofInt (S + 1)) (lv' := [(1, vI (S + 1)), (0, jR G l0)]) C.1 C.2.1 dX9_ahead_60 hl (k := 1) rfl (Int32.ofInt_add _ _).symm (by decide) rfl (fun ls hl => ?_)
      refine lv_goto (tgt := 2) C.1 C.2.1 dX9_ahead_63 (by decide) ?_
      exact kc _ (som_e hf).symm _ _ _ hO (lv_sub hl [1, 0] rfl)
    · intro q8 eq8 H locs ls hO hl
      subst eq8
      have hf := sel_r hf
      exact kx1 _ (som_e hf).symm _ _ _ hO (lv_sub hl [0] rfl)
set_option maxHeartbeats 4000000 in
theorem w_X9_ahead {p : Program} {l : Launch} {e : Env} {R : Room} {s : State} {m : MethodId} {args : Array Value} {below : List Frame} {meth : Method} {c : Code} {H : Heap} {locs : List Loc} {ls : Array Slot} {G : jG}  (C : jCx p s m args meth c cX9_ahead 3 RX9 (Cond.code yX9_ahead cX9_ahead 3 (some .int)) (some .int)) (hRf : 2 ≤ R.frames) (hRl : 43 ≤ R.locals)  (M : jM) (l0 : Int) (h0 : jkd l0 = (9, 0)) {fin : Int} (hf : f_X9_ahead M l0 = some fin) (hO : jOk G M s H locs) (hl : lv_has ls 3 [(0, jR G l0)]) : W p l e R s m args below meth c H locs 0 0 (MQ below (jQ G (some (vI fin)) M) args s 0 0 (jA G)) (F0 m 0 ls []) := by
  unfold f_X9_ahead at hf
  refine lv_iconst (v := Int32.ofInt 1) C.1 C.2.1 dX9_ahead_0 rfl ?_
  refine lv_istore_n (lv' := [(1, vI 1), (0, jR G l0)]) C.1 C.2.1 dX9_ahead_1 rfl hl (by decide) rfl (fun ls hl => ?_)
  obtain ⟨x9, hx9, hf⟩ := bnd_e hf
  refine iter_e (P := fun Z => ∀ (H : Heap) (locs : List Loc) (ls : Array Slot), jOk G M s H locs → lv_has ls 3 [(0, jR G l0), (1, vI Z)] → W p l e R s m args below meth c H locs 0 0 (MQ below (jQ G (some (vI fin)) M) args s 0 0 (jA G)) (F0 m 2 ls [])) (E := fun x => (∀ q : Unit, x = (.inl q) → ∀ (H : Heap) (locs : List Loc) (ls : Array Slot), jOk G M s H locs → lv_has ls 3 [] → W p l e R s m args below meth c H locs 0 0 (MQ below (jQ G (some (vI fin)) M) args s 0 0 (jA G)) (F0 m 66 ls [])) ∧ (∀ q : Int, x = (.inr q) → ∀ (H : Heap) (locs : List Loc) (ls : Array Slot), jOk G M s H locs → lv_has ls 3 [(2, vI q)] → W p l e R s m args below meth c H locs 0 0 (MQ below (jQ G (some (vI fin)) M) args s 0 0 (jA G)) (F0 m 52 ls []))) (fun Z rr hb kc kx H locs ls hO hl => w_X9_ahead_L2 C hRf hRl M l0 h0 Z hb kc (fun q e => (kx _ e).1 q rfl) (fun q e => (kx _ e).2 q rfl) hO hl) 5000 1 x9 hx9 ?_ _ _ _ hO (lv_sub hl [1, 0] rfl)
  clear hO hl
  refine ⟨?_, ?_⟩
  · intro q10 eq10 H locs ls hO hl
    subst eq10
    have hf := sel_l hf
    refine lv_bipush (v := Int32.ofInt (-5)) C.1 C.2.1 dX9_ahead_66 (by decide) ?_
    have hf := som_e hf
    subst hf
    exact j_iret C hO dX9_ahead_68
  · intro q11 eq11 H locs ls hO hl
    subst eq11
    have hf := sel_r hf
    refine lv_iload_n C.1 C.2.1 dX9_ahead_52 rfl (lv_at hl 0 rfl) ?_
    have hf := som_e hf
    subst hf
    exact j_iret C hO dX9_ahead_53
set_option maxHeartbeats 1000000 in
theorem c_X9_ahead (l : Launch) (G : jG)  (M : jM) (l0 : Int) (h0 : jkd l0 = (9, 0)) {fin : Int} (h : f_X9_ahead M l0 = some fin) : Met l yX9_ahead (Cond.code yX9_ahead cX9_ahead 3 (some .int) :: wsL_law) ({ frames := 2, cells := 0, slots := 0, locals := 43 } : Room) (va_Pc [jR G l0] (fun U => jRep G M U)) (jQ G (some (vI fin)) M) 0 0 (jA G) := by
  refine Met.ofW (cc := cX9_ahead) (maxL := 3) (ret := (some .int)) (by decide) rfl ?_
  intro p e s m args below meth c s₁ B hml hv
  obtain ⟨rfl, hR0⟩ := hv
  have C : jCx p s m ([jR G l0] : List Value).toArray meth c cX9_ahead 3 RX9 (Cond.code yX9_ahead cX9_ahead 3 (some .int)) (some .int) := ⟨B.exec, B.bytes, hml, findClass_of_methodNamed B.named, atoms_spec B.pre, B.returns, B.notSynchronized⟩
  have hO := hR0.ok
  have hl := lv_entry ([jR G l0]) (n := 3) (Nat.le_of_ble_eq_true rfl)
  rw [lg_entry_eq]
  generalize (lg_sl ([jR G l0]) ++ List.replicate (3 - (lg_sl ([jR G l0])).length) Slot.unset).toArray = ls at hl ⊢
  have hl : lv_has ls 3 [(0, jR G l0)] := hl
  exact w_X9_ahead C (Nat.le_refl _) (Nat.le_refl _) M l0 h0 h hO hl
set_option maxHeartbeats 4000000 in
theorem w_X9_act {p : Program} {l : Launch} {e : Env} {R : Room} {s : State} {m : MethodId} {args : Array Value} {below : List Frame} {meth : Method} {c : Code} {H : Heap} {locs : List Loc} {ls : Array Slot} {G : jG}  (C : jCx p s m args meth c cX9_act 4 RX9 (Cond.code yX9_act cX9_act 4 (some .int)) (some .int)) (hRf : 62 ≤ R.frames) (hRl : 6052 ≤ R.locals)  (M : jM) (l0 l1 l2 l3 : Int) (h0 : jkd l0 = (9, 0)) {fin : Int × jM} (hf : f_X9_act M l0 l1 l2 l3 = some fin) (hO : jOk G M s H locs) (hl : lv_has ls 4 [(0, jR G l0), (1, vI l1), (2, vI l2), (3, vI l3)]) : W p l e R s m args below meth c H locs 0 0 (MQ below (jQ G (some (vI fin.1)) fin.2) args s 0 0 (jA G)) (F0 m 0 ls []) := by
  unfold f_X9_act at hf
  refine lv_aload_n C.1 C.2.1 dX9_act_0 rfl (lv_at hl 0 rfl) ?_
  refine j_get C hO (ci := 9) (k := 9) (v := jR G (jpt l0 9)) h0 rfl inlX9 (by decide) kF_2_21 rfl rfl dX9_act_1 ?_
  obtain ⟨r1, hr1, hf⟩ := bnd_e hf
  refine j_callV C hO (n := 0) (As := []) (st1 := []) (c_X0_forget l G M (jpt l0 9) (tp_9_9 h0) hr1) (tp_9_9 h0) rfl kC_39_23 kM_39_20 kI_39_21 kS_39_22 kN_2_20 ⟨by decide, by decide, by decide⟩ ⟨Nat.le_trans (by decide) hRf, Nat.le_trans (by decide) hRl⟩ rfl rfl rfl hl.1 rfl (Nat.le_of_ble_eq_true rfl) ⟨Nat.zero_le _, Nat.zero_le _⟩ dX9_act_4 rfl (fun H locs hO => ?_)
  refine lv_aload_n C.1 C.2.1 dX9_act_7 rfl (lv_at hl 0 rfl) ?_
  refine j_get C hO (ci := 9) (k := 0) (v := jR G (jpt l0 0)) h0 rfl inlX9 (by decide) kF_1_15 rfl rfl dX9_act_8 ?_
  refine lv_iload_n C.1 C.2.1 dX9_act_11 rfl (lv_at hl 1 rfl) ?_
  obtain ⟨r2, hr2, hf⟩ := bnd_e hf
  refine j_callV C hO (n := 1) (As := [vI l1]) (st1 := [vI r2]) (c_X8_hasPlayer l G r1 (jpt l0 0) l1 (tp_9_0 h0) hr2) (tp_9_0 h0) rfl kC_20_14 kM_20_11 kI_20_12 kS_20_13 kN_1_14 ⟨by decide, by decide, by decide⟩ ⟨Nat.le_trans (by decide) hRf, Nat.le_trans (by decide) hRl⟩ rfl rfl rfl hl.1 rfl (Nat.le_of_ble_eq_true rfl) ⟨Nat.zero_le _, Nat.zero_le _⟩ dX9_act_12 rfl (fun H locs hO => ?_)
  refine j_if_eq (tgt := 27) C rfl dX9_act_15 (by decide) (fun c3 => ?_) (fun c3 => ?_)
  · have hf := (if_pos c3).symm.trans hf
    refine lv_iconst (v := Int32.ofInt 0) C.1 C.2.1 dX9_act_27 rfl ?_
    have hf := som_e hf
    subst hf
    exact j_iret C hO dX9_act_28
  · have hf := (if_neg c3).symm.trans hf
    refine lv_iload_n C.1 C.2.1 dX9_act_18 rfl (lv_at hl 2 rfl) ?_
    refine j_if_lt (tgt := 27) C rfl dX9_act_19 (by decide) (fun c4 => ?_) (fun c4 => ?_)
    · have hf := (if_pos c4).symm.trans hf
      refine lv_iconst (v := Int32.ofInt 0) C.1 C.2.1 dX9_act_27 rfl ?_
      have hf := som_e hf
      subst hf
      exact j_iret C hO dX9_act_28
    · have hf := (if_neg c4).symm.trans hf
      refine lv_iload_n C.1 C.2.1 dX9_act_22 rfl (lv_at hl 2 rfl) ?_
      refine lv_iconst (v := Int32.ofInt 3) C.1 C.2.1 dX9_act_23 rfl ?_
      refine j_icmp_lt (tgt := 29) C rfl (w32_id (by decide) (by decide)) dX9_act_24 (by decide) (fun c5 => ?_) (fun c5 => ?_)
      · have hf := (if_pos c5).symm.trans hf
        refine lv_aload_n C.1 C.2.1 dX9_act_29 rfl (lv_at hl 0 rfl) ?_
        refine j_get C hO (ci := 9) (k := 9) (v := jR G (jpt l0 9)) h0 rfl inlX9 (by decide) kF_2_21 rfl rfl dX9_act_30 ?_
        refine lv_aload_n C.1 C.2.1 dX9_act_33 rfl (lv_at hl 0 rfl) ?_
        refine j_get C hO (ci := 9) (k := 0) (v := jR G (jpt l0 0)) h0 rfl inlX9 (by decide) kF_1_15 rfl rfl dX9_act_34 ?_
        refine lv_iload_n C.1 C.2.1 dX9_act_37 rfl (lv_at hl 1 rfl) ?_
        refine lv_iload_n C.1 C.2.1 dX9_act_38 rfl (lv_at hl 2 rfl) ?_
        refine lv_iload_n C.1 C.2.1 dX9_act_39 rfl (lv_at hl 3 rfl) ?_
        obtain ⟨r6, hr6, hf⟩ := bnd_e hf
        refine j_callV C hO (n := 4) (As := [jR G (jpt l0 0), vI l1, vI l2, vI l3]) (st1 := [vI r6.1]) (c_X0_perform l G r1 (jpt l0 9) (jpt l0 0) l1 l2 l3 (tp_9_9 h0) (tp_9_0 h0) hr6) (tp_9_9 h0) rfl kC_40_4 kM_40_1 kI_40_2 kS_40_3 kN_2_20 ⟨by decide, by decide, by decide⟩ ⟨Nat.le_trans (by decide) hRf, Nat.le_trans (by decide) hRl⟩ rfl rfl rfl hl.1 rfl (Nat.le_of_ble_eq_true rfl) ⟨Nat.zero_le _, Nat.zero_le _⟩ dX9_act_40 rfl (fun H locs hO => ?_)
        have hf := som_e hf
        subst hf
        exact j_iret C hO dX9_act_43
      · have hf := (if_neg c5).symm.trans hf
        refine lv_iconst (v := Int32.ofInt 0) C.1 C.2.1 dX9_act_27 rfl ?_
        have hf := som_e hf
        subst hf
        exact j_iret C hO dX9_act_28
set_option maxHeartbeats 1000000 in
theorem c_X9_act (l : Launch) (G : jG)  (M : jM) (l0 l1 l2 l3 : Int) (h0 : jkd l0 = (9, 0)) {fin : Int × jM} (h : f_X9_act M l0 l1 l2 l3 = some fin) : Met l yX9_act (Cond.code yX9_act cX9_act 4 (some .int) :: wsL_law) ({ frames := 62, cells := 0, slots := 0, locals := 6052 } : Room) (va_Pc [jR G l0, vI l1, vI l2, vI l3] (fun U => jRep G M U)) (jQ G (some (vI fin.1)) fin.2) 0 0 (jA G) := by
  refine Met.ofW (cc := cX9_act) (maxL := 4) (ret := (some .int)) (by decide) rfl ?_
  intro p e s m args below meth c s₁ B hml hv
  obtain ⟨rfl, hR0⟩ := hv
  have C : jCx p s m ([jR G l0, vI l1, vI l2, vI l3] : List Value).toArray meth c cX9_act 4 RX9 (Cond.code yX9_act cX9_act 4 (some .int)) (some .int) := ⟨B.exec, B.bytes, hml, findClass_of_methodNamed B.named, atoms_spec B.pre, B.returns, B.notSynchronized⟩
  have hO := hR0.ok
  have hl := lv_entry ([jR G l0, vI l1, vI l2, vI l3]) (n := 4) (Nat.le_of_ble_eq_true rfl)
  rw [lg_entry_eq]
  generalize (lg_sl ([jR G l0, vI l1, vI l2, vI l3]) ++ List.replicate (4 - (lg_sl ([jR G l0, vI l1, vI l2, vI l3])).length) Slot.unset).toArray = ls at hl ⊢
  have hl : lv_has ls 4 [(0, jR G l0), (1, vI l1), (2, vI l2), (3, vI l3)] := hl
  exact w_X9_act C (Nat.le_refl _) (Nat.le_refl _) M l0 l1 l2 l3 h0 h hO hl
set_option maxHeartbeats 4000000 in
theorem w_X9_trace_21 {p : Program} {l : Launch} {e : Env} {R : Room} {s : State} {m : MethodId} {args : Array Value} {below : List Frame} {meth : Method} {c : Code} {H : Heap} {locs : List Loc} {ls : Array Slot} {G : jG}  (C : jCx p s m args meth c cX9_trace 2 RX9 (Cond.code yX9_trace cX9_trace 2 (some .int)) (some .int)) (hRf : 0 ≤ R.frames) (hRl : 0 ≤ R.locals)  (M : jM) {fin : Int} (hf : f_X9_trace_21 M  = some fin) (hO : jOk G M s H locs) (hl : lv_has ls 2 []) : W p l e R s m args below meth c H locs 0 0 (MQ below (jQ G (some (vI fin)) M) args s 0 0 (jA G)) (F0 m 21 ls []) := by
  unfold f_X9_trace_21 at hf
  refine lv_iconst (v := Int32.ofInt (-1)) C.1 C.2.1 dX9_trace_21 rfl ?_
  refine lv_goto (tgt := 34) C.1 C.2.1 dX9_trace_22 (by decide) ?_
  have hf := som_e hf
  subst hf
  exact j_iret C hO dX9_trace_34
set_option maxHeartbeats 4000000 in
theorem w_X9_trace {p : Program} {l : Launch} {e : Env} {R : Room} {s : State} {m : MethodId} {args : Array Value} {below : List Frame} {meth : Method} {c : Code} {H : Heap} {locs : List Loc} {ls : Array Slot} {G : jG}  (C : jCx p s m args meth c cX9_trace 2 RX9 (Cond.code yX9_trace cX9_trace 2 (some .int)) (some .int)) (hRf : 0 ≤ R.frames) (hRl : 0 ≤ R.locals)  (M : jM) (l0 l1 : Int) (h0 : jkd l0 = (9, 0)) {fin : Int} (hf : f_X9_trace M l0 l1 = some fin) (hO : jOk G M s H locs) (hl : lv_has ls 2 [(0, jR G l0), (1, vI l1)]) : W p l e R s m args below meth c H locs 0 0 (MQ below (jQ G (some (vI fin)) M) args s 0 0 (jA G)) (F0 m 0 ls []) := by
  unfold f_X9_trace at hf
  refine lv_iload_n C.1 C.2.1 dX9_trace_0 rfl (lv_at hl 1 rfl) ?_
  refine j_if_lt (tgt := 21) C rfl dX9_trace_1 (by decide) (fun c1 => ?_) (fun c1 => ?_)
  · have hf := (if_pos c1).symm.trans hf
    exact w_X9_trace_21 C hRf hRl M   hf hO (lv_sub hl [] rfl)
  · have hf := (if_neg c1).symm.trans hf
    refine lv_iload_n C.1 C.2.1 dX9_trace_4 rfl (lv_at hl 1 rfl) ?_
    refine lv_aload_n C.1 C.2.1 dX9_trace_5 rfl (lv_at hl 0 rfl) ?_
    refine j_get C hO (ci := 9) (k := 9) (v := jR G (jpt l0 9)) h0 rfl inlX9 (by decide) kF_2_21 rfl rfl dX9_trace_6 ?_
    refine j_get C hO (ci := 0) (k := 1) (v := vI (M (jpt l0 9) 1)) (tp_9_9 h0) rfl inlX0 (by decide) kF_42_21 rfl rfl dX9_trace_9 ?_
    refine j_icmp_ge (tgt := 21) C rfl rfl dX9_trace_12 (by decide) (fun c2 => ?_) (fun c2 => ?_)
    · have hf := (if_pos c2).symm.trans hf
      exact w_X9_trace_21 C hRf hRl M   hf hO (lv_sub hl [] rfl)
    · have hf := (if_neg c2).symm.trans hf
      refine lv_iload_n C.1 C.2.1 dX9_trace_15 rfl (lv_at hl 1 rfl) ?_
      refine lv_bipush (v := Int32.ofInt 20) C.1 C.2.1 dX9_trace_16 (by decide) ?_
      refine j_icmp_lt (tgt := 25) C rfl (w32_id (by decide) (by decide)) dX9_trace_18 (by decide) (fun c3 => ?_) (fun c3 => ?_)
      · have hf := (if_pos c3).symm.trans hf
        refine lv_aload_n C.1 C.2.1 dX9_trace_25 rfl (lv_at hl 0 rfl) ?_
        refine j_get C hO (ci := 9) (k := 9) (v := jR G (jpt l0 9)) h0 rfl inlX9 (by decide) kF_2_21 rfl rfl dX9_trace_26 ?_
        refine j_get C hO (ci := 0) (k := 0) (v := jR G (jpt (jpt l0 9) 0)) (tp_9_9 h0) rfl inlX0 (by decide) kF_42_22 rfl rfl dX9_trace_29 ?_
        refine lv_iload_n C.1 C.2.1 dX9_trace_32 rfl (lv_at hl 1 rfl) ?_
        obtain ⟨g4, hf⟩ := grd_e hf
        refine j_iald C hO (tp_0_0 (tp_9_9 h0)) rfl g4.1 g4.2 dX9_trace_33 ?_
        have hf := som_e hf
        subst hf
        exact j_iret C hO dX9_trace_34
      · have hf := (if_neg c3).symm.trans hf
        exact w_X9_trace_21 C hRf hRl M   hf hO (lv_sub hl [] rfl)
set_option maxHeartbeats 1000000 in
theorem c_X9_trace (l : Launch) (G : jG)  (M : jM) (l0 l1 : Int) (h0 : jkd l0 = (9, 0)) {fin : Int} (h : f_X9_trace M l0 l1 = some fin) : Met l yX9_trace (Cond.code yX9_trace cX9_trace 2 (some .int) :: wsL_law) ({ frames := 0, cells := 0, slots := 0, locals := 0 } : Room) (va_Pc [jR G l0, vI l1] (fun U => jRep G M U)) (jQ G (some (vI fin)) M) 0 0 (jA G) := by
  refine Met.ofW (cc := cX9_trace) (maxL := 2) (ret := (some .int)) (by decide) rfl ?_
  intro p e s m args below meth c s₁ B hml hv
  obtain ⟨rfl, hR0⟩ := hv
  have C : jCx p s m ([jR G l0, vI l1] : List Value).toArray meth c cX9_trace 2 RX9 (Cond.code yX9_trace cX9_trace 2 (some .int)) (some .int) := ⟨B.exec, B.bytes, hml, findClass_of_methodNamed B.named, atoms_spec B.pre, B.returns, B.notSynchronized⟩
  have hO := hR0.ok
  have hl := lv_entry ([jR G l0, vI l1]) (n := 2) (Nat.le_of_ble_eq_true rfl)
  rw [lg_entry_eq]
  generalize (lg_sl ([jR G l0, vI l1]) ++ List.replicate (2 - (lg_sl ([jR G l0, vI l1])).length) Slot.unset).toArray = ls at hl ⊢
  have hl : lv_has ls 2 [(0, jR G l0), (1, vI l1)] := hl
  exact w_X9_trace C (Nat.le_refl _) (Nat.le_refl _) M l0 l1 h0 h hO hl
set_option maxHeartbeats 4000000 in
theorem w_X9_as_L36 {p : Program} {l : Launch} {e : Env} {R : Room} {s : State} {m : MethodId} {args : Array Value} {below : List Frame} {meth : Method} {c : Code} {H : Heap} {locs : List Loc} {ls : Array Slot} {G : jG}  (C : jCx p s m args meth c cX9_as 5 RX9 (Cond.code yX9_as cX9_as 5 (some .int)) (some .int)) (hRf : 1 ≤ R.frames) (hRl : 21 ≤ R.locals)  (M : jM) (l0 l1 l2 : Int) (h0 : jkd l0 = (9, 0)) {fin : Int} (S : Int × Int) {rr : (Int × Int) ⊕ (Unit ⊕ Unit)} (hf : f_X9_as_L36 M l0 l1 l2 S = some rr) (kc : ∀ q : Int × Int, rr = .inl q → ∀ (H : Heap) (locs : List Loc) (ls : Array Slot), jOk G M s H locs → lv_has ls 5 [(0, jR G l0), (1, vI l1), (2, vI l2), (3, vI q.1), (4, vI q.2)] → W p l e R s m args below meth c H locs 0 0 (MQ below (jQ G (some (vI fin)) M) args s 0 0 (jA G)) (F0 m 36 ls [])) (kx0 : ∀ q : Unit, rr = .inr (.inl q) → ∀ (H : Heap) (locs : List Loc) (ls : Array Slot), jOk G M s H locs → lv_has ls 5 [] → W p l e R s m args below meth c H locs 0 0 (MQ below (jQ G (some (vI fin)) M) args s 0 0 (jA G)) (F0 m 73 ls [])) (kx1 : ∀ q : Unit, rr = .inr (.inr q) → ∀ (H : Heap) (locs : List Loc) (ls : Array Slot), jOk G M s H locs → lv_has ls 5 [(0, jR G l0), (1, vI l1)] → W p l e R s m args below meth c H locs 0 0 (MQ below (jQ G (some (vI fin)) M) args s 0 0 (jA G)) (F0 m 52 ls [])) (hO : jOk G M s H locs) (hl : lv_has ls 5 [(0, jR G l0), (1, vI l1), (2, vI l2), (3, vI S.1), (4, vI S.2)]) : W p l e R s m args below meth c H locs 0 0 (MQ below (jQ G (some (vI fin)) M) args s 0 0 (jA G)) (F0 m 36 ls []) := by
  unfold f_X9_as_L36 at hf
  refine lv_iload C.1 C.2.1 dX9_as_36 (lv_at hl 4 rfl) ?_
  refine lv_bipush (v := Int32.ofInt 7) C.1 C.2.1 dX9_as_38 (by decide) ?_
  refine j_icmp_ge (tgt := 73) C rfl (w32_id (by decide) (by decide)) dX9_as_40 (by decide) (fun c6 => ?_) (fun c6 => ?_)
  · have hf := (if_pos c6).symm.trans hf
    exact kx0 _ (som_e hf).symm _ _ _ hO (lv_sub hl [] rfl)
  · have hf := (if_neg c6).symm.trans hf
    refine lv_iload_n C.1 C.2.1 dX9_as_43 rfl (lv_at hl 3 rfl) ?_
    refine j_if_lt (tgt := 73) C rfl dX9_as_44 (by decide) (fun c7 => ?_) (fun c7 => ?_)
    · have hf := (if_pos c7).symm.trans hf
      exact kx0 _ (som_e hf).symm _ _ _ hO (lv_sub hl [] rfl)
    · have hf := (if_neg c7).symm.trans hf
      refine lv_iload_n C.1 C.2.1 dX9_as_47 rfl (lv_at hl 3 rfl) ?_
      refine lv_iload_n C.1 C.2.1 dX9_as_48 rfl (lv_at hl 2 rfl) ?_
      refine j_icmp_ne (tgt := 62) C rfl rfl dX9_as_49 (by decide) (fun c8 => ?_) (fun c8 => ?_)
      · have hf := (if_neg c8).symm.trans hf
        refine lv_iload_n C.1 C.2.1 dX9_as_62 rfl (lv_at hl 3 rfl) ?_
        obtain ⟨r9, hr9, hf⟩ := bnd_e hf
        refine j_callS C hO (n := 1) (As := [vI S.1]) (st1 := [vI r9]) (c_X9_above l G M S.1  hr9) kC_40_20 kM_43_7 kT_40_19 kN_1_2 ⟨by decide, by decide, by decide⟩ ⟨Nat.le_trans (by decide) hRf, Nat.le_trans (by decide) hRl⟩ rfl rfl rfl hl.1 rfl (Nat.le_of_ble_eq_true rfl) ⟨Nat.zero_le _, Nat.zero_le _⟩ dX9_as_63 rfl (fun H locs hO => ?_)
        refine lv_istore_n (lv' := [(3, vI r9), (0, jR G l0), (1, vI l1), (2, vI l2), (4, vI S.2)]) C.1 C.2.1 dX9_as_66 rfl hl (by decide) rfl (fun ls hl => ?_)
        refine lv_iinc (v := Int32.ofInt (S.2 + 1)) (lv' := [(4, vI (S.2 + 1)), (3, vI r9), (0, jR G l0), (1, vI l1), (2, vI l2)]) C.1 C.2.1 dX9_as_67 hl (k := 4) rfl (Int32.ofInt_add _ _).symm (by decide) rfl (fun ls hl => ?_)
        refine lv_goto (tgt := 36) C.1 C.2.1 dX9_as_70 (by decide) ?_
        exact kc _ (som_e hf).symm _ _ _ hO (lv_sub hl [2, 3, 4, 1, 0] rfl)
      · have hf := (if_pos c8).symm.trans hf
        exact kx1 _ (som_e hf).symm _ _ _ hO (lv_sub hl [0, 1] rfl)
set_option maxHeartbeats 4000000 in
theorem w_X9_as {p : Program} {l : Launch} {e : Env} {R : Room} {s : State} {m : MethodId} {args : Array Value} {below : List Frame} {meth : Method} {c : Code} {H : Heap} {locs : List Loc} {ls : Array Slot} {G : jG}  (C : jCx p s m args meth c cX9_as 5 RX9 (Cond.code yX9_as cX9_as 5 (some .int)) (some .int)) (hRf : 1 ≤ R.frames) (hRl : 21 ≤ R.locals)  (M : jM) (l0 l1 l2 : Int) (h0 : jkd l0 = (9, 0)) {fin : Int} (hf : f_X9_as M l0 l1 l2 = some fin) (hO : jOk G M s H locs) (hl : lv_has ls 5 [(0, jR G l0), (1, vI l1), (2, vI l2)]) : W p l e R s m args below meth c H locs 0 0 (MQ below (jQ G (some (vI fin)) M) args s 0 0 (jA G)) (F0 m 0 ls []) := by
  unfold f_X9_as at hf
  refine lv_aload_n C.1 C.2.1 dX9_as_0 rfl (lv_at hl 0 rfl) ?_
  refine j_get C hO (ci := 9) (k := 0) (v := jR G (jpt l0 0)) h0 rfl inlX9 (by decide) kF_1_15 rfl rfl dX9_as_1 ?_
  refine lv_iload_n C.1 C.2.1 dX9_as_4 rfl (lv_at hl 1 rfl) ?_
  obtain ⟨r1, hr1, hf⟩ := bnd_e hf
  refine j_callV C hO (n := 1) (As := [vI l1]) (st1 := [vI r1]) (c_X8_hasPlayer l G M (jpt l0 0) l1 (tp_9_0 h0) hr1) (tp_9_0 h0) rfl kC_20_14 kM_20_11 kI_20_12 kS_20_13 kN_1_14 ⟨by decide, by decide, by decide⟩ ⟨Nat.le_trans (by decide) hRf, Nat.le_trans (by decide) hRl⟩ rfl rfl rfl hl.1 rfl (Nat.le_of_ble_eq_true rfl) ⟨Nat.zero_le _, Nat.zero_le _⟩ dX9_as_5 rfl (fun H locs hO => ?_)
  refine j_if_eq (tgt := 21) C rfl dX9_as_8 (by decide) (fun c2 => ?_) (fun c2 => ?_)
  · have hf := (if_pos c2).symm.trans hf
    refine lv_iconst (v := Int32.ofInt (-1)) C.1 C.2.1 dX9_as_21 rfl ?_
    have hf := som_e hf
    subst hf
    exact j_iret C hO dX9_as_22
  · have hf := (if_neg c2).symm.trans hf
    refine lv_iload_n C.1 C.2.1 dX9_as_11 rfl (lv_at hl 2 rfl) ?_
    refine j_if_lt (tgt := 21) C rfl dX9_as_12 (by decide) (fun c3 => ?_) (fun c3 => ?_)
    · have hf := (if_pos c3).symm.trans hf
      refine lv_iconst (v := Int32.ofInt (-1)) C.1 C.2.1 dX9_as_21 rfl ?_
      have hf := som_e hf
      subst hf
      exact j_iret C hO dX9_as_22
    · have hf := (if_neg c3).symm.trans hf
      refine lv_iload_n C.1 C.2.1 dX9_as_15 rfl (lv_at hl 2 rfl) ?_
      refine lv_bipush (v := Int32.ofInt 7) C.1 C.2.1 dX9_as_16 (by decide) ?_
      refine j_icmp_lt (tgt := 23) C rfl (w32_id (by decide) (by decide)) dX9_as_18 (by decide) (fun c4 => ?_) (fun c4 => ?_)
      · have hf := (if_pos c4).symm.trans hf
        refine lv_aload_n C.1 C.2.1 dX9_as_23 rfl (lv_at hl 0 rfl) ?_
        refine j_get C hO (ci := 9) (k := 0) (v := jR G (jpt l0 0)) h0 rfl inlX9 (by decide) kF_1_15 rfl rfl dX9_as_24 ?_
        refine j_get C hO (ci := 8) (k := 8) (v := jR G (jpt (jpt l0 0) 8)) (tp_9_0 h0) rfl inlX8 (by decide) kF_20_9 rfl rfl dX9_as_27 ?_
        refine lv_iload_n C.1 C.2.1 dX9_as_30 rfl (lv_at hl 1 rfl) ?_
        obtain ⟨g5, hf⟩ := grd_e hf
        refine j_iald C hO (tp_8_8 (tp_9_0 h0)) rfl g5.1 g5.2 dX9_as_31 ?_
        refine lv_istore_n (lv' := [(3, vI (M (jpt (jpt l0 0) 8) (w32 l1))), (0, jR G l0), (1, vI l1), (2, vI l2)]) C.1 C.2.1 dX9_as_32 rfl hl (by decide) rfl (fun ls hl => ?_)
        refine lv_iconst (v := Int32.ofInt 0) C.1 C.2.1 dX9_as_33 rfl ?_
        refine lv_istore (lv' := [(4, vI 0), (3, vI (M (jpt (jpt l0 0) 8) (w32 l1))), (0, jR G l0), (1, vI l1), (2, vI l2)]) C.1 C.2.1 dX9_as_34 hl (by decide) rfl (fun ls hl => ?_)
        obtain ⟨x10, hx10, hf⟩ := bnd_e hf
        refine iter_e (P := fun Z => ∀ (H : Heap) (locs : List Loc) (ls : Array Slot), jOk G M s H locs → lv_has ls 5 [(0, jR G l0), (1, vI l1), (2, vI l2), (3, vI Z.1), (4, vI Z.2)] → W p l e R s m args below meth c H locs 0 0 (MQ below (jQ G (some (vI fin)) M) args s 0 0 (jA G)) (F0 m 36 ls [])) (E := fun x => (∀ q : Unit, x = (.inl q) → ∀ (H : Heap) (locs : List Loc) (ls : Array Slot), jOk G M s H locs → lv_has ls 5 [] → W p l e R s m args below meth c H locs 0 0 (MQ below (jQ G (some (vI fin)) M) args s 0 0 (jA G)) (F0 m 73 ls [])) ∧ (∀ q : Unit, x = (.inr q) → ∀ (H : Heap) (locs : List Loc) (ls : Array Slot), jOk G M s H locs → lv_has ls 5 [(0, jR G l0), (1, vI l1)] → W p l e R s m args below meth c H locs 0 0 (MQ below (jQ G (some (vI fin)) M) args s 0 0 (jA G)) (F0 m 52 ls []))) (fun Z rr hb kc kx H locs ls hO hl => w_X9_as_L36 C hRf hRl M l0 l1 l2 h0 Z hb kc (fun q e => (kx _ e).1 q rfl) (fun q e => (kx _ e).2 q rfl) hO hl) 5000 (M (jpt (jpt l0 0) 8) (w32 l1), 0) x10 hx10 ?_ _ _ _ hO (lv_sub hl [2, 3, 4, 1, 0] rfl)
        clear hO hl
        refine ⟨?_, ?_⟩
        · intro q11 eq11 H locs ls hO hl
          subst eq11
          have hf := sel_l hf
          refine lv_bipush (v := Int32.ofInt (-6)) C.1 C.2.1 dX9_as_73 (by decide) ?_
          have hf := som_e hf
          subst hf
          exact j_iret C hO dX9_as_75
        · intro q12 eq12 H locs ls hO hl
          subst eq12
          have hf := sel_r hf
          refine lv_aload_n C.1 C.2.1 dX9_as_52 rfl (lv_at hl 0 rfl) ?_
          refine j_get C hO (ci := 9) (k := 0) (v := jR G (jpt l0 0)) h0 rfl inlX9 (by decide) kF_1_15 rfl rfl dX9_as_53 ?_
          refine j_get C hO (ci := 8) (k := 9) (v := jR G (jpt (jpt l0 0) 9)) (tp_9_0 h0) rfl inlX8 (by decide) kF_31_13 rfl rfl dX9_as_56 ?_
          refine lv_iload_n C.1 C.2.1 dX9_as_59 rfl (lv_at hl 1 rfl) ?_
          obtain ⟨g13, hf⟩ := grd_e hf
          refine j_iald C hO (tp_8_9 (tp_9_0 h0)) rfl g13.1 g13.2 dX9_as_60 ?_
          have hf := som_e hf
          subst hf
          exact j_iret C hO dX9_as_61
      · have hf := (if_neg c4).symm.trans hf
        refine lv_iconst (v := Int32.ofInt (-1)) C.1 C.2.1 dX9_as_21 rfl ?_
        have hf := som_e hf
        subst hf
        exact j_iret C hO dX9_as_22
set_option maxHeartbeats 1000000 in
theorem c_X9_as (l : Launch) (G : jG)  (M : jM) (l0 l1 l2 : Int) (h0 : jkd l0 = (9, 0)) {fin : Int} (h : f_X9_as M l0 l1 l2 = some fin) : Met l yX9_as (Cond.code yX9_as cX9_as 5 (some .int) :: wsL_law) ({ frames := 1, cells := 0, slots := 0, locals := 21 } : Room) (va_Pc [jR G l0, vI l1, vI l2] (fun U => jRep G M U)) (jQ G (some (vI fin)) M) 0 0 (jA G) := by
  refine Met.ofW (cc := cX9_as) (maxL := 5) (ret := (some .int)) (by decide) rfl ?_
  intro p e s m args below meth c s₁ B hml hv
  obtain ⟨rfl, hR0⟩ := hv
  have C : jCx p s m ([jR G l0, vI l1, vI l2] : List Value).toArray meth c cX9_as 5 RX9 (Cond.code yX9_as cX9_as 5 (some .int)) (some .int) := ⟨B.exec, B.bytes, hml, findClass_of_methodNamed B.named, atoms_spec B.pre, B.returns, B.notSynchronized⟩
  have hO := hR0.ok
  have hl := lv_entry ([jR G l0, vI l1, vI l2]) (n := 5) (Nat.le_of_ble_eq_true rfl)
  rw [lg_entry_eq]
  generalize (lg_sl ([jR G l0, vI l1, vI l2]) ++ List.replicate (5 - (lg_sl ([jR G l0, vI l1, vI l2])).length) Slot.unset).toArray = ls at hl ⊢
  have hl : lv_has ls 5 [(0, jR G l0), (1, vI l1), (2, vI l2)] := hl
  exact w_X9_as C (Nat.le_refl _) (Nat.le_refl _) M l0 l1 l2 h0 h hO hl
set_option maxHeartbeats 4000000 in
theorem w_X9_image {p : Program} {l : Launch} {e : Env} {R : Room} {s : State} {m : MethodId} {args : Array Value} {below : List Frame} {meth : Method} {c : Code} {H : Heap} {locs : List Loc} {ls : Array Slot} {G : jG}  (C : jCx p s m args meth c cX9_image 1 RX9 (Cond.code yX9_image cX9_image 1 (some .int)) (some .int)) (hRf : 2 ≤ R.frames) (hRl : 44 ≤ R.locals)  (M : jM) (l0 : Int) (h0 : jkd l0 = (9, 0)) {fin : Int × jM} (hf : f_X9_image M l0 = some fin) (hO : jOk G M s H locs) (hl : lv_has ls 1 [(0, jR G l0)]) : W p l e R s m args below meth c H locs 0 0 (MQ below (jQ G (some (vI fin.1)) fin.2) args s 0 0 (jA G)) (F0 m 0 ls []) := by
  unfold f_X9_image at hf
  refine lv_aload_n C.1 C.2.1 dX9_image_0 rfl (lv_at hl 0 rfl) ?_
  refine j_get C hO (ci := 9) (k := 1) (v := jR G (jpt l0 1)) h0 rfl inlX9 (by decide) kF_1_16 rfl rfl dX9_image_1 ?_
  refine lv_aload_n C.1 C.2.1 dX9_image_4 rfl (lv_at hl 0 rfl) ?_
  refine j_get C hO (ci := 9) (k := 0) (v := jR G (jpt l0 0)) h0 rfl inlX9 (by decide) kF_1_15 rfl rfl dX9_image_5 ?_
  obtain ⟨r1, hr1, hf⟩ := bnd_e hf
  refine j_callV C hO (n := 1) (As := [jR G (jpt l0 0)]) (st1 := []) (c_X8_copy l G M (jpt l0 1) (jpt l0 0) (tp_9_1 h0) (tp_9_0 h0) hr1) (tp_9_1 h0) rfl kC_43_19 kM_43_16 kI_43_17 kS_43_18 kN_1_14 ⟨by decide, by decide, by decide⟩ ⟨Nat.le_trans (by decide) hRf, Nat.le_trans (by decide) hRl⟩ rfl rfl rfl hl.1 rfl (Nat.le_of_ble_eq_true rfl) ⟨Nat.zero_le _, Nat.zero_le _⟩ dX9_image_8 rfl (fun H locs hO => ?_)
  refine lv_aload_n C.1 C.2.1 dX9_image_11 rfl (lv_at hl 0 rfl) ?_
  refine lv_iconst (v := Int32.ofInt 1) C.1 C.2.1 dX9_image_12 rfl ?_
  obtain ⟨M2, hM2, hf⟩ := lt1_e hf
  refine j_put C hO (ci := 9) (k := 2) (x := 1) h0 rfl inlX9 tyX9_ok nmX9 (by decide) kF_1_17 rfl rfl (jz_n (Or.inr rfl)) (jz_f (Or.inr rfl)) (by simp [jfl]) (fs_9_2) dX9_image_13 (fun H locs hO => ?_)
  rw [← hM2] at hO
  refine lv_aload_n C.1 C.2.1 dX9_image_16 rfl (lv_at hl 0 rfl) ?_
  refine j_get C hO (ci := 9) (k := 0) (v := jR G (jpt l0 0)) h0 rfl inlX9 (by decide) kF_1_15 rfl rfl dX9_image_17 ?_
  refine j_get C hO (ci := 8) (k := 7) (v := vI (M2 (jpt l0 0) 7)) (tp_9_0 h0) rfl inlX8 (by decide) kF_18_5 rfl rfl dX9_image_20 ?_
  have hf := som_e hf
  subst hf
  exact j_iret C hO dX9_image_23
set_option maxHeartbeats 1000000 in
theorem c_X9_image (l : Launch) (G : jG)  (M : jM) (l0 : Int) (h0 : jkd l0 = (9, 0)) {fin : Int × jM} (h : f_X9_image M l0 = some fin) : Met l yX9_image (Cond.code yX9_image cX9_image 1 (some .int) :: wsL_law) ({ frames := 2, cells := 0, slots := 0, locals := 44 } : Room) (va_Pc [jR G l0] (fun U => jRep G M U)) (jQ G (some (vI fin.1)) fin.2) 0 0 (jA G) := by
  refine Met.ofW (cc := cX9_image) (maxL := 1) (ret := (some .int)) (by decide) rfl ?_
  intro p e s m args below meth c s₁ B hml hv
  obtain ⟨rfl, hR0⟩ := hv
  have C : jCx p s m ([jR G l0] : List Value).toArray meth c cX9_image 1 RX9 (Cond.code yX9_image cX9_image 1 (some .int)) (some .int) := ⟨B.exec, B.bytes, hml, findClass_of_methodNamed B.named, atoms_spec B.pre, B.returns, B.notSynchronized⟩
  have hO := hR0.ok
  have hl := lv_entry ([jR G l0]) (n := 1) (Nat.le_of_ble_eq_true rfl)
  rw [lg_entry_eq]
  generalize (lg_sl ([jR G l0]) ++ List.replicate (1 - (lg_sl ([jR G l0])).length) Slot.unset).toArray = ls at hl ⊢
  have hl : lv_has ls 1 [(0, jR G l0)] := hl
  exact w_X9_image C (Nat.le_refl _) (Nat.le_refl _) M l0 h0 h hO hl
set_option maxHeartbeats 4000000 in
theorem w_X9_undo {p : Program} {l : Launch} {e : Env} {R : Room} {s : State} {m : MethodId} {args : Array Value} {below : List Frame} {meth : Method} {c : Code} {H : Heap} {locs : List Loc} {ls : Array Slot} {G : jG}  (C : jCx p s m args meth c cX9_undo 1 RX9 (Cond.code yX9_undo cX9_undo 1 (some .int)) (some .int)) (hRf : 2 ≤ R.frames) (hRl : 44 ≤ R.locals)  (M : jM) (l0 : Int) (h0 : jkd l0 = (9, 0)) {fin : Int × jM} (hf : f_X9_undo M l0 = some fin) (hO : jOk G M s H locs) (hl : lv_has ls 1 [(0, jR G l0)]) : W p l e R s m args below meth c H locs 0 0 (MQ below (jQ G (some (vI fin.1)) fin.2) args s 0 0 (jA G)) (F0 m 0 ls []) := by
  unfold f_X9_undo at hf
  refine lv_aload_n C.1 C.2.1 dX9_undo_0 rfl (lv_at hl 0 rfl) ?_
  refine j_get C hO (ci := 9) (k := 2) (v := vI (M l0 2)) h0 rfl inlX9 (by decide) kF_1_17 rfl rfl dX9_undo_1 ?_
  refine j_if_ne (tgt := 10) C rfl dX9_undo_4 (by decide) (fun c1 => ?_) (fun c1 => ?_)
  · have hf := (if_neg c1).symm.trans hf
    refine lv_aload_n C.1 C.2.1 dX9_undo_10 rfl (lv_at hl 0 rfl) ?_
    refine j_get C hO (ci := 9) (k := 0) (v := jR G (jpt l0 0)) h0 rfl inlX9 (by decide) kF_1_15 rfl rfl dX9_undo_11 ?_
    refine lv_aload_n C.1 C.2.1 dX9_undo_14 rfl (lv_at hl 0 rfl) ?_
    refine j_get C hO (ci := 9) (k := 1) (v := jR G (jpt l0 1)) h0 rfl inlX9 (by decide) kF_1_16 rfl rfl dX9_undo_15 ?_
    obtain ⟨r2, hr2, hf⟩ := bnd_e hf
    refine j_callV C hO (n := 1) (As := [jR G (jpt l0 1)]) (st1 := []) (c_X8_copy l G M (jpt l0 0) (jpt l0 1) (tp_9_0 h0) (tp_9_1 h0) hr2) (tp_9_0 h0) rfl kC_43_19 kM_43_16 kI_43_17 kS_43_18 kN_1_14 ⟨by decide, by decide, by decide⟩ ⟨Nat.le_trans (by decide) hRf, Nat.le_trans (by decide) hRl⟩ rfl rfl rfl hl.1 rfl (Nat.le_of_ble_eq_true rfl) ⟨Nat.zero_le _, Nat.zero_le _⟩ dX9_undo_18 rfl (fun H locs hO => ?_)
    refine lv_aload_n C.1 C.2.1 dX9_undo_21 rfl (lv_at hl 0 rfl) ?_
    refine j_get C hO (ci := 9) (k := 0) (v := jR G (jpt l0 0)) h0 rfl inlX9 (by decide) kF_1_15 rfl rfl dX9_undo_22 ?_
    refine j_get C hO (ci := 8) (k := 7) (v := vI (r2 (jpt l0 0) 7)) (tp_9_0 h0) rfl inlX8 (by decide) kF_18_5 rfl rfl dX9_undo_25 ?_
    have hf := som_e hf
    subst hf
    exact j_iret C hO dX9_undo_28
  · have hf := (if_pos c1).symm.trans hf
    refine lv_bipush (v := Int32.ofInt (-3)) C.1 C.2.1 dX9_undo_7 (by decide) ?_
    have hf := som_e hf
    subst hf
    exact j_iret C hO dX9_undo_9
set_option maxHeartbeats 1000000 in
theorem c_X9_undo (l : Launch) (G : jG)  (M : jM) (l0 : Int) (h0 : jkd l0 = (9, 0)) {fin : Int × jM} (h : f_X9_undo M l0 = some fin) : Met l yX9_undo (Cond.code yX9_undo cX9_undo 1 (some .int) :: wsL_law) ({ frames := 2, cells := 0, slots := 0, locals := 44 } : Room) (va_Pc [jR G l0] (fun U => jRep G M U)) (jQ G (some (vI fin.1)) fin.2) 0 0 (jA G) := by
  refine Met.ofW (cc := cX9_undo) (maxL := 1) (ret := (some .int)) (by decide) rfl ?_
  intro p e s m args below meth c s₁ B hml hv
  obtain ⟨rfl, hR0⟩ := hv
  have C : jCx p s m ([jR G l0] : List Value).toArray meth c cX9_undo 1 RX9 (Cond.code yX9_undo cX9_undo 1 (some .int)) (some .int) := ⟨B.exec, B.bytes, hml, findClass_of_methodNamed B.named, atoms_spec B.pre, B.returns, B.notSynchronized⟩
  have hO := hR0.ok
  have hl := lv_entry ([jR G l0]) (n := 1) (Nat.le_of_ble_eq_true rfl)
  rw [lg_entry_eq]
  generalize (lg_sl ([jR G l0]) ++ List.replicate (1 - (lg_sl ([jR G l0])).length) Slot.unset).toArray = ls at hl ⊢
  have hl : lv_has ls 1 [(0, jR G l0)] := hl
  exact w_X9_undo C (Nat.le_refl _) (Nat.le_refl _) M l0 h0 h hO hl
set_option maxHeartbeats 4000000 in
theorem w_X9_count {p : Program} {l : Launch} {e : Env} {R : Room} {s : State} {m : MethodId} {args : Array Value} {below : List Frame} {meth : Method} {c : Code} {H : Heap} {locs : List Loc} {ls : Array Slot} {G : jG}  (C : jCx p s m args meth c cX9_count 2 RX9 (Cond.code yX9_count cX9_count 2 (some .int)) (some .int)) (hRf : 0 ≤ R.frames) (hRl : 0 ≤ R.locals)  (M : jM) (l0 l1 : Int) (h0 : jkd l0 = (9, 0)) {fin : Int} (hf : f_X9_count M l0 l1 = some fin) (hO : jOk G M s H locs) (hl : lv_has ls 2 [(0, jR G l0), (1, vI l1)]) : W p l e R s m args below meth c H locs 0 0 (MQ below (jQ G (some (vI fin)) M) args s 0 0 (jA G)) (F0 m 0 ls []) := by
  unfold f_X9_count at hf
  refine lv_iload_n C.1 C.2.1 dX9_count_0 rfl (lv_at hl 1 rfl) ?_
  by_cases c1 : w32 l1 = 0
  · have hf := (if_pos c1).symm.trans hf
    refine j_tsw (tgt := 44) C c1 dX9_count_1 (by decide) (by decide) rfl (by decide) ?_
    refine lv_aload_n C.1 C.2.1 dX9_count_44 rfl (lv_at hl 0 rfl) ?_
    refine j_get C hO (ci := 9) (k := 0) (v := jR G (jpt l0 0)) h0 rfl inlX9 (by decide) kF_1_15 rfl rfl dX9_count_45 ?_
    refine j_get C hO (ci := 8) (k := 7) (v := vI (M (jpt l0 0) 7)) (tp_9_0 h0) rfl inlX8 (by decide) kF_18_5 rfl rfl dX9_count_48 ?_
    have hf := som_e hf
    subst hf
    exact j_iret C hO dX9_count_51
  have hf := (if_neg c1).symm.trans hf
  by_cases c2 : w32 l1 = 1
  · have hf := (if_pos c2).symm.trans hf
    refine j_tsw (tgt := 52) C c2 dX9_count_1 (by decide) (by decide) rfl (by decide) ?_
    refine lv_aload_n C.1 C.2.1 dX9_count_52 rfl (lv_at hl 0 rfl) ?_
    refine j_get C hO (ci := 9) (k := 0) (v := jR G (jpt l0 0)) h0 rfl inlX9 (by decide) kF_1_15 rfl rfl dX9_count_53 ?_
    refine j_get C hO (ci := 8) (k := 11) (v := vI (M (jpt l0 0) 11)) (tp_9_0 h0) rfl inlX8 (by decide) kF_19_19 rfl rfl dX9_count_56 ?_
    have hf := som_e hf
    subst hf
    exact j_iret C hO dX9_count_59
  have hf := (if_neg c2).symm.trans hf
  by_cases c3 : w32 l1 = 2
  · have hf := (if_pos c3).symm.trans hf
    refine j_tsw (tgt := 60) C c3 dX9_count_1 (by decide) (by decide) rfl (by decide) ?_
    refine lv_aload_n C.1 C.2.1 dX9_count_60 rfl (lv_at hl 0 rfl) ?_
    refine j_get C hO (ci := 9) (k := 0) (v := jR G (jpt l0 0)) h0 rfl inlX9 (by decide) kF_1_15 rfl rfl dX9_count_61 ?_
    refine j_get C hO (ci := 8) (k := 3) (v := vI (M (jpt l0 0) 3)) (tp_9_0 h0) rfl inlX8 (by decide) kF_7_6 rfl rfl dX9_count_64 ?_
    have hf := som_e hf
    subst hf
    exact j_iret C hO dX9_count_67
  have hf := (if_neg c3).symm.trans hf
  by_cases c4 : w32 l1 = 3
  · have hf := (if_pos c4).symm.trans hf
    refine j_tsw (tgt := 68) C c4 dX9_count_1 (by decide) (by decide) rfl (by decide) ?_
    refine lv_aload_n C.1 C.2.1 dX9_count_68 rfl (lv_at hl 0 rfl) ?_
    refine j_get C hO (ci := 9) (k := 0) (v := jR G (jpt l0 0)) h0 rfl inlX9 (by decide) kF_1_15 rfl rfl dX9_count_69 ?_
    refine j_get C hO (ci := 8) (k := 5) (v := jR G (jpt (jpt l0 0) 5)) (tp_9_0 h0) rfl inlX8 (by decide) kF_17_6 rfl rfl dX9_count_72 ?_
    refine j_get C hO (ci := 3) (k := 0) (v := vI (M (jpt (jpt l0 0) 5) 0)) (tp_8_5 (tp_9_0 h0)) rfl inlX3 (by decide) kF_17_10 rfl rfl dX9_count_75 ?_
    have hf := som_e hf
    subst hf
    exact j_iret C hO dX9_count_78
  have hf := (if_neg c4).symm.trans hf
  by_cases c5 : w32 l1 = 4
  · have hf := (if_pos c5).symm.trans hf
    refine j_tsw (tgt := 79) C c5 dX9_count_1 (by decide) (by decide) rfl (by decide) ?_
    refine lv_aload_n C.1 C.2.1 dX9_count_79 rfl (lv_at hl 0 rfl) ?_
    refine j_get C hO (ci := 9) (k := 0) (v := jR G (jpt l0 0)) h0 rfl inlX9 (by decide) kF_1_15 rfl rfl dX9_count_80 ?_
    refine j_get C hO (ci := 8) (k := 12) (v := jR G (jpt (jpt l0 0) 12)) (tp_9_0 h0) rfl inlX8 (by decide) kF_27_2 rfl rfl dX9_count_83 ?_
    refine j_get C hO (ci := 3) (k := 0) (v := vI (M (jpt (jpt l0 0) 12) 0)) (tp_8_12 (tp_9_0 h0)) rfl inlX3 (by decide) kF_17_10 rfl rfl dX9_count_86 ?_
    have hf := som_e hf
    subst hf
    exact j_iret C hO dX9_count_89
  have hf := (if_neg c5).symm.trans hf
  by_cases c6 : w32 l1 = 5
  · have hf := (if_pos c6).symm.trans hf
    refine j_tsw (tgt := 90) C c6 dX9_count_1 (by decide) (by decide) rfl (by decide) ?_
    refine lv_aload_n C.1 C.2.1 dX9_count_90 rfl (lv_at hl 0 rfl) ?_
    refine j_get C hO (ci := 9) (k := 0) (v := jR G (jpt l0 0)) h0 rfl inlX9 (by decide) kF_1_15 rfl rfl dX9_count_91 ?_
    refine j_get C hO (ci := 8) (k := 1) (v := vI (M (jpt l0 0) 1)) (tp_9_0 h0) rfl inlX8 (by decide) kF_6_13 rfl rfl dX9_count_94 ?_
    have hf := som_e hf
    subst hf
    exact j_iret C hO dX9_count_97
  have hf := (if_neg c6).symm.trans hf
  by_cases c7 : w32 l1 = 6
  · have hf := (if_pos c7).symm.trans hf
    refine j_tsw (tgt := 98) C c7 dX9_count_1 (by decide) (by decide) rfl (by decide) ?_
    refine lv_aload_n C.1 C.2.1 dX9_count_98 rfl (lv_at hl 0 rfl) ?_
    refine j_get C hO (ci := 9) (k := 9) (v := jR G (jpt l0 9)) h0 rfl inlX9 (by decide) kF_2_21 rfl rfl dX9_count_99 ?_
    refine j_get C hO (ci := 0) (k := 1) (v := vI (M (jpt l0 9) 1)) (tp_9_9 h0) rfl inlX0 (by decide) kF_42_21 rfl rfl dX9_count_102 ?_
    have hf := som_e hf
    subst hf
    exact j_iret C hO dX9_count_105
  have hf := (if_neg c7).symm.trans hf
  refine j_tsd (tgt := 106) C dX9_count_1 (by omega) (by decide) ?_
  refine lv_iconst (v := Int32.ofInt (-1)) C.1 C.2.1 dX9_count_106 rfl ?_
  have hf := som_e hf
  subst hf
  exact j_iret C hO dX9_count_107
set_option maxHeartbeats 1000000 in
theorem c_X9_count (l : Launch) (G : jG)  (M : jM) (l0 l1 : Int) (h0 : jkd l0 = (9, 0)) {fin : Int} (h : f_X9_count M l0 l1 = some fin) : Met l yX9_count (Cond.code yX9_count cX9_count 2 (some .int) :: wsL_law) ({ frames := 0, cells := 0, slots := 0, locals := 0 } : Room) (va_Pc [jR G l0, vI l1] (fun U => jRep G M U)) (jQ G (some (vI fin)) M) 0 0 (jA G) := by
  refine Met.ofW (cc := cX9_count) (maxL := 2) (ret := (some .int)) (by decide) rfl ?_
  intro p e s m args below meth c s₁ B hml hv
  obtain ⟨rfl, hR0⟩ := hv
  have C : jCx p s m ([jR G l0, vI l1] : List Value).toArray meth c cX9_count 2 RX9 (Cond.code yX9_count cX9_count 2 (some .int)) (some .int) := ⟨B.exec, B.bytes, hml, findClass_of_methodNamed B.named, atoms_spec B.pre, B.returns, B.notSynchronized⟩
  have hO := hR0.ok
  have hl := lv_entry ([jR G l0, vI l1]) (n := 2) (Nat.le_of_ble_eq_true rfl)
  rw [lg_entry_eq]
  generalize (lg_sl ([jR G l0, vI l1]) ++ List.replicate (2 - (lg_sl ([jR G l0, vI l1])).length) Slot.unset).toArray = ls at hl ⊢
  have hl : lv_has ls 2 [(0, jR G l0), (1, vI l1)] := hl
  exact w_X9_count C (Nat.le_refl _) (Nat.le_refl _) M l0 l1 h0 h hO hl
set_option maxHeartbeats 4000000 in
theorem w_X10_in {p : Program} {l : Launch} {e : Env} {R : Room} {s : State} {m : MethodId} {args : Array Value} {below : List Frame} {meth : Method} {c : Code} {H : Heap} {locs : List Loc} {ls : Array Slot} {G : jG}  (C : jCx p s m args meth c cX10_in 3 RX10 (Cond.code yX10_in cX10_in 3 (some .boolean)) (some .boolean)) (hRf : 0 ≤ R.frames) (hRl : 0 ≤ R.locals)  (M : jM) (l0 l1 l2 : Int) {fin : Int} (hf : f_X10_in M l0 l1 l2 = some fin) (hO : jOk G M s H locs) (hl : lv_has ls 3 [(0, vI l0), (1, vI l1), (2, vI l2)]) : W p l e R s m args below meth c H locs 0 0 (MQ below (jQ G (some (vI fin)) M) args s 0 0 (jA G)) (F0 m 0 ls []) := by
  unfold f_X10_in at hf
  refine lv_iload_n C.1 C.2.1 dX10_in_0 rfl (lv_at hl 0 rfl) ?_
  refine lv_iload_n C.1 C.2.1 dX10_in_1 rfl (lv_at hl 1 rfl) ?_
  refine j_icmp_lt (tgt := 14) C rfl rfl dX10_in_2 (by decide) (fun c1 => ?_) (fun c1 => ?_)
  · have hf := (if_pos c1).symm.trans hf
    refine lv_iconst (v := Int32.ofInt 0) C.1 C.2.1 dX10_in_14 rfl ?_
    have hf := som_e hf
    subst hf
    exact j_zret C hO (Or.inl rfl) dX10_in_15
  · have hf := (if_neg c1).symm.trans hf
    refine lv_iload_n C.1 C.2.1 dX10_in_5 rfl (lv_at hl 0 rfl) ?_
    refine lv_iload_n C.1 C.2.1 dX10_in_6 rfl (lv_at hl 2 rfl) ?_
    refine j_icmp_gt (tgt := 14) C rfl rfl dX10_in_7 (by decide) (fun c2 => ?_) (fun c2 => ?_)
    · have hf := (if_pos c2).symm.trans hf
      refine lv_iconst (v := Int32.ofInt 0) C.1 C.2.1 dX10_in_14 rfl ?_
      have hf := som_e hf
      subst hf
      exact j_zret C hO (Or.inl rfl) dX10_in_15
    · have hf := (if_neg c2).symm.trans hf
      refine lv_iconst (v := Int32.ofInt 1) C.1 C.2.1 dX10_in_10 rfl ?_
      refine lv_goto (tgt := 15) C.1 C.2.1 dX10_in_11 (by decide) ?_
      have hf := som_e hf
      subst hf
      exact j_zret C hO (Or.inr rfl) dX10_in_15
set_option maxHeartbeats 1000000 in
theorem c_X10_in (l : Launch) (G : jG)  (M : jM) (l0 l1 l2 : Int) {fin : Int} (h : f_X10_in M l0 l1 l2 = some fin) : Met l yX10_in (Cond.code yX10_in cX10_in 3 (some .boolean) :: wsL_law) ({ frames := 0, cells := 0, slots := 0, locals := 0 } : Room) (va_Pc [vI l0, vI l1, vI l2] (fun U => jRep G M U)) (jQ G (some (vI fin)) M) 0 0 (jA G) := by
  refine Met.ofW (cc := cX10_in) (maxL := 3) (ret := (some .boolean)) (by decide) rfl ?_
  intro p e s m args below meth c s₁ B hml hv
  obtain ⟨rfl, hR0⟩ := hv
  have C : jCx p s m ([vI l0, vI l1, vI l2] : List Value).toArray meth c cX10_in 3 RX10 (Cond.code yX10_in cX10_in 3 (some .boolean)) (some .boolean) := ⟨B.exec, B.bytes, hml, findClass_of_methodNamed B.named, atoms_spec B.pre, B.returns, B.notSynchronized⟩
  have hO := hR0.ok
  have hl := lv_entry ([vI l0, vI l1, vI l2]) (n := 3) (Nat.le_of_ble_eq_true rfl)
  rw [lg_entry_eq]
  generalize (lg_sl ([vI l0, vI l1, vI l2]) ++ List.replicate (3 - (lg_sl ([vI l0, vI l1, vI l2])).length) Slot.unset).toArray = ls at hl ⊢
  have hl : lv_has ls 3 [(0, vI l0), (1, vI l1), (2, vI l2)] := hl
  exact w_X10_in C (Nat.le_refl _) (Nat.le_refl _) M l0 l1 l2  h hO hl
