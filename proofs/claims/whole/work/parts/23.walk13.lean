set_option maxHeartbeats 4000000 in
theorem w_X10_half {p : Program} {l : Launch} {e : Env} {R : Room} {s : State} {m : MethodId} {args : Array Value} {below : List Frame} {meth : Method} {c : Code} {H : Heap} {locs : List Loc} {ls : Array Slot} {G : jG}  (C : jCx p s m args meth c cX10_half 6 RX10 (Cond.code yX10_half cX10_half 6 (some .long)) (some .long)) (hRf : 5 ≤ R.frames) (hRl : 119 ≤ R.locals)  (M : jM) (l0 l1 l2 l3 : Int) (h0 : jkd l0 = (10, 0)) {fin : Int × jM} (hf : f_X10_half M l0 l1 l2 l3 = some fin) (hO : jOk G M s H locs) (hl : lv_has ls 6 [(0, jR G l0), (1, vI l1), (2, vI l2), (3, vI l3)]) : W p l e R s m args below meth c H locs 0 0 (MQ below (jQ G (some (vL fin.1)) fin.2) args s 0 0 (jA G)) (F0 m 0 ls []) := by
  unfold f_X10_half at hf
  refine lv_aload_n C.1 C.2.1 dX10_half_0 rfl (lv_at hl 0 rfl) ?_
  refine lv_iload_n C.1 C.2.1 dX10_half_1 rfl (lv_at hl 1 rfl) ?_
  refine lv_iload_n C.1 C.2.1 dX10_half_2 rfl (lv_at hl 2 rfl) ?_
  obtain ⟨r1, hr1, hf⟩ := bnd_e hf
  refine j_callV C hO (n := 2) (As := [vI l1, vI l2]) (st1 := [vI r1]) (c_X10_canMeet l G M l0 l1 l2 h0 hr1) h0 rfl kC_25_20 kM_25_17 kI_25_18 kS_25_19 kN_1_5 ⟨by decide, by decide, by decide⟩ ⟨Nat.le_trans (by decide) hRf, Nat.le_trans (by decide) hRl⟩ rfl rfl rfl hl.1 rfl (Nat.le_of_ble_eq_true rfl) ⟨Nat.zero_le _, Nat.zero_le _⟩ dX10_half_3 rfl (fun H locs hO => ?_)
  refine j_if_eq (tgt := 57) C rfl dX10_half_6 (by decide) (fun c2 => ?_) (fun c2 => ?_)
  · have hf := (if_pos c2).symm.trans hf
    refine j_ldc2 (x := (-9223372036854775808)) C kL_22_23 (by decide) dX10_half_57 ?_
    have hf := som_e hf
    subst hf
    exact j_lret C hO dX10_half_60
  · have hf := (if_neg c2).symm.trans hf
    refine lv_iload_n C.1 C.2.1 dX10_half_9 rfl (lv_at hl 3 rfl) ?_
    refine lv_iconst (v := Int32.ofInt 0) C.1 C.2.1 dX10_half_10 rfl ?_
    refine lv_iconst (v := Int32.ofInt 1) C.1 C.2.1 dX10_half_11 rfl ?_
    obtain ⟨r3, hr3, hf⟩ := bnd_e hf
    refine j_callS C hO (n := 3) (As := [vI l3, vI 0, vI 1]) (st1 := [vI r3]) (c_X10_in l G M l3 0 1  hr3) kC_7_1 kM_6_23 kT_7_0 kN_1_5 ⟨by decide, by decide, by decide⟩ ⟨Nat.le_trans (by decide) hRf, Nat.le_trans (by decide) hRl⟩ rfl rfl rfl hl.1 rfl (Nat.le_of_ble_eq_true rfl) ⟨Nat.zero_le _, Nat.zero_le _⟩ dX10_half_12 rfl (fun H locs hO => ?_)
    refine j_if_eq (tgt := 57) C rfl dX10_half_15 (by decide) (fun c4 => ?_) (fun c4 => ?_)
    · have hf := (if_pos c4).symm.trans hf
      refine j_ldc2 (x := (-9223372036854775808)) C kL_22_23 (by decide) dX10_half_57 ?_
      have hf := som_e hf
      subst hf
      exact j_lret C hO dX10_half_60
    · have hf := (if_neg c4).symm.trans hf
      refine lv_aload_n C.1 C.2.1 dX10_half_18 rfl (lv_at hl 0 rfl) ?_
      obtain ⟨r5, hr5, hf⟩ := bnd_e hf
      refine j_callV C hO (n := 0) (As := []) (st1 := [vI r5]) (c_X10_areSigns l G M l0 h0 hr5) h0 rfl kC_27_14 kM_27_11 kI_27_12 kS_27_13 kN_1_5 ⟨by decide, by decide, by decide⟩ ⟨Nat.le_trans (by decide) hRf, Nat.le_trans (by decide) hRl⟩ rfl rfl rfl hl.1 rfl (Nat.le_of_ble_eq_true rfl) ⟨Nat.zero_le _, Nat.zero_le _⟩ dX10_half_19 rfl (fun H locs hO => ?_)
      refine j_if_eq (tgt := 57) C rfl dX10_half_22 (by decide) (fun c6 => ?_) (fun c6 => ?_)
      · have hf := (if_pos c6).symm.trans hf
        refine j_ldc2 (x := (-9223372036854775808)) C kL_22_23 (by decide) dX10_half_57 ?_
        have hf := som_e hf
        subst hf
        exact j_lret C hO dX10_half_60
      · have hf := (if_neg c6).symm.trans hf
        refine lv_aload_n C.1 C.2.1 dX10_half_25 rfl (lv_at hl 0 rfl) ?_
        refine lv_iload_n C.1 C.2.1 dX10_half_26 rfl (lv_at hl 1 rfl) ?_
        refine lv_bipush (v := Int32.ofInt 72) C.1 C.2.1 dX10_half_27 (by decide) ?_
        refine lv_aload_n C.1 C.2.1 dX10_half_29 rfl (lv_at hl 0 rfl) ?_
        refine j_get C hO (ci := 10) (k := 1) (v := jR G (jpt l0 1)) h0 rfl inlX10 (by decide) kF_5_23 rfl rfl dX10_half_30 ?_
        refine lv_iconst (v := Int32.ofInt 4) C.1 C.2.1 dX10_half_33 rfl ?_
        refine j_iald C hO (tp_10_1 h0) (w32_id (by decide) (by decide)) (by decide) (by decide) dX10_half_34 ?_
        obtain ⟨r7, hr7, hf⟩ := bnd_e hf
        refine j_callV C hO (n := 3) (As := [vI l1, vI 72, vI (M (jpt l0 1) 4)]) (st1 := [vI r7]) (c_X10_isWithin l G M l0 l1 72 (M (jpt l0 1) 4) h0 hr7) h0 rfl kC_26_4 kM_26_1 kI_26_2 kS_26_3 kN_1_5 ⟨by decide, by decide, by decide⟩ ⟨Nat.le_trans (by decide) hRf, Nat.le_trans (by decide) hRl⟩ rfl rfl rfl hl.1 rfl (Nat.le_of_ble_eq_true rfl) ⟨Nat.zero_le _, Nat.zero_le _⟩ dX10_half_35 rfl (fun H locs hO => ?_)
        refine j_if_ne (tgt := 57) C rfl dX10_half_38 (by decide) (fun c8 => ?_) (fun c8 => ?_)
        · have hf := (if_neg c8).symm.trans hf
          refine j_ldc2 (x := (-9223372036854775808)) C kL_22_23 (by decide) dX10_half_57 ?_
          have hf := som_e hf
          subst hf
          exact j_lret C hO dX10_half_60
        · have hf := (if_pos c8).symm.trans hf
          refine lv_aload_n C.1 C.2.1 dX10_half_41 rfl (lv_at hl 0 rfl) ?_
          refine lv_iload_n C.1 C.2.1 dX10_half_42 rfl (lv_at hl 2 rfl) ?_
          refine lv_bipush (v := Int32.ofInt 72) C.1 C.2.1 dX10_half_43 (by decide) ?_
          refine lv_aload_n C.1 C.2.1 dX10_half_45 rfl (lv_at hl 0 rfl) ?_
          refine j_get C hO (ci := 10) (k := 1) (v := jR G (jpt l0 1)) h0 rfl inlX10 (by decide) kF_5_23 rfl rfl dX10_half_46 ?_
          refine lv_iconst (v := Int32.ofInt 4) C.1 C.2.1 dX10_half_49 rfl ?_
          refine j_iald C hO (tp_10_1 h0) (w32_id (by decide) (by decide)) (by decide) (by decide) dX10_half_50 ?_
          obtain ⟨r9, hr9, hf⟩ := bnd_e hf
          refine j_callV C hO (n := 3) (As := [vI l2, vI 72, vI (M (jpt l0 1) 4)]) (st1 := [vI r9]) (c_X10_isWithin l G M l0 l2 72 (M (jpt l0 1) 4) h0 hr9) h0 rfl kC_26_4 kM_26_1 kI_26_2 kS_26_3 kN_1_5 ⟨by decide, by decide, by decide⟩ ⟨Nat.le_trans (by decide) hRf, Nat.le_trans (by decide) hRl⟩ rfl rfl rfl hl.1 rfl (Nat.le_of_ble_eq_true rfl) ⟨Nat.zero_le _, Nat.zero_le _⟩ dX10_half_51 rfl (fun H locs hO => ?_)
          refine j_if_eq (tgt := 61) C rfl dX10_half_54 (by decide) (fun c10 => ?_) (fun c10 => ?_)
          · have hf := (if_pos c10).symm.trans hf
            refine lv_aload_n C.1 C.2.1 dX10_half_61 rfl (lv_at hl 0 rfl) ?_
            refine lv_iload_n C.1 C.2.1 dX10_half_62 rfl (lv_at hl 1 rfl) ?_
            refine lv_iload_n C.1 C.2.1 dX10_half_63 rfl (lv_at hl 2 rfl) ?_
            obtain ⟨r11, hr11, hf⟩ := bnd_e hf
            refine j_callV C hO (n := 2) (As := [vI l1, vI l2]) (st1 := []) (c_X10_looksForOdds l G M l0 l1 l2 h0 hr11) h0 rfl kC_26_8 kM_26_5 kI_26_6 kS_26_7 kN_1_5 ⟨by decide, by decide, by decide⟩ ⟨Nat.le_trans (by decide) hRf, Nat.le_trans (by decide) hRl⟩ rfl rfl rfl hl.1 rfl (Nat.le_of_ble_eq_true rfl) ⟨Nat.zero_le _, Nat.zero_le _⟩ dX10_half_64 rfl (fun H locs hO => ?_)
            refine lv_aload_n C.1 C.2.1 dX10_half_67 rfl (lv_at hl 0 rfl) ?_
            refine j_get C hO (ci := 10) (k := 13) (v := vL (r11 l0 13)) h0 rfl inlX10 (by decide) kF_25_15 rfl rfl dX10_half_68 ?_
            refine lv_aload_n C.1 C.2.1 dX10_half_71 rfl (lv_at hl 0 rfl) ?_
            refine lv_bipush (v := Int32.ofInt 72) C.1 C.2.1 dX10_half_72 (by decide) ?_
            refine lv_aload_n C.1 C.2.1 dX10_half_74 rfl (lv_at hl 0 rfl) ?_
            refine j_get C hO (ci := 10) (k := 1) (v := jR G (jpt l0 1)) h0 rfl inlX10 (by decide) kF_5_23 rfl rfl dX10_half_75 ?_
            refine lv_iconst (v := Int32.ofInt 4) C.1 C.2.1 dX10_half_78 rfl ?_
            refine j_iald C hO (tp_10_1 h0) (w32_id (by decide) (by decide)) (by decide) (by decide) dX10_half_79 ?_
            refine lv_iload_n C.1 C.2.1 dX10_half_80 rfl (lv_at hl 2 rfl) ?_
            obtain ⟨r12, hr12, hf⟩ := bnd_e hf
            refine j_callV C hO (n := 3) (As := [vI 72, vI (r11 (jpt l0 1) 4), vI l2]) (st1 := [vL r12, vL (r11 l0 13)]) (c_X10_lap l G r11 l0 72 (r11 (jpt l0 1) 4) l2 h0 hr12) h0 rfl kC_23_11 kM_23_8 kI_23_9 kS_23_10 kN_1_5 ⟨by decide, by decide, by decide⟩ ⟨Nat.le_trans (by decide) hRf, Nat.le_trans (by decide) hRl⟩ rfl rfl rfl hl.1 rfl (Nat.le_of_ble_eq_true rfl) ⟨Nat.zero_le _, Nat.zero_le _⟩ dX10_half_81 rfl (fun H locs hO => ?_)
            refine lv_aload_n C.1 C.2.1 dX10_half_84 rfl (lv_at hl 0 rfl) ?_
            refine lv_iload_n C.1 C.2.1 dX10_half_85 rfl (lv_at hl 1 rfl) ?_
            refine lv_iconst (v := Int32.ofInt 0) C.1 C.2.1 dX10_half_86 rfl ?_
            obtain ⟨r13, hr13, hf⟩ := bnd_e hf
            refine j_callV C hO (n := 2) (As := [vI l1, vI 0]) (st1 := [vL r13, vL r12, vL (r11 l0 13)]) (c_X10_weightsFrom l G r11 l0 l1 0 h0 hr13) h0 rfl kC_23_19 kM_23_16 kI_23_17 kS_23_18 kN_1_5 ⟨by decide, by decide, by decide⟩ ⟨Nat.le_trans (by decide) hRf, Nat.le_trans (by decide) hRl⟩ rfl rfl rfl hl.1 rfl (Nat.le_of_ble_eq_true rfl) ⟨Nat.zero_le _, Nat.zero_le _⟩ dX10_half_87 rfl (fun H locs hO => ?_)
            refine j_lmul C dX10_half_90 ?_
            refine j_lsub C dX10_half_91 ?_
            refine lv_aload_n C.1 C.2.1 dX10_half_92 rfl (lv_at hl 0 rfl) ?_
            refine lv_bipush (v := Int32.ofInt 72) C.1 C.2.1 dX10_half_93 (by decide) ?_
            refine lv_aload_n C.1 C.2.1 dX10_half_95 rfl (lv_at hl 0 rfl) ?_
            refine j_get C hO (ci := 10) (k := 1) (v := jR G (jpt l0 1)) h0 rfl inlX10 (by decide) kF_5_23 rfl rfl dX10_half_96 ?_
            refine lv_iconst (v := Int32.ofInt 4) C.1 C.2.1 dX10_half_99 rfl ?_
            refine j_iald C hO (tp_10_1 h0) (w32_id (by decide) (by decide)) (by decide) (by decide) dX10_half_100 ?_
            refine lv_iload_n C.1 C.2.1 dX10_half_101 rfl (lv_at hl 1 rfl) ?_
            obtain ⟨r14, hr14, hf⟩ := bnd_e hf
            refine j_callV C hO (n := 3) (As := [vI 72, vI (r11 (jpt l0 1) 4), vI l1]) (st1 := [vL r14, vL ((r11 l0 13) - (r12 * r13))]) (c_X10_lap l G r11 l0 72 (r11 (jpt l0 1) 4) l1 h0 hr14) h0 rfl kC_23_11 kM_23_8 kI_23_9 kS_23_10 kN_1_5 ⟨by decide, by decide, by decide⟩ ⟨Nat.le_trans (by decide) hRf, Nat.le_trans (by decide) hRl⟩ rfl rfl rfl hl.1 rfl (Nat.le_of_ble_eq_true rfl) ⟨Nat.zero_le _, Nat.zero_le _⟩ dX10_half_102 rfl (fun H locs hO => ?_)
            refine lv_aload_n C.1 C.2.1 dX10_half_105 rfl (lv_at hl 0 rfl) ?_
            refine lv_iload_n C.1 C.2.1 dX10_half_106 rfl (lv_at hl 2 rfl) ?_
            refine lv_iconst (v := Int32.ofInt 0) C.1 C.2.1 dX10_half_107 rfl ?_
            obtain ⟨r15, hr15, hf⟩ := bnd_e hf
            refine j_callV C hO (n := 2) (As := [vI l2, vI 0]) (st1 := [vL r15, vL r14, vL ((r11 l0 13) - (r12 * r13))]) (c_X10_weightsFrom l G r11 l0 l2 0 h0 hr15) h0 rfl kC_23_19 kM_23_16 kI_23_17 kS_23_18 kN_1_5 ⟨by decide, by decide, by decide⟩ ⟨Nat.le_trans (by decide) hRf, Nat.le_trans (by decide) hRl⟩ rfl rfl rfl hl.1 rfl (Nat.le_of_ble_eq_true rfl) ⟨Nat.zero_le _, Nat.zero_le _⟩ dX10_half_108 rfl (fun H locs hO => ?_)
            refine j_lmul C dX10_half_111 ?_
            refine j_ladd C dX10_half_112 ?_
            refine lv_lstore (lv' := [(4, vL (((r11 l0 13) - (r12 * r13)) + (r14 * r15))), (0, jR G l0), (1, vI l1), (2, vI l2), (3, vI l3)]) C.1 C.2.1 dX10_half_113 hl (by decide) rfl (fun ls hl => ?_)
            refine lv_lload C.1 C.2.1 dX10_half_115 (lv_at hl 0 rfl) ?_
            refine lv_aload_n C.1 C.2.1 dX10_half_117 rfl (lv_at hl 1 rfl) ?_
            refine j_get C hO (ci := 10) (k := 13) (v := vL (r11 l0 13)) h0 rfl inlX10 (by decide) kF_25_15 rfl rfl dX10_half_118 ?_
            refine lv_aload_n C.1 C.2.1 dX10_half_121 rfl (lv_at hl 1 rfl) ?_
            refine j_get C hO (ci := 10) (k := 14) (v := vL (r11 l0 14)) h0 rfl inlX10 (by decide) kF_25_16 rfl rfl dX10_half_122 ?_
            refine j_ladd C dX10_half_125 ?_
            refine lv_iload_n C.1 C.2.1 dX10_half_126 rfl (lv_at hl 4 rfl) ?_
            obtain ⟨r16, hr16, hf⟩ := bnd_e hf
            refine j_callS C hO (n := 3) (As := [vL (((r11 l0 13) - (r12 * r13)) + (r14 * r15)), vL ((r11 l0 13) + (r11 l0 14)), vI l3]) (st1 := [vL r16]) (c_X10_lowest l G r11 (((r11 l0 13) - (r12 * r13)) + (r14 * r15)) ((r11 l0 13) + (r11 l0 14)) l3  hr16) kC_23_22 kM_23_20 kT_23_21 kN_1_5 ⟨by decide, by decide, by decide⟩ ⟨Nat.le_trans (by decide) hRf, Nat.le_trans (by decide) hRl⟩ rfl rfl rfl hl.1 rfl (Nat.le_of_ble_eq_true rfl) ⟨Nat.zero_le _, Nat.zero_le _⟩ dX10_half_127 rfl (fun H locs hO => ?_)
            have hf := som_e hf
            subst hf
            exact j_lret C hO dX10_half_130
          · have hf := (if_neg c10).symm.trans hf
            refine j_ldc2 (x := (-9223372036854775808)) C kL_22_23 (by decide) dX10_half_57 ?_
            have hf := som_e hf
            subst hf
            exact j_lret C hO dX10_half_60
set_option maxHeartbeats 1000000 in
theorem c_X10_half (l : Launch) (G : jG)  (M : jM) (l0 l1 l2 l3 : Int) (h0 : jkd l0 = (10, 0)) {fin : Int × jM} (h : f_X10_half M l0 l1 l2 l3 = some fin) : Met l yX10_half (Cond.code yX10_half cX10_half 6 (some .long) :: wsL_law) ({ frames := 5, cells := 0, slots := 0, locals := 119 } : Room) (va_Pc [jR G l0, vI l1, vI l2, vI l3] (fun U => jRep G M U)) (jQ G (some (vL fin.1)) fin.2) 0 0 (jA G) := by
  refine Met.ofW (cc := cX10_half) (maxL := 6) (ret := (some .long)) (by decide) rfl ?_
  intro p e s m args below meth c s₁ B hml hv
  obtain ⟨rfl, hR0⟩ := hv
  have C : jCx p s m ([jR G l0, vI l1, vI l2, vI l3] : List Value).toArray meth c cX10_half 6 RX10 (Cond.code yX10_half cX10_half 6 (some .long)) (some .long) := ⟨B.exec, B.bytes, hml, findClass_of_methodNamed B.named, atoms_spec B.pre, B.returns, B.notSynchronized⟩
  have hO := hR0.ok
  have hl := lv_entry ([jR G l0, vI l1, vI l2, vI l3]) (n := 6) (Nat.le_of_ble_eq_true rfl)
  rw [lg_entry_eq]
  generalize (lg_sl ([jR G l0, vI l1, vI l2, vI l3]) ++ List.replicate (6 - (lg_sl ([jR G l0, vI l1, vI l2, vI l3])).length) Slot.unset).toArray = ls at hl ⊢
  have hl : lv_has ls 6 [(0, jR G l0), (1, vI l1), (2, vI l2), (3, vI l3)] := hl
  exact w_X10_half C (Nat.le_refl _) (Nat.le_refl _) M l0 l1 l2 l3 h0 h hO hl
set_option maxHeartbeats 4000000 in
theorem w_X10_isLess_L14 {p : Program} {l : Launch} {e : Env} {R : Room} {s : State} {m : MethodId} {args : Array Value} {below : List Frame} {meth : Method} {c : Code} {H : Heap} {locs : List Loc} {ls : Array Slot} {G : jG}  (C : jCx p s m args meth c cX10_isLess 20 RX10 (Cond.code yX10_isLess cX10_isLess 20 (some .boolean)) (some .boolean)) (hRf : 0 ≤ R.frames) (hRl : 0 ≤ R.locals)  (M : jM) {fin : Int} (S : Int × Int × Int × Int) {rr : (Int × Int × Int × Int) ⊕ ((Int × Int × Int × Int) ⊕ Unit ⊕ Unit)} (hf : f_X10_isLess_L14 M  S = some rr) (kc : ∀ q : Int × Int × Int × Int, rr = .inl q → ∀ (H : Heap) (locs : List Loc) (ls : Array Slot), jOk G M s H locs → lv_has ls 20 [(8, vL q.1), (10, vL q.2.1), (12, vL q.2.2.1), (14, vL q.2.2.2)] → W p l e R s m args below meth c H locs 0 0 (MQ below (jQ G (some (vI fin)) M) args s 0 0 (jA G)) (F0 m 14 ls [])) (kx0 : ∀ q : Int × Int × Int × Int, rr = .inr (.inl q) → ∀ (H : Heap) (locs : List Loc) (ls : Array Slot), jOk G M s H locs → lv_has ls 20 [(8, vL q.1), (10, vL q.2.1), (12, vL q.2.2.1), (14, vL q.2.2.2)] → W p l e R s m args below meth c H locs 0 0 (MQ below (jQ G (some (vI fin)) M) args s 0 0 (jA G)) (F0 m 87 ls [])) (kx1 : ∀ q : Unit, rr = .inr (.inr (.inl q)) → ∀ (H : Heap) (locs : List Loc) (ls : Array Slot), jOk G M s H locs → lv_has ls 20 [] → W p l e R s m args below meth c H locs 0 0 (MQ below (jQ G (some (vI fin)) M) args s 0 0 (jA G)) (F0 m 49 ls [])) (kx2 : ∀ q : Unit, rr = .inr (.inr (.inr q)) → ∀ (H : Heap) (locs : List Loc) (ls : Array Slot), jOk G M s H locs → lv_has ls 20 [] → W p l e R s m args below meth c H locs 0 0 (MQ below (jQ G (some (vI fin)) M) args s 0 0 (jA G)) (F0 m 58 ls [])) (hO : jOk G M s H locs) (hl : lv_has ls 20 [(8, vL S.1), (10, vL S.2.1), (12, vL S.2.2.1), (14, vL S.2.2.2)]) : W p l e R s m args below meth c H locs 0 0 (MQ below (jQ G (some (vI fin)) M) args s 0 0 (jA G)) (F0 m 14 ls []) := by
  unfold f_X10_isLess_L14 at hf
  refine lv_lload C.1 C.2.1 dX10_isLess_14 (lv_at hl 0 rfl) ?_
  refine lv_lload C.1 C.2.1 dX10_isLess_16 (lv_at hl 1 rfl) ?_
  obtain ⟨g1, hf⟩ := grd_e hf
  refine j_ldiv C g1 dX10_isLess_18 ?_
  refine lv_lload C.1 C.2.1 dX10_isLess_19 (lv_at hl 2 rfl) ?_
  refine lv_lload C.1 C.2.1 dX10_isLess_21 (lv_at hl 3 rfl) ?_
  obtain ⟨g2, hf⟩ := grd_e hf
  refine j_ldiv C g2 dX10_isLess_23 ?_
  refine j_lcmp_ne (tgt := 87) C rfl rfl dX10_isLess_24 dX10_isLess_25 (by decide) (fun c3 => ?_) (fun c3 => ?_)
  · have hf := (if_neg c3).symm.trans hf
    exact kx0 _ (som_e hf).symm _ _ _ hO (lv_sub hl [0, 1, 2, 3] rfl)
  · have hf := (if_pos c3).symm.trans hf
    refine lv_lload C.1 C.2.1 dX10_isLess_28 (lv_at hl 0 rfl) ?_
    refine lv_lload C.1 C.2.1 dX10_isLess_30 (lv_at hl 1 rfl) ?_
    obtain ⟨g4, hf⟩ := grd_e hf
    refine j_lrem C g4 dX10_isLess_32 ?_
    refine lv_lstore (lv' := [(8, vL ((w64 S.1).tmod (w64 S.2.1))), (10, vL S.2.1), (12, vL S.2.2.1), (14, vL S.2.2.2)]) C.1 C.2.1 dX10_isLess_33 hl (by decide) rfl (fun ls hl => ?_)
    refine lv_lload C.1 C.2.1 dX10_isLess_35 (lv_at hl 2 rfl) ?_
    refine lv_lload C.1 C.2.1 dX10_isLess_37 (lv_at hl 3 rfl) ?_
    obtain ⟨g5, hf⟩ := grd_e hf
    refine j_lrem C g5 dX10_isLess_39 ?_
    refine lv_lstore (lv' := [(12, vL ((w64 S.2.2.1).tmod (w64 S.2.2.2))), (8, vL ((w64 S.1).tmod (w64 S.2.1))), (10, vL S.2.1), (14, vL S.2.2.2)]) C.1 C.2.1 dX10_isLess_40 hl (by decide) rfl (fun ls hl => ?_)
    refine lv_lload C.1 C.2.1 dX10_isLess_42 (lv_at hl 0 rfl) ?_
    refine lv_lconst (v := Int64.ofInt 0) C.1 C.2.1 dX10_isLess_44 (by decide) ?_
    refine j_lcmp_ne (tgt := 51) C rfl (w64_id (by decide) (by decide)) dX10_isLess_45 dX10_isLess_46 (by decide) (fun c6 => ?_) (fun c6 => ?_)
    · have hf := (if_neg c6).symm.trans hf
      refine lv_lload C.1 C.2.1 dX10_isLess_51 (lv_at hl 1 rfl) ?_
      refine lv_lconst (v := Int64.ofInt 0) C.1 C.2.1 dX10_isLess_53 (by decide) ?_
      refine j_lcmp_ne (tgt := 60) C rfl (w64_id (by decide) (by decide)) dX10_isLess_54 dX10_isLess_55 (by decide) (fun c7 => ?_) (fun c7 => ?_)
      · have hf := (if_neg c7).symm.trans hf
        refine lv_lload C.1 C.2.1 dX10_isLess_60 (lv_at hl 1 rfl) ?_
        refine lv_lstore (lv' := [(16, vL ((w64 S.1).tmod (w64 S.2.1))), (12, vL ((w64 S.2.2.1).tmod (w64 S.2.2.2))), (8, vL ((w64 S.1).tmod (w64 S.2.1))), (10, vL S.2.1), (14, vL S.2.2.2)]) C.1 C.2.1 dX10_isLess_62 hl (by decide) rfl (fun ls hl => ?_)
        refine lv_lload C.1 C.2.1 dX10_isLess_64 (lv_at hl 3 rfl) ?_
        refine lv_lstore (lv' := [(18, vL S.2.1), (16, vL ((w64 S.1).tmod (w64 S.2.1))), (12, vL ((w64 S.2.2.1).tmod (w64 S.2.2.2))), (8, vL ((w64 S.1).tmod (w64 S.2.1))), (10, vL S.2.1), (14, vL S.2.2.2)]) C.1 C.2.1 dX10_isLess_66 hl (by decide) rfl (fun ls hl => ?_)
        refine lv_lload C.1 C.2.1 dX10_isLess_68 (lv_at hl 5 rfl) ?_
        refine lv_lstore (lv' := [(8, vL S.2.2.2), (18, vL S.2.1), (16, vL ((w64 S.1).tmod (w64 S.2.1))), (12, vL ((w64 S.2.2.1).tmod (w64 S.2.2.2))), (10, vL S.2.1), (14, vL S.2.2.2)]) C.1 C.2.1 dX10_isLess_70 hl (by decide) rfl (fun ls hl => ?_)
        refine lv_lload C.1 C.2.1 dX10_isLess_72 (lv_at hl 3 rfl) ?_
        refine lv_lstore (lv' := [(10, vL ((w64 S.2.2.1).tmod (w64 S.2.2.2))), (8, vL S.2.2.2), (18, vL S.2.1), (16, vL ((w64 S.1).tmod (w64 S.2.1))), (12, vL ((w64 S.2.2.1).tmod (w64 S.2.2.2))), (14, vL S.2.2.2)]) C.1 C.2.1 dX10_isLess_74 hl (by decide) rfl (fun ls hl => ?_)
        refine lv_lload C.1 C.2.1 dX10_isLess_76 (lv_at hl 2 rfl) ?_
        refine lv_lstore (lv' := [(12, vL S.2.1), (10, vL ((w64 S.2.2.1).tmod (w64 S.2.2.2))), (8, vL S.2.2.2), (18, vL S.2.1), (16, vL ((w64 S.1).tmod (w64 S.2.1))), (14, vL S.2.2.2)]) C.1 C.2.1 dX10_isLess_78 hl (by decide) rfl (fun ls hl => ?_)
        refine lv_lload C.1 C.2.1 dX10_isLess_80 (lv_at hl 4 rfl) ?_
        refine lv_lstore (lv' := [(14, vL ((w64 S.1).tmod (w64 S.2.1))), (12, vL S.2.1), (10, vL ((w64 S.2.2.1).tmod (w64 S.2.2.2))), (8, vL S.2.2.2), (18, vL S.2.1), (16, vL ((w64 S.1).tmod (w64 S.2.1)))]) C.1 C.2.1 dX10_isLess_82 hl (by decide) rfl (fun ls hl => ?_)
        refine lv_goto (tgt := 14) C.1 C.2.1 dX10_isLess_84 (by decide) ?_
        exact kc _ (som_e hf).symm _ _ _ hO (lv_sub hl [3, 2, 1, 0] rfl)
      · have hf := (if_pos c7).symm.trans hf
        exact kx2 _ (som_e hf).symm _ _ _ hO (lv_sub hl [] rfl)
    · have hf := (if_pos c6).symm.trans hf
      exact kx1 _ (som_e hf).symm _ _ _ hO (lv_sub hl [] rfl)
set_option maxHeartbeats 4000000 in
theorem w_X10_isLess {p : Program} {l : Launch} {e : Env} {R : Room} {s : State} {m : MethodId} {args : Array Value} {below : List Frame} {meth : Method} {c : Code} {H : Heap} {locs : List Loc} {ls : Array Slot} {G : jG}  (C : jCx p s m args meth c cX10_isLess 20 RX10 (Cond.code yX10_isLess cX10_isLess 20 (some .boolean)) (some .boolean)) (hRf : 0 ≤ R.frames) (hRl : 0 ≤ R.locals)  (M : jM) (l0 l2 l4 l6 : Int) {fin : Int} (hf : f_X10_isLess M l0 l2 l4 l6 = some fin) (hO : jOk G M s H locs) (hl : lv_has ls 20 [(0, vL l0), (2, vL l2), (4, vL l4), (6, vL l6)]) : W p l e R s m args below meth c H locs 0 0 (MQ below (jQ G (some (vI fin)) M) args s 0 0 (jA G)) (F0 m 0 ls []) := by
  unfold f_X10_isLess at hf
  refine lv_lload_n C.1 C.2.1 dX10_isLess_0 rfl (lv_at hl 0 rfl) ?_
  refine lv_lstore (lv' := [(8, vL l0), (0, vL l0), (2, vL l2), (4, vL l4), (6, vL l6)]) C.1 C.2.1 dX10_isLess_1 hl (by decide) rfl (fun ls hl => ?_)
  refine lv_lload_n C.1 C.2.1 dX10_isLess_3 rfl (lv_at hl 2 rfl) ?_
  refine lv_lstore (lv' := [(10, vL l2), (8, vL l0), (0, vL l0), (2, vL l2), (4, vL l4), (6, vL l6)]) C.1 C.2.1 dX10_isLess_4 hl (by decide) rfl (fun ls hl => ?_)
  refine lv_lload C.1 C.2.1 dX10_isLess_6 (lv_at hl 4 rfl) ?_
  refine lv_lstore (lv' := [(12, vL l4), (10, vL l2), (8, vL l0), (0, vL l0), (2, vL l2), (4, vL l4), (6, vL l6)]) C.1 C.2.1 dX10_isLess_8 hl (by decide) rfl (fun ls hl => ?_)
  refine lv_lload C.1 C.2.1 dX10_isLess_10 (lv_at hl 6 rfl) ?_
  refine lv_lstore (lv' := [(14, vL l6), (12, vL l4), (10, vL l2), (8, vL l0), (0, vL l0), (2, vL l2), (4, vL l4), (6, vL l6)]) C.1 C.2.1 dX10_isLess_12 hl (by decide) rfl (fun ls hl => ?_)
  obtain ⟨x8, hx8, hf⟩ := bnd_e hf
  refine iter_e (P := fun Z => ∀ (H : Heap) (locs : List Loc) (ls : Array Slot), jOk G M s H locs → lv_has ls 20 [(8, vL Z.1), (10, vL Z.2.1), (12, vL Z.2.2.1), (14, vL Z.2.2.2)] → W p l e R s m args below meth c H locs 0 0 (MQ below (jQ G (some (vI fin)) M) args s 0 0 (jA G)) (F0 m 14 ls [])) (E := fun x => (∀ q : Int × Int × Int × Int, x = (.inl q) → ∀ (H : Heap) (locs : List Loc) (ls : Array Slot), jOk G M s H locs → lv_has ls 20 [(8, vL q.1), (10, vL q.2.1), (12, vL q.2.2.1), (14, vL q.2.2.2)] → W p l e R s m args below meth c H locs 0 0 (MQ below (jQ G (some (vI fin)) M) args s 0 0 (jA G)) (F0 m 87 ls [])) ∧ (∀ q : Unit, x = (.inr (.inl q)) → ∀ (H : Heap) (locs : List Loc) (ls : Array Slot), jOk G M s H locs → lv_has ls 20 [] → W p l e R s m args below meth c H locs 0 0 (MQ below (jQ G (some (vI fin)) M) args s 0 0 (jA G)) (F0 m 49 ls [])) ∧ (∀ q : Unit, x = (.inr (.inr q)) → ∀ (H : Heap) (locs : List Loc) (ls : Array Slot), jOk G M s H locs → lv_has ls 20 [] → W p l e R s m args below meth c H locs 0 0 (MQ below (jQ G (some (vI fin)) M) args s 0 0 (jA G)) (F0 m 58 ls []))) (fun Z rr hb kc kx H locs ls hO hl => w_X10_isLess_L14 C hRf hRl M   Z hb kc (fun q e => (kx _ e).1 q rfl) (fun q e => (kx _ e).2.1 q rfl) (fun q e => (kx _ e).2.2 q rfl) hO hl) 5000 (l0, l2, l4, l6) x8 hx8 ?_ _ _ _ hO (lv_sub hl [3, 2, 1, 0] rfl)
  clear hO hl
  refine ⟨?_, ?_, ?_⟩
  · intro q9 eq9 H locs ls hO hl
    subst eq9
    have hf := sel_l hf
    refine lv_lload C.1 C.2.1 dX10_isLess_87 (lv_at hl 0 rfl) ?_
    refine lv_lload C.1 C.2.1 dX10_isLess_89 (lv_at hl 1 rfl) ?_
    obtain ⟨g10, hf⟩ := grd_e hf
    refine j_ldiv C g10 dX10_isLess_91 ?_
    refine lv_lload C.1 C.2.1 dX10_isLess_92 (lv_at hl 2 rfl) ?_
    refine lv_lload C.1 C.2.1 dX10_isLess_94 (lv_at hl 3 rfl) ?_
    obtain ⟨g11, hf⟩ := grd_e hf
    refine j_ldiv C g11 dX10_isLess_96 ?_
    refine j_lcmp_ge (tgt := 105) C rfl rfl dX10_isLess_97 dX10_isLess_98 (by decide) (fun c12 => ?_) (fun c12 => ?_)
    · have hf := (if_pos c12).symm.trans hf
      refine lv_iconst (v := Int32.ofInt 0) C.1 C.2.1 dX10_isLess_105 rfl ?_
      have hf := som_e hf
      subst hf
      exact j_zret C hO (Or.inl rfl) dX10_isLess_106
    · have hf := (if_neg c12).symm.trans hf
      refine lv_iconst (v := Int32.ofInt 1) C.1 C.2.1 dX10_isLess_101 rfl ?_
      refine lv_goto (tgt := 106) C.1 C.2.1 dX10_isLess_102 (by decide) ?_
      have hf := som_e hf
      subst hf
      exact j_zret C hO (Or.inr rfl) dX10_isLess_106
  · intro q13 eq13 H locs ls hO hl
    subst eq13
    have hf := sel_r hf
    have hf := sel_l hf
    refine lv_iconst (v := Int32.ofInt 0) C.1 C.2.1 dX10_isLess_49 rfl ?_
    have hf := som_e hf
    subst hf
    exact j_zret C hO (Or.inl rfl) dX10_isLess_50
  · intro q14 eq14 H locs ls hO hl
    subst eq14
    have hf := sel_r hf
    have hf := sel_r hf
    refine lv_iconst (v := Int32.ofInt 1) C.1 C.2.1 dX10_isLess_58 rfl ?_
    have hf := som_e hf
    subst hf
    exact j_zret C hO (Or.inr rfl) dX10_isLess_59
set_option maxHeartbeats 1000000 in
theorem c_X10_isLess (l : Launch) (G : jG)  (M : jM) (l0 l2 l4 l6 : Int) {fin : Int} (h : f_X10_isLess M l0 l2 l4 l6 = some fin) : Met l yX10_isLess (Cond.code yX10_isLess cX10_isLess 20 (some .boolean) :: wsL_law) ({ frames := 0, cells := 0, slots := 0, locals := 0 } : Room) (va_Pc [vL l0, vL l2, vL l4, vL l6] (fun U => jRep G M U)) (jQ G (some (vI fin)) M) 0 0 (jA G) := by
  refine Met.ofW (cc := cX10_isLess) (maxL := 20) (ret := (some .boolean)) (by decide) rfl ?_
  intro p e s m args below meth c s₁ B hml hv
  obtain ⟨rfl, hR0⟩ := hv
  have C : jCx p s m ([vL l0, vL l2, vL l4, vL l6] : List Value).toArray meth c cX10_isLess 20 RX10 (Cond.code yX10_isLess cX10_isLess 20 (some .boolean)) (some .boolean) := ⟨B.exec, B.bytes, hml, findClass_of_methodNamed B.named, atoms_spec B.pre, B.returns, B.notSynchronized⟩
  have hO := hR0.ok
  have hl := lv_entry ([vL l0, vL l2, vL l4, vL l6]) (n := 20) (Nat.le_of_ble_eq_true rfl)
  rw [lg_entry_eq]
  generalize (lg_sl ([vL l0, vL l2, vL l4, vL l6]) ++ List.replicate (20 - (lg_sl ([vL l0, vL l2, vL l4, vL l6])).length) Slot.unset).toArray = ls at hl ⊢
  have hl : lv_has ls 20 [(0, vL l0), (2, vL l2), (4, vL l4), (6, vL l6)] := hl
  exact w_X10_isLess C (Nat.le_refl _) (Nat.le_refl _) M l0 l2 l4 l6  h hO hl
set_option maxHeartbeats 4000000 in
theorem w_X10_copies_43 {p : Program} {l : Launch} {e : Env} {R : Room} {s : State} {m : MethodId} {args : Array Value} {below : List Frame} {meth : Method} {c : Code} {H : Heap} {locs : List Loc} {ls : Array Slot} {G : jG}  (C : jCx p s m args meth c cX10_copies 5 RX10 (Cond.code yX10_copies cX10_copies 5 none) none) (hRf : 0 ≤ R.frames) (hRl : 0 ≤ R.locals)  (M : jM) (l0 l1 l2 l3 l4 s0 s1 s2 : Int) (h0 : jkd l0 = (10, 0)) (g0 : jkd s0 = (11, 952)) {fin : jM} {rr : (jM × Int) ⊕ jM} (hf : f_X10_copies_43 M l0 l1 l2 l3 l4 s0 s1 s2 = some rr) (kc : ∀ q : jM × Int, rr = .inl q → ∀ (H : Heap) (locs : List Loc) (ls : Array Slot), jOk G q.1 s H locs → lv_has ls 5 [(0, jR G l0), (1, vI l1), (2, vI l2), (3, vI l3), (4, vI q.2)] → W p l e R s m args below meth c H locs 0 0 (MQ below (jQ G none fin) args s 0 0 (jA G)) (F0 m 3 ls [])) (kx0 : ∀ q : jM, rr = .inr q → ∀ (H : Heap) (locs : List Loc) (ls : Array Slot), jOk G q s H locs → lv_has ls 5 [(0, jR G l0), (2, vI l2), (3, vI l3)] → W p l e R s m args below meth c H locs 0 0 (MQ below (jQ G none fin) args s 0 0 (jA G)) (F0 m 50 ls [])) (hO : jOk G M s H locs) (hl : lv_has ls 5 [(0, jR G l0), (1, vI l1), (2, vI l2), (3, vI l3), (4, vI l4)]) : W p l e R s m args below meth c H locs 0 0 (MQ below (jQ G none fin) args s 0 0 (jA G)) (F0 m 43 ls [vI s2, vI s1, jR G s0]) := by
  unfold f_X10_copies_43 at hf
  obtain ⟨g3, hf⟩ := grd_e hf
  obtain ⟨M4, hM4, hf⟩ := lt1_e hf
  refine j_iast C hO (x := s2) g0 rfl g3.1 g3.2 dX10_copies_43 (fun H locs hO => ?_)
  rw [← hM4] at hO
  refine lv_iinc (v := Int32.ofInt (l4 + 1)) (lv' := [(4, vI (l4 + 1)), (0, jR G l0), (1, vI l1), (2, vI l2), (3, vI l3)]) C.1 C.2.1 dX10_copies_44 hl (k := 4) rfl (Int32.ofInt_add _ _).symm (by decide) rfl (fun ls hl => ?_)
  refine lv_goto (tgt := 3) C.1 C.2.1 dX10_copies_47 (by decide) ?_
  exact kc _ (som_e hf).symm _ _ _ hO (lv_sub hl [1, 2, 3, 4, 0] rfl)
set_option maxHeartbeats 4000000 in
theorem w_X10_copies_L3 {p : Program} {l : Launch} {e : Env} {R : Room} {s : State} {m : MethodId} {args : Array Value} {below : List Frame} {meth : Method} {c : Code} {H : Heap} {locs : List Loc} {ls : Array Slot} {G : jG}  (C : jCx p s m args meth c cX10_copies 5 RX10 (Cond.code yX10_copies cX10_copies 5 none) none) (hRf : 0 ≤ R.frames) (hRl : 0 ≤ R.locals)  (M : jM) (l0 l1 l2 l3 : Int) (h0 : jkd l0 = (10, 0)) {fin : jM} (S : jM × Int) {rr : (jM × Int) ⊕ jM} (hf : f_X10_copies_L3 M l0 l1 l2 l3 S = some rr) (kc : ∀ q : jM × Int, rr = .inl q → ∀ (H : Heap) (locs : List Loc) (ls : Array Slot), jOk G q.1 s H locs → lv_has ls 5 [(0, jR G l0), (1, vI l1), (2, vI l2), (3, vI l3), (4, vI q.2)] → W p l e R s m args below meth c H locs 0 0 (MQ below (jQ G none fin) args s 0 0 (jA G)) (F0 m 3 ls [])) (kx0 : ∀ q : jM, rr = .inr q → ∀ (H : Heap) (locs : List Loc) (ls : Array Slot), jOk G q s H locs → lv_has ls 5 [(0, jR G l0), (2, vI l2), (3, vI l3)] → W p l e R s m args below meth c H locs 0 0 (MQ below (jQ G none fin) args s 0 0 (jA G)) (F0 m 50 ls [])) (hO : jOk G S.1 s H locs) (hl : lv_has ls 5 [(0, jR G l0), (1, vI l1), (2, vI l2), (3, vI l3), (4, vI S.2)]) : W p l e R s m args below meth c H locs 0 0 (MQ below (jQ G none fin) args s 0 0 (jA G)) (F0 m 3 ls []) := by
  unfold f_X10_copies_L3 at hf
  refine lv_iload C.1 C.2.1 dX10_copies_3 (lv_at hl 4 rfl) ?_
  refine lv_bipush (v := Int32.ofInt 6) C.1 C.2.1 dX10_copies_5 (by decide) ?_
  refine j_icmp_ge (tgt := 50) C rfl (w32_id (by decide) (by decide)) dX10_copies_7 (by decide) (fun c1 => ?_) (fun c1 => ?_)
  · have hf := (if_pos c1).symm.trans hf
    exact kx0 _ (som_e hf).symm _ _ _ hO (lv_sub hl [0, 2, 3] rfl)
  · have hf := (if_neg c1).symm.trans hf
    refine lv_aload_n C.1 C.2.1 dX10_copies_10 rfl (lv_at hl 0 rfl) ?_
    refine j_get C hO (ci := 10) (k := 1) (v := jR G (jpt l0 1)) h0 rfl inlX10 (by decide) kF_5_23 rfl rfl dX10_copies_11 ?_
    refine lv_bipush (v := Int32.ofInt 10) C.1 C.2.1 dX10_copies_14 (by decide) ?_
    refine lv_bipush (v := Int32.ofInt 6) C.1 C.2.1 dX10_copies_16 (by decide) ?_
    refine lv_iload_n C.1 C.2.1 dX10_copies_18 rfl (lv_at hl 3 rfl) ?_
    refine j_imul C dX10_copies_19 ?_
    refine j_iadd C dX10_copies_20 ?_
    refine lv_iload C.1 C.2.1 dX10_copies_21 (lv_at hl 4 rfl) ?_
    refine j_iadd C dX10_copies_23 ?_
    refine lv_iload C.1 C.2.1 dX10_copies_24 (lv_at hl 4 rfl) ?_
    refine lv_iload_n C.1 C.2.1 dX10_copies_26 rfl (lv_at hl 2 rfl) ?_
    refine j_icmp_ge (tgt := 42) C rfl rfl dX10_copies_27 (by decide) (fun c2 => ?_) (fun c2 => ?_)
    · have hf := (if_pos c2).symm.trans hf
      refine lv_iconst (v := Int32.ofInt 0) C.1 C.2.1 dX10_copies_42 rfl ?_
      exact w_X10_copies_43 C hRf hRl S.1 l0 l1 l2 l3 S.2 (jpt l0 1) ((10 + (6 * l3)) + S.2) 0 h0 (tp_10_1 h0) hf kc kx0 hO (lv_sub hl [0, 1, 2, 3, 4] rfl)
    · have hf := (if_neg c2).symm.trans hf
      refine lv_aload_n C.1 C.2.1 dX10_copies_30 rfl (lv_at hl 0 rfl) ?_
      refine j_get C hO (ci := 10) (k := 1) (v := jR G (jpt l0 1)) h0 rfl inlX10 (by decide) kF_5_23 rfl rfl dX10_copies_31 ?_
      refine lv_iload_n C.1 C.2.1 dX10_copies_34 rfl (lv_at hl 1 rfl) ?_
      refine lv_iload C.1 C.2.1 dX10_copies_35 (lv_at hl 4 rfl) ?_
      refine j_iadd C dX10_copies_37 ?_
      obtain ⟨g5, hf⟩ := grd_e hf
      refine j_iald C hO (tp_10_1 h0) rfl g5.1 g5.2 dX10_copies_38 ?_
      refine lv_goto (tgt := 43) C.1 C.2.1 dX10_copies_39 (by decide) ?_
      exact w_X10_copies_43 C hRf hRl S.1 l0 l1 l2 l3 S.2 (jpt l0 1) ((10 + (6 * l3)) + S.2) (S.1 (jpt l0 1) (w32 (l1 + S.2))) h0 (tp_10_1 h0) hf kc kx0 hO (lv_sub hl [0, 1, 2, 3, 4] rfl)
set_option maxHeartbeats 4000000 in
theorem w_X10_copies {p : Program} {l : Launch} {e : Env} {R : Room} {s : State} {m : MethodId} {args : Array Value} {below : List Frame} {meth : Method} {c : Code} {H : Heap} {locs : List Loc} {ls : Array Slot} {G : jG}  (C : jCx p s m args meth c cX10_copies 5 RX10 (Cond.code yX10_copies cX10_copies 5 none) none) (hRf : 0 ≤ R.frames) (hRl : 0 ≤ R.locals)  (M : jM) (l0 l1 l2 l3 : Int) (h0 : jkd l0 = (10, 0)) {fin : jM} (hf : f_X10_copies M l0 l1 l2 l3 = some fin) (hO : jOk G M s H locs) (hl : lv_has ls 5 [(0, jR G l0), (1, vI l1), (2, vI l2), (3, vI l3)]) : W p l e R s m args below meth c H locs 0 0 (MQ below (jQ G none fin) args s 0 0 (jA G)) (F0 m 0 ls []) := by
  unfold f_X10_copies at hf
  refine lv_iconst (v := Int32.ofInt 0) C.1 C.2.1 dX10_copies_0 rfl ?_
  refine lv_istore (lv' := [(4, vI 0), (0, jR G l0), (1, vI l1), (2, vI l2), (3, vI l3)]) C.1 C.2.1 dX10_copies_1 hl (by decide) rfl (fun ls hl => ?_)
  obtain ⟨x6, hx6, hf⟩ := bnd_e hf
  refine iter_e (P := fun Z => ∀ (H : Heap) (locs : List Loc) (ls : Array Slot), jOk G Z.1 s H locs → lv_has ls 5 [(0, jR G l0), (1, vI l1), (2, vI l2), (3, vI l3), (4, vI Z.2)] → W p l e R s m args below meth c H locs 0 0 (MQ below (jQ G none fin) args s 0 0 (jA G)) (F0 m 3 ls [])) (E := fun q => ∀ (H : Heap) (locs : List Loc) (ls : Array Slot), jOk G q s H locs → lv_has ls 5 [(0, jR G l0), (2, vI l2), (3, vI l3)] → W p l e R s m args below meth c H locs 0 0 (MQ below (jQ G none fin) args s 0 0 (jA G)) (F0 m 50 ls [])) (fun Z rr hb kc kx H locs ls hO hl => w_X10_copies_L3 C hRf hRl M l0 l1 l2 l3 h0 Z hb kc (fun q e => kx q e) hO hl) 5000 (M, 0) x6 hx6 ?_ _ _ _ hO (lv_sub hl [1, 2, 3, 4, 0] rfl)
  clear hO hl
  intro H locs ls hO hl
  refine lv_aload_n C.1 C.2.1 dX10_copies_50 rfl (lv_at hl 0 rfl) ?_
  refine j_get C hO (ci := 10) (k := 1) (v := jR G (jpt l0 1)) h0 rfl inlX10 (by decide) kF_5_23 rfl rfl dX10_copies_51 ?_
  refine lv_bipush (v := Int32.ofInt 58) C.1 C.2.1 dX10_copies_54 (by decide) ?_
  refine lv_iload_n C.1 C.2.1 dX10_copies_56 rfl (lv_at hl 2 rfl) ?_
  refine j_iadd C dX10_copies_57 ?_
  refine lv_iload_n C.1 C.2.1 dX10_copies_58 rfl (lv_at hl 1 rfl) ?_
  obtain ⟨g7, hf⟩ := grd_e hf
  obtain ⟨M8, hM8, hf⟩ := lt1_e hf
  refine j_iast C hO (x := l2) (tp_10_1 h0) rfl g7.1 g7.2 dX10_copies_59 (fun H locs hO => ?_)
  rw [← hM8] at hO
  have hf := som_e hf
  subst hf
  exact j_vret C hO dX10_copies_60
set_option maxHeartbeats 1000000 in
theorem c_X10_copies (l : Launch) (G : jG)  (M : jM) (l0 l1 l2 l3 : Int) (h0 : jkd l0 = (10, 0)) {fin : jM} (h : f_X10_copies M l0 l1 l2 l3 = some fin) : Met l yX10_copies (Cond.code yX10_copies cX10_copies 5 none :: wsL_law) ({ frames := 0, cells := 0, slots := 0, locals := 0 } : Room) (va_Pc [jR G l0, vI l1, vI l2, vI l3] (fun U => jRep G M U)) (jQ G none fin) 0 0 (jA G) := by
  refine Met.ofW (cc := cX10_copies) (maxL := 5) (ret := none) (by decide) rfl ?_
  intro p e s m args below meth c s₁ B hml hv
  obtain ⟨rfl, hR0⟩ := hv
  have C : jCx p s m ([jR G l0, vI l1, vI l2, vI l3] : List Value).toArray meth c cX10_copies 5 RX10 (Cond.code yX10_copies cX10_copies 5 none) none := ⟨B.exec, B.bytes, hml, findClass_of_methodNamed B.named, atoms_spec B.pre, B.returns, B.notSynchronized⟩
  have hO := hR0.ok
  have hl := lv_entry ([jR G l0, vI l1, vI l2, vI l3]) (n := 5) (Nat.le_of_ble_eq_true rfl)
  rw [lg_entry_eq]
  generalize (lg_sl ([jR G l0, vI l1, vI l2, vI l3]) ++ List.replicate (5 - (lg_sl ([jR G l0, vI l1, vI l2, vI l3])).length) Slot.unset).toArray = ls at hl ⊢
  have hl : lv_has ls 5 [(0, jR G l0), (1, vI l1), (2, vI l2), (3, vI l3)] := hl
  exact w_X10_copies C (Nat.le_refl _) (Nat.le_refl _) M l0 l1 l2 l3 h0 h hO hl
set_option maxHeartbeats 4000000 in
theorem w_X10_rowsOf_L4 {p : Program} {l : Launch} {e : Env} {R : Room} {s : State} {m : MethodId} {args : Array Value} {below : List Frame} {meth : Method} {c : Code} {H : Heap} {locs : List Loc} {ls : Array Slot} {G : jG}  (C : jCx p s m args meth c cX10_rowsOf 4 RX10 (Cond.code yX10_rowsOf cX10_rowsOf 4 (some .int)) (some .int)) (hRf : 2 ≤ R.frames) (hRl : 42 ≤ R.locals)  (M : jM) (l0 l1 : Int) (h0 : jkd l0 = (10, 0)) {fin : Int} (S : Int × Int) {rr : (Int × Int) ⊕ Int} (hf : f_X10_rowsOf_L4 M l0 l1 S = some rr) (kc : ∀ q : Int × Int, rr = .inl q → ∀ (H : Heap) (locs : List Loc) (ls : Array Slot), jOk G M s H locs → lv_has ls 4 [(0, jR G l0), (1, vI l1), (2, vI q.1), (3, vI q.2)] → W p l e R s m args below meth c H locs 0 0 (MQ below (jQ G (some (vI fin)) M) args s 0 0 (jA G)) (F0 m 4 ls [])) (kx0 : ∀ q : Int, rr = .inr q → ∀ (H : Heap) (locs : List Loc) (ls : Array Slot), jOk G M s H locs → lv_has ls 4 [(2, vI q)] → W p l e R s m args below meth c H locs 0 0 (MQ below (jQ G (some (vI fin)) M) args s 0 0 (jA G)) (F0 m 22 ls [])) (hO : jOk G M s H locs) (hl : lv_has ls 4 [(0, jR G l0), (1, vI l1), (2, vI S.1), (3, vI S.2)]) : W p l e R s m args below meth c H locs 0 0 (MQ below (jQ G (some (vI fin)) M) args s 0 0 (jA G)) (F0 m 4 ls []) := by
  unfold f_X10_rowsOf_L4 at hf
  refine lv_iload_n C.1 C.2.1 dX10_rowsOf_4 rfl (lv_at hl 3 rfl) ?_
  refine lv_iload_n C.1 C.2.1 dX10_rowsOf_5 rfl (lv_at hl 1 rfl) ?_
  refine j_icmp_ge (tgt := 22) C rfl rfl dX10_rowsOf_6 (by decide) (fun c1 => ?_) (fun c1 => ?_)
  · have hf := (if_pos c1).symm.trans hf
    exact kx0 _ (som_e hf).symm _ _ _ hO (lv_sub hl [2] rfl)
  · have hf := (if_neg c1).symm.trans hf
    refine lv_iload_n C.1 C.2.1 dX10_rowsOf_9 rfl (lv_at hl 2 rfl) ?_
    refine lv_aload_n C.1 C.2.1 dX10_rowsOf_10 rfl (lv_at hl 0 rfl) ?_
    obtain ⟨r2, hr2, hf⟩ := bnd_e hf
    refine j_callV C hO (n := 0) (As := []) (st1 := [vI r2, vI S.1]) (c_X10_signs l G M l0 h0 hr2) h0 rfl kC_16_17 kM_16_14 kI_16_15 kS_16_16 kN_1_5 ⟨by decide, by decide, by decide⟩ ⟨Nat.le_trans (by decide) hRf, Nat.le_trans (by decide) hRl⟩ rfl rfl rfl hl.1 rfl (Nat.le_of_ble_eq_true rfl) ⟨Nat.zero_le _, Nat.zero_le _⟩ dX10_rowsOf_11 rfl (fun H locs hO => ?_)
    refine j_imul C dX10_rowsOf_14 ?_
    refine lv_istore_n (lv' := [(2, vI (S.1 * r2)), (0, jR G l0), (1, vI l1), (3, vI S.2)]) C.1 C.2.1 dX10_rowsOf_15 rfl hl (by decide) rfl (fun ls hl => ?_)
    refine lv_iinc (v := Int32.ofInt (S.2 + 1)) (lv' := [(3, vI (S.2 + 1)), (2, vI (S.1 * r2)), (0, jR G l0), (1, vI l1)]) C.1 C.2.1 dX10_rowsOf_16 hl (k := 3) rfl (Int32.ofInt_add _ _).symm (by decide) rfl (fun ls hl => ?_)
    refine lv_goto (tgt := 4) C.1 C.2.1 dX10_rowsOf_19 (by decide) ?_
    exact kc _ (som_e hf).symm _ _ _ hO (lv_sub hl [2, 3, 1, 0] rfl)
set_option maxHeartbeats 4000000 in
theorem w_X10_rowsOf {p : Program} {l : Launch} {e : Env} {R : Room} {s : State} {m : MethodId} {args : Array Value} {below : List Frame} {meth : Method} {c : Code} {H : Heap} {locs : List Loc} {ls : Array Slot} {G : jG}  (C : jCx p s m args meth c cX10_rowsOf 4 RX10 (Cond.code yX10_rowsOf cX10_rowsOf 4 (some .int)) (some .int)) (hRf : 2 ≤ R.frames) (hRl : 42 ≤ R.locals)  (M : jM) (l0 l1 : Int) (h0 : jkd l0 = (10, 0)) {fin : Int} (hf : f_X10_rowsOf M l0 l1 = some fin) (hO : jOk G M s H locs) (hl : lv_has ls 4 [(0, jR G l0), (1, vI l1)]) : W p l e R s m args below meth c H locs 0 0 (MQ below (jQ G (some (vI fin)) M) args s 0 0 (jA G)) (F0 m 0 ls []) := by
  unfold f_X10_rowsOf at hf
  refine lv_iconst (v := Int32.ofInt 1) C.1 C.2.1 dX10_rowsOf_0 rfl ?_
  refine lv_istore_n (lv' := [(2, vI 1), (0, jR G l0), (1, vI l1)]) C.1 C.2.1 dX10_rowsOf_1 rfl hl (by decide) rfl (fun ls hl => ?_)
  refine lv_iconst (v := Int32.ofInt 0) C.1 C.2.1 dX10_rowsOf_2 rfl ?_
  refine lv_istore_n (lv' := [(3, vI 0), (2, vI 1), (0, jR G l0), (1, vI l1)]) C.1 C.2.1 dX10_rowsOf_3 rfl hl (by decide) rfl (fun ls hl => ?_)
  obtain ⟨x3, hx3, hf⟩ := bnd_e hf
  refine iter_e (P := fun Z => ∀ (H : Heap) (locs : List Loc) (ls : Array Slot), jOk G M s H locs → lv_has ls 4 [(0, jR G l0), (1, vI l1), (2, vI Z.1), (3, vI Z.2)] → W p l e R s m args below meth c H locs 0 0 (MQ below (jQ G (some (vI fin)) M) args s 0 0 (jA G)) (F0 m 4 ls [])) (E := fun q => ∀ (H : Heap) (locs : List Loc) (ls : Array Slot), jOk G M s H locs → lv_has ls 4 [(2, vI q)] → W p l e R s m args below meth c H locs 0 0 (MQ below (jQ G (some (vI fin)) M) args s 0 0 (jA G)) (F0 m 22 ls [])) (fun Z rr hb kc kx H locs ls hO hl => w_X10_rowsOf_L4 C hRf hRl M l0 l1 h0 Z hb kc (fun q e => kx q e) hO hl) 5000 (1, 0) x3 hx3 ?_ _ _ _ hO (lv_sub hl [2, 3, 1, 0] rfl)
  clear hO hl
  intro H locs ls hO hl
  refine lv_iload_n C.1 C.2.1 dX10_rowsOf_22 rfl (lv_at hl 0 rfl) ?_
  have hf := som_e hf
  subst hf
  exact j_iret C hO dX10_rowsOf_23
set_option maxHeartbeats 1000000 in
theorem c_X10_rowsOf (l : Launch) (G : jG)  (M : jM) (l0 l1 : Int) (h0 : jkd l0 = (10, 0)) {fin : Int} (h : f_X10_rowsOf M l0 l1 = some fin) : Met l yX10_rowsOf (Cond.code yX10_rowsOf cX10_rowsOf 4 (some .int) :: wsL_law) ({ frames := 2, cells := 0, slots := 0, locals := 42 } : Room) (va_Pc [jR G l0, vI l1] (fun U => jRep G M U)) (jQ G (some (vI fin)) M) 0 0 (jA G) := by
  refine Met.ofW (cc := cX10_rowsOf) (maxL := 4) (ret := (some .int)) (by decide) rfl ?_
  intro p e s m args below meth c s₁ B hml hv
  obtain ⟨rfl, hR0⟩ := hv
  have C : jCx p s m ([jR G l0, vI l1] : List Value).toArray meth c cX10_rowsOf 4 RX10 (Cond.code yX10_rowsOf cX10_rowsOf 4 (some .int)) (some .int) := ⟨B.exec, B.bytes, hml, findClass_of_methodNamed B.named, atoms_spec B.pre, B.returns, B.notSynchronized⟩
  have hO := hR0.ok
  have hl := lv_entry ([jR G l0, vI l1]) (n := 4) (Nat.le_of_ble_eq_true rfl)
  rw [lg_entry_eq]
  generalize (lg_sl ([jR G l0, vI l1]) ++ List.replicate (4 - (lg_sl ([jR G l0, vI l1])).length) Slot.unset).toArray = ls at hl ⊢
  have hl : lv_has ls 4 [(0, jR G l0), (1, vI l1)] := hl
  exact w_X10_rowsOf C (Nat.le_refl _) (Nat.le_refl _) M l0 l1 h0 h hO hl
set_option maxHeartbeats 4000000 in
theorem w_X10_comes_L15 {p : Program} {l : Launch} {e : Env} {R : Room} {s : State} {m : MethodId} {args : Array Value} {below : List Frame} {meth : Method} {c : Code} {H : Heap} {locs : List Loc} {ls : Array Slot} {G : jG}  (C : jCx p s m args meth c cX10_comes 5 RX10 (Cond.code yX10_comes cX10_comes 5 none) none) (hRf : 2 ≤ R.frames) (hRl : 42 ≤ R.locals)  (M : jM) (l0 : Int) (h0 : jkd l0 = (10, 0)) {fin : jM} (S : jM × Int × Int) {rr : (jM × Int × Int) ⊕ jM} (hf : f_X10_comes_L15 M l0 S = some rr) (kc : ∀ q : jM × Int × Int, rr = .inl q → ∀ (H : Heap) (locs : List Loc) (ls : Array Slot), jOk G q.1 s H locs → lv_has ls 5 [(0, jR G l0), (3, vI q.2.1), (4, vI q.2.2)] → W p l e R s m args below meth c H locs 0 0 (MQ below (jQ G none fin) args s 0 0 (jA G)) (F0 m 15 ls [])) (kx0 : ∀ q : jM, rr = .inr q → ∀ (H : Heap) (locs : List Loc) (ls : Array Slot), jOk G q s H locs → lv_has ls 5 [] → W p l e R s m args below meth c H locs 0 0 (MQ below (jQ G none fin) args s 0 0 (jA G)) (F0 m 49 ls [])) (hO : jOk G S.1 s H locs) (hl : lv_has ls 5 [(0, jR G l0), (3, vI S.2.1), (4, vI S.2.2)]) : W p l e R s m args below meth c H locs 0 0 (MQ below (jQ G none fin) args s 0 0 (jA G)) (F0 m 15 ls []) := by
  unfold f_X10_comes_L15 at hf
  refine lv_iload C.1 C.2.1 dX10_comes_15 (lv_at hl 2 rfl) ?_
  refine j_if_lt (tgt := 49) C rfl dX10_comes_17 (by decide) (fun c2 => ?_) (fun c2 => ?_)
  · have hf := (if_pos c2).symm.trans hf
    exact kx0 _ (som_e hf).symm _ _ _ hO (lv_sub hl [] rfl)
  · have hf := (if_neg c2).symm.trans hf
    refine lv_aload_n C.1 C.2.1 dX10_comes_20 rfl (lv_at hl 0 rfl) ?_
    refine j_get C hO (ci := 10) (k := 1) (v := jR G (jpt l0 1)) h0 rfl inlX10 (by decide) kF_5_23 rfl rfl dX10_comes_21 ?_
    refine lv_bipush (v := Int32.ofInt 52) C.1 C.2.1 dX10_comes_24 (by decide) ?_
    refine lv_iload C.1 C.2.1 dX10_comes_26 (lv_at hl 2 rfl) ?_
    refine j_iadd C dX10_comes_28 ?_
    refine lv_iload_n C.1 C.2.1 dX10_comes_29 rfl (lv_at hl 1 rfl) ?_
    refine lv_aload_n C.1 C.2.1 dX10_comes_30 rfl (lv_at hl 0 rfl) ?_
    obtain ⟨r3, hr3, hf⟩ := bnd_e hf
    refine j_callV C hO (n := 0) (As := []) (st1 := [vI r3, vI S.2.1, vI (52 + S.2.2), jR G (jpt l0 1)]) (c_X10_signs l G S.1 l0 h0 hr3) h0 rfl kC_16_17 kM_16_14 kI_16_15 kS_16_16 kN_1_5 ⟨by decide, by decide, by decide⟩ ⟨Nat.le_trans (by decide) hRf, Nat.le_trans (by decide) hRl⟩ rfl rfl rfl hl.1 rfl (Nat.le_of_ble_eq_true rfl) ⟨Nat.zero_le _, Nat.zero_le _⟩ dX10_comes_31 rfl (fun H locs hO => ?_)
    obtain ⟨g4, hf⟩ := grd_e hf
    refine j_irem C g4 dX10_comes_34 ?_
    obtain ⟨g5, hf⟩ := grd_e hf
    obtain ⟨M6, hM6, hf⟩ := lt1_e hf
    refine j_iast C hO (x := ((w32 S.2.1).tmod (w32 r3))) (tp_10_1 h0) rfl g5.1 g5.2 dX10_comes_35 (fun H locs hO => ?_)
    rw [← hM6] at hO
    refine lv_iload_n C.1 C.2.1 dX10_comes_36 rfl (lv_at hl 1 rfl) ?_
    refine lv_aload_n C.1 C.2.1 dX10_comes_37 rfl (lv_at hl 0 rfl) ?_
    obtain ⟨r7, hr7, hf⟩ := bnd_e hf
    refine j_callV C hO (n := 0) (As := []) (st1 := [vI r7, vI S.2.1]) (c_X10_signs l G M6 l0 h0 hr7) h0 rfl kC_16_17 kM_16_14 kI_16_15 kS_16_16 kN_1_5 ⟨by decide, by decide, by decide⟩ ⟨Nat.le_trans (by decide) hRf, Nat.le_trans (by decide) hRl⟩ rfl rfl rfl hl.1 rfl (Nat.le_of_ble_eq_true rfl) ⟨Nat.zero_le _, Nat.zero_le _⟩ dX10_comes_38 rfl (fun H locs hO => ?_)
    obtain ⟨g8, hf⟩ := grd_e hf
    refine j_idiv C g8 dX10_comes_41 ?_
    refine lv_istore_n (lv' := [(3, vI ((w32 S.2.1).tdiv (w32 r7))), (0, jR G l0), (4, vI S.2.2)]) C.1 C.2.1 dX10_comes_42 rfl hl (by decide) rfl (fun ls hl => ?_)
    refine lv_iinc (v := Int32.ofInt (S.2.2 + (-1))) (lv' := [(4, vI (S.2.2 + (-1))), (3, vI ((w32 S.2.1).tdiv (w32 r7))), (0, jR G l0)]) C.1 C.2.1 dX10_comes_43 hl (k := 2) rfl (Int32.ofInt_add _ _).symm (by decide) rfl (fun ls hl => ?_)
    refine lv_goto (tgt := 15) C.1 C.2.1 dX10_comes_46 (by decide) ?_
    exact kc _ (som_e hf).symm _ _ _ hO (lv_sub hl [2, 1, 0] rfl)
set_option maxHeartbeats 4000000 in
theorem w_X10_comes {p : Program} {l : Launch} {e : Env} {R : Room} {s : State} {m : MethodId} {args : Array Value} {below : List Frame} {meth : Method} {c : Code} {H : Heap} {locs : List Loc} {ls : Array Slot} {G : jG}  (C : jCx p s m args meth c cX10_comes 5 RX10 (Cond.code yX10_comes cX10_comes 5 none) none) (hRf : 2 ≤ R.frames) (hRl : 42 ≤ R.locals)  (M : jM) (l0 l1 l2 : Int) (h0 : jkd l0 = (10, 0)) {fin : jM} (hf : f_X10_comes M l0 l1 l2 = some fin) (hO : jOk G M s H locs) (hl : lv_has ls 5 [(0, jR G l0), (1, vI l1), (2, vI l2)]) : W p l e R s m args below meth c H locs 0 0 (MQ below (jQ G none fin) args s 0 0 (jA G)) (F0 m 0 ls []) := by
  unfold f_X10_comes at hf
  refine lv_iload_n C.1 C.2.1 dX10_comes_0 rfl (lv_at hl 1 rfl) ?_
  refine lv_istore_n (lv' := [(3, vI l1), (0, jR G l0), (1, vI l1), (2, vI l2)]) C.1 C.2.1 dX10_comes_1 rfl hl (by decide) rfl (fun ls hl => ?_)
  refine lv_aload_n C.1 C.2.1 dX10_comes_2 rfl (lv_at hl 1 rfl) ?_
  refine j_get C hO (ci := 10) (k := 1) (v := jR G (jpt l0 1)) h0 rfl inlX10 (by decide) kF_5_23 rfl rfl dX10_comes_3 ?_
  refine lv_bipush (v := Int32.ofInt 65) C.1 C.2.1 dX10_comes_6 (by decide) ?_
  refine lv_iload_n C.1 C.2.1 dX10_comes_8 rfl (lv_at hl 3 rfl) ?_
  obtain ⟨M1, hM1, hf⟩ := lt1_e hf
  refine j_iast C hO (x := l2) (tp_10_1 h0) (w32_id (by decide) (by decide)) (by decide) (by decide) dX10_comes_9 (fun H locs hO => ?_)
  rw [← hM1] at hO
  refine lv_iload_n C.1 C.2.1 dX10_comes_10 rfl (lv_at hl 3 rfl) ?_
  refine lv_iconst (v := Int32.ofInt 1) C.1 C.2.1 dX10_comes_11 rfl ?_
  refine j_isub C dX10_comes_12 ?_
  refine lv_istore (lv' := [(4, vI (l2 - 1)), (3, vI l1), (0, jR G l0), (1, vI l1), (2, vI l2)]) C.1 C.2.1 dX10_comes_13 hl (by decide) rfl (fun ls hl => ?_)
  obtain ⟨x9, hx9, hf⟩ := bnd_e hf
  refine iter_e (P := fun Z => ∀ (H : Heap) (locs : List Loc) (ls : Array Slot), jOk G Z.1 s H locs → lv_has ls 5 [(0, jR G l0), (3, vI Z.2.1), (4, vI Z.2.2)] → W p l e R s m args below meth c H locs 0 0 (MQ below (jQ G none fin) args s 0 0 (jA G)) (F0 m 15 ls [])) (E := fun q => ∀ (H : Heap) (locs : List Loc) (ls : Array Slot), jOk G q s H locs → lv_has ls 5 [] → W p l e R s m args below meth c H locs 0 0 (MQ below (jQ G none fin) args s 0 0 (jA G)) (F0 m 49 ls [])) (fun Z rr hb kc kx H locs ls hO hl => w_X10_comes_L15 C hRf hRl M1 l0 h0 Z hb kc (fun q e => kx q e) hO hl) 5000 (M1, l1, l2 - 1) x9 hx9 ?_ _ _ _ hO (lv_sub hl [2, 1, 0] rfl)
  clear hO hl
  intro H locs ls hO hl
  have hf := som_e hf
  subst hf
  exact j_vret C hO dX10_comes_49
set_option maxHeartbeats 1000000 in
theorem c_X10_comes (l : Launch) (G : jG)  (M : jM) (l0 l1 l2 : Int) (h0 : jkd l0 = (10, 0)) {fin : jM} (h : f_X10_comes M l0 l1 l2 = some fin) : Met l yX10_comes (Cond.code yX10_comes cX10_comes 5 none :: wsL_law) ({ frames := 2, cells := 0, slots := 0, locals := 42 } : Room) (va_Pc [jR G l0, vI l1, vI l2] (fun U => jRep G M U)) (jQ G none fin) 0 0 (jA G) := by
  refine Met.ofW (cc := cX10_comes) (maxL := 5) (ret := none) (by decide) rfl ?_
  intro p e s m args below meth c s₁ B hml hv
  obtain ⟨rfl, hR0⟩ := hv
  have C : jCx p s m ([jR G l0, vI l1, vI l2] : List Value).toArray meth c cX10_comes 5 RX10 (Cond.code yX10_comes cX10_comes 5 none) none := ⟨B.exec, B.bytes, hml, findClass_of_methodNamed B.named, atoms_spec B.pre, B.returns, B.notSynchronized⟩
  have hO := hR0.ok
  have hl := lv_entry ([jR G l0, vI l1, vI l2]) (n := 5) (Nat.le_of_ble_eq_true rfl)
  rw [lg_entry_eq]
  generalize (lg_sl ([jR G l0, vI l1, vI l2]) ++ List.replicate (5 - (lg_sl ([jR G l0, vI l1, vI l2])).length) Slot.unset).toArray = ls at hl ⊢
  have hl : lv_has ls 5 [(0, jR G l0), (1, vI l1), (2, vI l2)] := hl
  exact w_X10_comes C (Nat.le_refl _) (Nat.le_refl _) M l0 l1 l2 h0 h hO hl
set_option maxHeartbeats 4000000 in
theorem w_X10_picks {p : Program} {l : Launch} {e : Env} {R : Room} {s : State} {m : MethodId} {args : Array Value} {below : List Frame} {meth : Method} {c : Code} {H : Heap} {locs : List Loc} {ls : Array Slot} {G : jG}  (C : jCx p s m args meth c cX10_picks 1 RX10 (Cond.code yX10_picks cX10_picks 1 none) none) (hRf : 1 ≤ R.frames) (hRl : 24 ≤ R.locals)  (M : jM) (l0 : Int) (h0 : jkd l0 = (10, 0)) {fin : jM} (hf : f_X10_picks M l0 = some fin) (hO : jOk G M s H locs) (hl : lv_has ls 1 [(0, jR G l0)]) : W p l e R s m args below meth c H locs 0 0 (MQ below (jQ G none fin) args s 0 0 (jA G)) (F0 m 0 ls []) := by
  unfold f_X10_picks at hf
  refine lv_aload_n C.1 C.2.1 dX10_picks_0 rfl (lv_at hl 0 rfl) ?_
  refine lv_bipush (v := Int32.ofInt 52) C.1 C.2.1 dX10_picks_1 (by decide) ?_
  refine lv_aload_n C.1 C.2.1 dX10_picks_3 rfl (lv_at hl 0 rfl) ?_
  refine j_get C hO (ci := 10) (k := 1) (v := jR G (jpt l0 1)) h0 rfl inlX10 (by decide) kF_5_23 rfl rfl dX10_picks_4 ?_
  refine lv_bipush (v := Int32.ofInt 65) C.1 C.2.1 dX10_picks_7 (by decide) ?_
  refine j_iald C hO (tp_10_1 h0) (w32_id (by decide) (by decide)) (by decide) (by decide) dX10_picks_9 ?_
  refine lv_bipush (v := Int32.ofInt 6) C.1 C.2.1 dX10_picks_10 (by decide) ?_
  obtain ⟨r1, hr1, hf⟩ := bnd_e hf
  refine j_callV C hO (n := 3) (As := [vI 52, vI (M (jpt l0 1) 65), vI 6]) (st1 := []) (c_X10_copies l G M l0 52 (M (jpt l0 1) 65) 6 h0 hr1) h0 rfl kC_30_11 kM_30_8 kI_30_9 kS_30_10 kN_1_5 ⟨by decide, by decide, by decide⟩ ⟨Nat.le_trans (by decide) hRf, Nat.le_trans (by decide) hRl⟩ rfl rfl rfl hl.1 rfl (Nat.le_of_ble_eq_true rfl) ⟨Nat.zero_le _, Nat.zero_le _⟩ dX10_picks_12 rfl (fun H locs hO => ?_)
  have hf := som_e hf
  subst hf
  exact j_vret C hO dX10_picks_15
set_option maxHeartbeats 1000000 in
theorem c_X10_picks (l : Launch) (G : jG)  (M : jM) (l0 : Int) (h0 : jkd l0 = (10, 0)) {fin : jM} (h : f_X10_picks M l0 = some fin) : Met l yX10_picks (Cond.code yX10_picks cX10_picks 1 none :: wsL_law) ({ frames := 1, cells := 0, slots := 0, locals := 24 } : Room) (va_Pc [jR G l0] (fun U => jRep G M U)) (jQ G none fin) 0 0 (jA G) := by
  refine Met.ofW (cc := cX10_picks) (maxL := 1) (ret := none) (by decide) rfl ?_
  intro p e s m args below meth c s₁ B hml hv
  obtain ⟨rfl, hR0⟩ := hv
  have C : jCx p s m ([jR G l0] : List Value).toArray meth c cX10_picks 1 RX10 (Cond.code yX10_picks cX10_picks 1 none) none := ⟨B.exec, B.bytes, hml, findClass_of_methodNamed B.named, atoms_spec B.pre, B.returns, B.notSynchronized⟩
  have hO := hR0.ok
  have hl := lv_entry ([jR G l0]) (n := 1) (Nat.le_of_ble_eq_true rfl)
  rw [lg_entry_eq]
  generalize (lg_sl ([jR G l0]) ++ List.replicate (1 - (lg_sl ([jR G l0])).length) Slot.unset).toArray = ls at hl ⊢
  have hl : lv_has ls 1 [(0, jR G l0)] := hl
  exact w_X10_picks C (Nat.le_refl _) (Nat.le_refl _) M l0 h0 h hO hl
set_option maxHeartbeats 4000000 in
theorem w_X10_picksBest_95 {p : Program} {l : Launch} {e : Env} {R : Room} {s : State} {m : MethodId} {args : Array Value} {below : List Frame} {meth : Method} {c : Code} {H : Heap} {locs : List Loc} {ls : Array Slot} {G : jG}  (C : jCx p s m args meth c cX10_picksBest 9 RX10 (Cond.code yX10_picksBest cX10_picksBest 9 (some .boolean)) (some .boolean)) (hRf : 5 ≤ R.frames) (hRl : 119 ≤ R.locals)  (M : jM) (l0 l1 l2 l3 l4 l6 l8 : Int) (h0 : jkd l0 = (10, 0)) {fin : Int × jM} {rr : (jM × Int × Int × Int × Int) ⊕ ((jM × Int))} (hf : f_X10_picksBest_95 M l0 l1 l2 l3 l4 l6 l8 = some rr) (kc : ∀ q : jM × Int × Int × Int × Int, rr = .inl q → ∀ (H : Heap) (locs : List Loc) (ls : Array Slot), jOk G q.1 s H locs → lv_has ls 9 [(0, jR G l0), (1, vI l1), (2, vI l2), (3, vI q.2.1), (4, vL q.2.2.1), (6, vL q.2.2.2.1), (8, vI q.2.2.2.2)] → W p l e R s m args below meth c H locs 0 0 (MQ below (jQ G (some (vI fin.1)) fin.2) args s 0 0 (jA G)) (F0 m 11 ls [])) (kx0 : ∀ q : jM × Int, rr = .inr q → ∀ (H : Heap) (locs : List Loc) (ls : Array Slot), jOk G q.1 s H locs → lv_has ls 9 [(3, vI q.2)] → W p l e R s m args below meth c H locs 0 0 (MQ below (jQ G (some (vI fin.1)) fin.2) args s 0 0 (jA G)) (F0 m 101 ls [])) (hO : jOk G M s H locs) (hl : lv_has ls 9 [(0, jR G l0), (1, vI l1), (2, vI l2), (3, vI l3), (4, vL l4), (6, vL l6), (8, vI l8)]) : W p l e R s m args below meth c H locs 0 0 (MQ below (jQ G (some (vI fin.1)) fin.2) args s 0 0 (jA G)) (F0 m 95 ls []) := by
  unfold f_X10_picksBest_95 at hf
  refine lv_iinc (v := Int32.ofInt (l8 + 1)) (lv' := [(8, vI (l8 + 1)), (0, jR G l0), (1, vI l1), (2, vI l2), (3, vI l3), (4, vL l4), (6, vL l6)]) C.1 C.2.1 dX10_picksBest_95 hl (k := 6) rfl (Int32.ofInt_add _ _).symm (by decide) rfl (fun ls hl => ?_)
  refine lv_goto (tgt := 11) C.1 C.2.1 dX10_picksBest_98 (by decide) ?_
  exact kc _ (som_e hf).symm _ _ _ hO (lv_sub hl [1, 2, 3, 4, 5, 6, 0] rfl)
set_option maxHeartbeats 4000000 in
theorem w_X10_picksBest_72 {p : Program} {l : Launch} {e : Env} {R : Room} {s : State} {m : MethodId} {args : Array Value} {below : List Frame} {meth : Method} {c : Code} {H : Heap} {locs : List Loc} {ls : Array Slot} {G : jG}  (C : jCx p s m args meth c cX10_picksBest 9 RX10 (Cond.code yX10_picksBest cX10_picksBest 9 (some .boolean)) (some .boolean)) (hRf : 5 ≤ R.frames) (hRl : 119 ≤ R.locals)  (M : jM) (l0 l1 l2 l8 : Int) (h0 : jkd l0 = (10, 0)) {fin : Int × jM} {rr : (jM × Int × Int × Int × Int) ⊕ ((jM × Int))} (hf : f_X10_picksBest_72 M l0 l1 l2 l8 = some rr) (kc : ∀ q : jM × Int × Int × Int × Int, rr = .inl q → ∀ (H : Heap) (locs : List Loc) (ls : Array Slot), jOk G q.1 s H locs → lv_has ls 9 [(0, jR G l0), (1, vI l1), (2, vI l2), (3, vI q.2.1), (4, vL q.2.2.1), (6, vL q.2.2.2.1), (8, vI q.2.2.2.2)] → W p l e R s m args below meth c H locs 0 0 (MQ below (jQ G (some (vI fin.1)) fin.2) args s 0 0 (jA G)) (F0 m 11 ls [])) (kx0 : ∀ q : jM × Int, rr = .inr q → ∀ (H : Heap) (locs : List Loc) (ls : Array Slot), jOk G q.1 s H locs → lv_has ls 9 [(3, vI q.2)] → W p l e R s m args below meth c H locs 0 0 (MQ below (jQ G (some (vI fin.1)) fin.2) args s 0 0 (jA G)) (F0 m 101 ls [])) (hO : jOk G M s H locs) (hl : lv_has ls 9 [(0, jR G l0), (1, vI l1), (2, vI l2), (8, vI l8)]) : W p l e R s m args below meth c H locs 0 0 (MQ below (jQ G (some (vI fin.1)) fin.2) args s 0 0 (jA G)) (F0 m 72 ls []) := by
  unfold f_X10_picksBest_72 at hf
  refine lv_iconst (v := Int32.ofInt 1) C.1 C.2.1 dX10_picksBest_72 rfl ?_
  refine lv_istore_n (lv' := [(3, vI 1), (0, jR G l0), (1, vI l1), (2, vI l2), (8, vI l8)]) C.1 C.2.1 dX10_picksBest_73 rfl hl (by decide) rfl (fun ls hl => ?_)
  refine lv_aload_n C.1 C.2.1 dX10_picksBest_74 rfl (lv_at hl 1 rfl) ?_
  refine j_get C hO (ci := 10) (k := 13) (v := vL (M l0 13)) h0 rfl inlX10 (by decide) kF_25_15 rfl rfl dX10_picksBest_75 ?_
  refine lv_lstore (lv' := [(4, vL (M l0 13)), (3, vI 1), (0, jR G l0), (1, vI l1), (2, vI l2), (8, vI l8)]) C.1 C.2.1 dX10_picksBest_78 hl (by decide) rfl (fun ls hl => ?_)
  refine lv_aload_n C.1 C.2.1 dX10_picksBest_80 rfl (lv_at hl 2 rfl) ?_
  refine j_get C hO (ci := 10) (k := 13) (v := vL (M l0 13)) h0 rfl inlX10 (by decide) kF_25_15 rfl rfl dX10_picksBest_81 ?_
  refine lv_aload_n C.1 C.2.1 dX10_picksBest_84 rfl (lv_at hl 2 rfl) ?_
  refine j_get C hO (ci := 10) (k := 14) (v := vL (M l0 14)) h0 rfl inlX10 (by decide) kF_25_16 rfl rfl dX10_picksBest_85 ?_
  refine j_ladd C dX10_picksBest_88 ?_
  refine lv_lstore (lv' := [(6, vL ((M l0 13) + (M l0 14))), (4, vL (M l0 13)), (3, vI 1), (0, jR G l0), (1, vI l1), (2, vI l2), (8, vI l8)]) C.1 C.2.1 dX10_picksBest_89 hl (by decide) rfl (fun ls hl => ?_)
  refine lv_aload_n C.1 C.2.1 dX10_picksBest_91 rfl (lv_at hl 3 rfl) ?_
  obtain ⟨r8, hr8, hf⟩ := bnd_e hf
  refine j_callV C hO (n := 0) (As := []) (st1 := []) (c_X10_picks l G M l0 h0 hr8) h0 rfl kC_30_7 kM_30_4 kI_30_5 kS_30_6 kN_1_5 ⟨by decide, by decide, by decide⟩ ⟨Nat.le_trans (by decide) hRf, Nat.le_trans (by decide) hRl⟩ rfl rfl rfl hl.1 rfl (Nat.le_of_ble_eq_true rfl) ⟨Nat.zero_le _, Nat.zero_le _⟩ dX10_picksBest_92 rfl (fun H locs hO => ?_)
  exact w_X10_picksBest_95 C hRf hRl r8 l0 l1 l2 1 (M l0 13) ((M l0 13) + (M l0 14)) l8 h0 hf kc kx0 hO (lv_sub hl [3, 4, 5, 2, 1, 0, 6] rfl)
set_option maxHeartbeats 4000000 in
theorem w_X10_picksBest_L11 {p : Program} {l : Launch} {e : Env} {R : Room} {s : State} {m : MethodId} {args : Array Value} {below : List Frame} {meth : Method} {c : Code} {H : Heap} {locs : List Loc} {ls : Array Slot} {G : jG}  (C : jCx p s m args meth c cX10_picksBest 9 RX10 (Cond.code yX10_picksBest cX10_picksBest 9 (some .boolean)) (some .boolean)) (hRf : 5 ≤ R.frames) (hRl : 119 ≤ R.locals)  (M : jM) (l0 l1 l2 : Int) (h0 : jkd l0 = (10, 0)) {fin : Int × jM} (S : jM × Int × Int × Int × Int) {rr : (jM × Int × Int × Int × Int) ⊕ ((jM × Int))} (hf : f_X10_picksBest_L11 M l0 l1 l2 S = some rr) (kc : ∀ q : jM × Int × Int × Int × Int, rr = .inl q → ∀ (H : Heap) (locs : List Loc) (ls : Array Slot), jOk G q.1 s H locs → lv_has ls 9 [(0, jR G l0), (1, vI l1), (2, vI l2), (3, vI q.2.1), (4, vL q.2.2.1), (6, vL q.2.2.2.1), (8, vI q.2.2.2.2)] → W p l e R s m args below meth c H locs 0 0 (MQ below (jQ G (some (vI fin.1)) fin.2) args s 0 0 (jA G)) (F0 m 11 ls [])) (kx0 : ∀ q : jM × Int, rr = .inr q → ∀ (H : Heap) (locs : List Loc) (ls : Array Slot), jOk G q.1 s H locs → lv_has ls 9 [(3, vI q.2)] → W p l e R s m args below meth c H locs 0 0 (MQ below (jQ G (some (vI fin.1)) fin.2) args s 0 0 (jA G)) (F0 m 101 ls [])) (hO : jOk G S.1 s H locs) (hl : lv_has ls 9 [(0, jR G l0), (1, vI l1), (2, vI l2), (3, vI S.2.1), (4, vL S.2.2.1), (6, vL S.2.2.2.1), (8, vI S.2.2.2.2)]) : W p l e R s m args below meth c H locs 0 0 (MQ below (jQ G (some (vI fin.1)) fin.2) args s 0 0 (jA G)) (F0 m 11 ls []) := by
  unfold f_X10_picksBest_L11 at hf
  refine lv_iload C.1 C.2.1 dX10_picksBest_11 (lv_at hl 6 rfl) ?_
  refine lv_aload_n C.1 C.2.1 dX10_picksBest_13 rfl (lv_at hl 0 rfl) ?_
  refine lv_iload_n C.1 C.2.1 dX10_picksBest_14 rfl (lv_at hl 2 rfl) ?_
  obtain ⟨r1, hr1, hf⟩ := bnd_e hf
  refine j_callV C hO (n := 1) (As := [vI l2]) (st1 := [vI r1, vI S.2.2.2.2]) (c_X10_rowsOf l G S.1 l0 l2 h0 hr1) h0 rfl kC_29_20 kM_29_17 kI_29_18 kS_29_19 kN_1_5 ⟨by decide, by decide, by decide⟩ ⟨Nat.le_trans (by decide) hRf, Nat.le_trans (by decide) hRl⟩ rfl rfl rfl hl.1 rfl (Nat.le_of_ble_eq_true rfl) ⟨Nat.zero_le _, Nat.zero_le _⟩ dX10_picksBest_15 rfl (fun H locs hO => ?_)
  refine j_icmp_ge (tgt := 101) C rfl rfl dX10_picksBest_18 (by decide) (fun c2 => ?_) (fun c2 => ?_)
  · have hf := (if_pos c2).symm.trans hf
    exact kx0 _ (som_e hf).symm _ _ _ hO (lv_sub hl [3] rfl)
  · have hf := (if_neg c2).symm.trans hf
    refine lv_aload_n C.1 C.2.1 dX10_picksBest_21 rfl (lv_at hl 0 rfl) ?_
    refine lv_iload C.1 C.2.1 dX10_picksBest_22 (lv_at hl 6 rfl) ?_
    refine lv_iload_n C.1 C.2.1 dX10_picksBest_24 rfl (lv_at hl 2 rfl) ?_
    obtain ⟨r3, hr3, hf⟩ := bnd_e hf
    refine j_callV C hO (n := 2) (As := [vI S.2.2.2.2, vI l2]) (st1 := []) (c_X10_comes l G S.1 l0 S.2.2.2.2 l2 h0 hr3) h0 rfl kC_30_0 kM_29_21 kI_29_22 kS_29_23 kN_1_5 ⟨by decide, by decide, by decide⟩ ⟨Nat.le_trans (by decide) hRf, Nat.le_trans (by decide) hRl⟩ rfl rfl rfl hl.1 rfl (Nat.le_of_ble_eq_true rfl) ⟨Nat.zero_le _, Nat.zero_le _⟩ dX10_picksBest_25 rfl (fun H locs hO => ?_)
    refine lv_aload_n C.1 C.2.1 dX10_picksBest_28 rfl (lv_at hl 0 rfl) ?_
    refine lv_bipush (v := Int32.ofInt 7) C.1 C.2.1 dX10_picksBest_29 (by decide) ?_
    refine lv_iload_n C.1 C.2.1 dX10_picksBest_31 rfl (lv_at hl 1 rfl) ?_
    obtain ⟨r4, hr4, hf⟩ := bnd_e hf
    refine j_callV C hO (n := 2) (As := [vI 7, vI l1]) (st1 := [vI r4]) (c_X10_areApart l G r3 l0 7 l1 h0 hr4) h0 rfl kC_26_0 kM_25_21 kI_25_22 kS_25_23 kN_1_5 ⟨by decide, by decide, by decide⟩ ⟨Nat.le_trans (by decide) hRf, Nat.le_trans (by decide) hRl⟩ rfl rfl rfl hl.1 rfl (Nat.le_of_ble_eq_true rfl) ⟨Nat.zero_le _, Nat.zero_le _⟩ dX10_picksBest_32 rfl (fun H locs hO => ?_)
    refine j_if_eq (tgt := 95) C rfl dX10_picksBest_35 (by decide) (fun c5 => ?_) (fun c5 => ?_)
    · have hf := (if_pos c5).symm.trans hf
      exact w_X10_picksBest_95 C hRf hRl r3 l0 l1 l2 S.2.1 S.2.2.1 S.2.2.2.1 S.2.2.2.2 h0 hf kc kx0 hO (lv_sub hl [0, 1, 2, 3, 4, 5, 6] rfl)
    · have hf := (if_neg c5).symm.trans hf
      refine lv_aload_n C.1 C.2.1 dX10_picksBest_38 rfl (lv_at hl 0 rfl) ?_
      refine lv_bipush (v := Int32.ofInt 7) C.1 C.2.1 dX10_picksBest_39 (by decide) ?_
      refine lv_iload_n C.1 C.2.1 dX10_picksBest_41 rfl (lv_at hl 1 rfl) ?_
      obtain ⟨r6, hr6, hf⟩ := bnd_e hf
      refine j_callV C hO (n := 2) (As := [vI 7, vI l1]) (st1 := []) (c_X10_looksForOdds l G r3 l0 7 l1 h0 hr6) h0 rfl kC_26_8 kM_26_5 kI_26_6 kS_26_7 kN_1_5 ⟨by decide, by decide, by decide⟩ ⟨Nat.le_trans (by decide) hRf, Nat.le_trans (by decide) hRl⟩ rfl rfl rfl hl.1 rfl (Nat.le_of_ble_eq_true rfl) ⟨Nat.zero_le _, Nat.zero_le _⟩ dX10_picksBest_42 rfl (fun H locs hO => ?_)
      refine lv_iload_n C.1 C.2.1 dX10_picksBest_45 rfl (lv_at hl 3 rfl) ?_
      refine j_if_eq (tgt := 72) C rfl dX10_picksBest_46 (by decide) (fun c7 => ?_) (fun c7 => ?_)
      · have hf := (if_pos c7).symm.trans hf
        exact w_X10_picksBest_72 C hRf hRl r6 l0 l1 l2 S.2.2.2.2 h0 hf kc kx0 hO (lv_sub hl [0, 1, 2, 6] rfl)
      · have hf := (if_neg c7).symm.trans hf
        refine lv_lload C.1 C.2.1 dX10_picksBest_49 (lv_at hl 4 rfl) ?_
        refine lv_lload C.1 C.2.1 dX10_picksBest_51 (lv_at hl 5 rfl) ?_
        refine lv_aload_n C.1 C.2.1 dX10_picksBest_53 rfl (lv_at hl 0 rfl) ?_
        refine j_get C hO (ci := 10) (k := 13) (v := vL (r6 l0 13)) h0 rfl inlX10 (by decide) kF_25_15 rfl rfl dX10_picksBest_54 ?_
        refine lv_aload_n C.1 C.2.1 dX10_picksBest_57 rfl (lv_at hl 0 rfl) ?_
        refine j_get C hO (ci := 10) (k := 13) (v := vL (r6 l0 13)) h0 rfl inlX10 (by decide) kF_25_15 rfl rfl dX10_picksBest_58 ?_
        refine lv_aload_n C.1 C.2.1 dX10_picksBest_61 rfl (lv_at hl 0 rfl) ?_
        refine j_get C hO (ci := 10) (k := 14) (v := vL (r6 l0 14)) h0 rfl inlX10 (by decide) kF_25_16 rfl rfl dX10_picksBest_62 ?_
        refine j_ladd C dX10_picksBest_65 ?_
        obtain ⟨r9, hr9, hf⟩ := bnd_e hf
        refine j_callS C hO (n := 4) (As := [vL S.2.2.1, vL S.2.2.2.1, vL (r6 l0 13), vL ((r6 l0 13) + (r6 l0 14))]) (st1 := [vI r9]) (c_X10_isLess l G r6 S.2.2.1 S.2.2.2.1 (r6 l0 13) ((r6 l0 13) + (r6 l0 14))  hr9) kC_30_3 kM_30_1 kT_30_2 kN_1_5 ⟨by decide, by decide, by decide⟩ ⟨Nat.le_trans (by decide) hRf, Nat.le_trans (by decide) hRl⟩ rfl rfl rfl hl.1 rfl (Nat.le_of_ble_eq_true rfl) ⟨Nat.zero_le _, Nat.zero_le _⟩ dX10_picksBest_66 rfl (fun H locs hO => ?_)
        refine j_if_eq (tgt := 95) C rfl dX10_picksBest_69 (by decide) (fun c10 => ?_) (fun c10 => ?_)
        · have hf := (if_pos c10).symm.trans hf
          exact w_X10_picksBest_95 C hRf hRl r6 l0 l1 l2 S.2.1 S.2.2.1 S.2.2.2.1 S.2.2.2.2 h0 hf kc kx0 hO (lv_sub hl [0, 1, 2, 3, 4, 5, 6] rfl)
        · have hf := (if_neg c10).symm.trans hf
          exact w_X10_picksBest_72 C hRf hRl r6 l0 l1 l2 S.2.2.2.2 h0 hf kc kx0 hO (lv_sub hl [0, 1, 2, 6] rfl)
set_option maxHeartbeats 4000000 in
theorem w_X10_picksBest {p : Program} {l : Launch} {e : Env} {R : Room} {s : State} {m : MethodId} {args : Array Value} {below : List Frame} {meth : Method} {c : Code} {H : Heap} {locs : List Loc} {ls : Array Slot} {G : jG}  (C : jCx p s m args meth c cX10_picksBest 9 RX10 (Cond.code yX10_picksBest cX10_picksBest 9 (some .boolean)) (some .boolean)) (hRf : 5 ≤ R.frames) (hRl : 119 ≤ R.locals)  (M : jM) (l0 l1 l2 : Int) (h0 : jkd l0 = (10, 0)) {fin : Int × jM} (hf : f_X10_picksBest M l0 l1 l2 = some fin) (hO : jOk G M s H locs) (hl : lv_has ls 9 [(0, jR G l0), (1, vI l1), (2, vI l2)]) : W p l e R s m args below meth c H locs 0 0 (MQ below (jQ G (some (vI fin.1)) fin.2) args s 0 0 (jA G)) (F0 m 0 ls []) := by
  unfold f_X10_picksBest at hf
  refine lv_iconst (v := Int32.ofInt 0) C.1 C.2.1 dX10_picksBest_0 rfl ?_
  refine lv_istore_n (lv' := [(3, vI 0), (0, jR G l0), (1, vI l1), (2, vI l2)]) C.1 C.2.1 dX10_picksBest_1 rfl hl (by decide) rfl (fun ls hl => ?_)
  refine lv_lconst (v := Int64.ofInt 0) C.1 C.2.1 dX10_picksBest_2 (by decide) ?_
  refine lv_lstore (lv' := [(4, vL 0), (3, vI 0), (0, jR G l0), (1, vI l1), (2, vI l2)]) C.1 C.2.1 dX10_picksBest_3 hl (by decide) rfl (fun ls hl => ?_)
  refine lv_lconst (v := Int64.ofInt 1) C.1 C.2.1 dX10_picksBest_5 (by decide) ?_
  refine lv_lstore (lv' := [(6, vL 1), (4, vL 0), (3, vI 0), (0, jR G l0), (1, vI l1), (2, vI l2)]) C.1 C.2.1 dX10_picksBest_6 hl (by decide) rfl (fun ls hl => ?_)
  refine lv_iconst (v := Int32.ofInt 0) C.1 C.2.1 dX10_picksBest_8 rfl ?_
  refine lv_istore (lv' := [(8, vI 0), (6, vL 1), (4, vL 0), (3, vI 0), (0, jR G l0), (1, vI l1), (2, vI l2)]) C.1 C.2.1 dX10_picksBest_9 hl (by decide) rfl (fun ls hl => ?_)
  obtain ⟨x11, hx11, hf⟩ := bnd_e hf
  refine iter_e (P := fun Z => ∀ (H : Heap) (locs : List Loc) (ls : Array Slot), jOk G Z.1 s H locs → lv_has ls 9 [(0, jR G l0), (1, vI l1), (2, vI l2), (3, vI Z.2.1), (4, vL Z.2.2.1), (6, vL Z.2.2.2.1), (8, vI Z.2.2.2.2)] → W p l e R s m args below meth c H locs 0 0 (MQ below (jQ G (some (vI fin.1)) fin.2) args s 0 0 (jA G)) (F0 m 11 ls [])) (E := fun q => ∀ (H : Heap) (locs : List Loc) (ls : Array Slot), jOk G q.1 s H locs → lv_has ls 9 [(3, vI q.2)] → W p l e R s m args below meth c H locs 0 0 (MQ below (jQ G (some (vI fin.1)) fin.2) args s 0 0 (jA G)) (F0 m 101 ls [])) (fun Z rr hb kc kx H locs ls hO hl => w_X10_picksBest_L11 C hRf hRl M l0 l1 l2 h0 Z hb kc (fun q e => kx q e) hO hl) 5000 (M, 0, 0, 1, 0) x11 hx11 ?_ _ _ _ hO (lv_sub hl [4, 5, 6, 3, 2, 1, 0] rfl)
  clear hO hl
  intro H locs ls hO hl
  refine lv_iload_n C.1 C.2.1 dX10_picksBest_101 rfl (lv_at hl 0 rfl) ?_
  obtain ⟨g12, hf⟩ := grd_e hf
  have hf := som_e hf
  subst hf
  exact j_zret C hO g12 dX10_picksBest_102
set_option maxHeartbeats 1000000 in
theorem c_X10_picksBest (l : Launch) (G : jG)  (M : jM) (l0 l1 l2 : Int) (h0 : jkd l0 = (10, 0)) {fin : Int × jM} (h : f_X10_picksBest M l0 l1 l2 = some fin) : Met l yX10_picksBest (Cond.code yX10_picksBest cX10_picksBest 9 (some .boolean) :: wsL_law) ({ frames := 5, cells := 0, slots := 0, locals := 119 } : Room) (va_Pc [jR G l0, vI l1, vI l2] (fun U => jRep G M U)) (jQ G (some (vI fin.1)) fin.2) 0 0 (jA G) := by
  refine Met.ofW (cc := cX10_picksBest) (maxL := 9) (ret := (some .boolean)) (by decide) rfl ?_
  intro p e s m args below meth c s₁ B hml hv
  obtain ⟨rfl, hR0⟩ := hv
  have C : jCx p s m ([jR G l0, vI l1, vI l2] : List Value).toArray meth c cX10_picksBest 9 RX10 (Cond.code yX10_picksBest cX10_picksBest 9 (some .boolean)) (some .boolean) := ⟨B.exec, B.bytes, hml, findClass_of_methodNamed B.named, atoms_spec B.pre, B.returns, B.notSynchronized⟩
  have hO := hR0.ok
  have hl := lv_entry ([jR G l0, vI l1, vI l2]) (n := 9) (Nat.le_of_ble_eq_true rfl)
  rw [lg_entry_eq]
  generalize (lg_sl ([jR G l0, vI l1, vI l2]) ++ List.replicate (9 - (lg_sl ([jR G l0, vI l1, vI l2])).length) Slot.unset).toArray = ls at hl ⊢
  have hl : lv_has ls 9 [(0, jR G l0), (1, vI l1), (2, vI l2)] := hl
  exact w_X10_picksBest C (Nat.le_refl _) (Nat.le_refl _) M l0 l1 l2 h0 h hO hl
set_option maxHeartbeats 4000000 in
theorem w_X10_picksByWait_165 {p : Program} {l : Launch} {e : Env} {R : Room} {s : State} {m : MethodId} {args : Array Value} {below : List Frame} {meth : Method} {c : Code} {H : Heap} {locs : List Loc} {ls : Array Slot} {G : jG}  (C : jCx p s m args meth c cX10_picksByWait 15 RX10 (Cond.code yX10_picksByWait cX10_picksByWait 15 (some .boolean)) (some .boolean)) (hRf : 5 ≤ R.frames) (hRl : 119 ≤ R.locals)  (M : jM) (l0 l1 l2 l3 l4 l5 l7 l9 : Int) (h0 : jkd l0 = (10, 0)) {fin : Int × jM} {rr : (jM × Int × Int × Int × Int) ⊕ ((jM × Int))} (hf : f_X10_picksByWait_165 M l0 l1 l2 l3 l4 l5 l7 l9 = some rr) (kc : ∀ q : jM × Int × Int × Int × Int, rr = .inl q → ∀ (H : Heap) (locs : List Loc) (ls : Array Slot), jOk G q.1 s H locs → lv_has ls 15 [(0, jR G l0), (1, vI l1), (2, vI l2), (3, vI l3), (4, vI q.2.1), (5, vL q.2.2.1), (7, vL q.2.2.2.1), (9, vI q.2.2.2.2)] → W p l e R s m args below meth c H locs 0 0 (MQ below (jQ G (some (vI fin.1)) fin.2) args s 0 0 (jA G)) (F0 m 16 ls [])) (kx0 : ∀ q : jM × Int, rr = .inr q → ∀ (H : Heap) (locs : List Loc) (ls : Array Slot), jOk G q.1 s H locs → lv_has ls 15 [(4, vI q.2)] → W p l e R s m args below meth c H locs 0 0 (MQ below (jQ G (some (vI fin.1)) fin.2) args s 0 0 (jA G)) (F0 m 171 ls [])) (hO : jOk G M s H locs) (hl : lv_has ls 15 [(0, jR G l0), (1, vI l1), (2, vI l2), (3, vI l3), (4, vI l4), (5, vL l5), (7, vL l7), (9, vI l9)]) : W p l e R s m args below meth c H locs 0 0 (MQ below (jQ G (some (vI fin.1)) fin.2) args s 0 0 (jA G)) (F0 m 165 ls []) := by
  unfold f_X10_picksByWait_165 at hf
  refine lv_iinc (v := Int32.ofInt (l9 + 1)) (lv' := [(9, vI (l9 + 1)), (0, jR G l0), (1, vI l1), (2, vI l2), (3, vI l3), (4, vI l4), (5, vL l5), (7, vL l7)]) C.1 C.2.1 dX10_picksByWait_165 hl (k := 7) rfl (Int32.ofInt_add _ _).symm (by decide) rfl (fun ls hl => ?_)
  refine lv_goto (tgt := 16) C.1 C.2.1 dX10_picksByWait_168 (by decide) ?_
  exact kc _ (som_e hf).symm _ _ _ hO (lv_sub hl [1, 2, 3, 4, 5, 6, 7, 0] rfl)
set_option maxHeartbeats 4000000 in
theorem w_X10_picksByWait_150 {p : Program} {l : Launch} {e : Env} {R : Room} {s : State} {m : MethodId} {args : Array Value} {below : List Frame} {meth : Method} {c : Code} {H : Heap} {locs : List Loc} {ls : Array Slot} {G : jG}  (C : jCx p s m args meth c cX10_picksByWait 15 RX10 (Cond.code yX10_picksByWait cX10_picksByWait 15 (some .boolean)) (some .boolean)) (hRf : 5 ≤ R.frames) (hRl : 119 ≤ R.locals)  (M : jM) (l0 l1 l2 l3 l9 l11 l13 : Int) (h0 : jkd l0 = (10, 0)) {fin : Int × jM} {rr : (jM × Int × Int × Int × Int) ⊕ ((jM × Int))} (hf : f_X10_picksByWait_150 M l0 l1 l2 l3 l9 l11 l13 = some rr) (kc : ∀ q : jM × Int × Int × Int × Int, rr = .inl q → ∀ (H : Heap) (locs : List Loc) (ls : Array Slot), jOk G q.1 s H locs → lv_has ls 15 [(0, jR G l0), (1, vI l1), (2, vI l2), (3, vI l3), (4, vI q.2.1), (5, vL q.2.2.1), (7, vL q.2.2.2.1), (9, vI q.2.2.2.2)] → W p l e R s m args below meth c H locs 0 0 (MQ below (jQ G (some (vI fin.1)) fin.2) args s 0 0 (jA G)) (F0 m 16 ls [])) (kx0 : ∀ q : jM × Int, rr = .inr q → ∀ (H : Heap) (locs : List Loc) (ls : Array Slot), jOk G q.1 s H locs → lv_has ls 15 [(4, vI q.2)] → W p l e R s m args below meth c H locs 0 0 (MQ below (jQ G (some (vI fin.1)) fin.2) args s 0 0 (jA G)) (F0 m 171 ls [])) (hO : jOk G M s H locs) (hl : lv_has ls 15 [(0, jR G l0), (1, vI l1), (2, vI l2), (3, vI l3), (9, vI l9), (11, vL l11), (13, vL l13)]) : W p l e R s m args below meth c H locs 0 0 (MQ below (jQ G (some (vI fin.1)) fin.2) args s 0 0 (jA G)) (F0 m 150 ls []) := by
  unfold f_X10_picksByWait_150 at hf
  refine lv_iconst (v := Int32.ofInt 1) C.1 C.2.1 dX10_picksByWait_150 rfl ?_
  refine lv_istore (lv' := [(4, vI 1), (0, jR G l0), (1, vI l1), (2, vI l2), (3, vI l3), (9, vI l9), (11, vL l11), (13, vL l13)]) C.1 C.2.1 dX10_picksByWait_151 hl (by decide) rfl (fun ls hl => ?_)
  refine lv_lload C.1 C.2.1 dX10_picksByWait_153 (lv_at hl 6 rfl) ?_
  refine lv_lstore (lv' := [(5, vL l11), (4, vI 1), (0, jR G l0), (1, vI l1), (2, vI l2), (3, vI l3), (9, vI l9), (11, vL l11), (13, vL l13)]) C.1 C.2.1 dX10_picksByWait_155 hl (by decide) rfl (fun ls hl => ?_)
  refine lv_lload C.1 C.2.1 dX10_picksByWait_157 (lv_at hl 8 rfl) ?_
  refine lv_lstore (lv' := [(7, vL l13), (5, vL l11), (4, vI 1), (0, jR G l0), (1, vI l1), (2, vI l2), (3, vI l3), (9, vI l9), (11, vL l11), (13, vL l13)]) C.1 C.2.1 dX10_picksByWait_159 hl (by decide) rfl (fun ls hl => ?_)
  refine lv_aload_n C.1 C.2.1 dX10_picksByWait_161 rfl (lv_at hl 3 rfl) ?_
  obtain ⟨r11, hr11, hf⟩ := bnd_e hf
  refine j_callV C hO (n := 0) (As := []) (st1 := []) (c_X10_picks l G M l0 h0 hr11) h0 rfl kC_30_7 kM_30_4 kI_30_5 kS_30_6 kN_1_5 ⟨by decide, by decide, by decide⟩ ⟨Nat.le_trans (by decide) hRf, Nat.le_trans (by decide) hRl⟩ rfl rfl rfl hl.1 rfl (Nat.le_of_ble_eq_true rfl) ⟨Nat.zero_le _, Nat.zero_le _⟩ dX10_picksByWait_162 rfl (fun H locs hO => ?_)
  exact w_X10_picksByWait_165 C hRf hRl r11 l0 l1 l2 l3 1 l11 l13 l9 h0 hf kc kx0 hO (lv_sub hl [3, 4, 5, 6, 2, 1, 0, 7] rfl)
set_option maxHeartbeats 4000000 in
theorem w_X10_picksByWait_86 {p : Program} {l : Launch} {e : Env} {R : Room} {s : State} {m : MethodId} {args : Array Value} {below : List Frame} {meth : Method} {c : Code} {H : Heap} {locs : List Loc} {ls : Array Slot} {G : jG}  (C : jCx p s m args meth c cX10_picksByWait 15 RX10 (Cond.code yX10_picksByWait cX10_picksByWait 15 (some .boolean)) (some .boolean)) (hRf : 5 ≤ R.frames) (hRl : 119 ≤ R.locals)  (M : jM) (l0 l1 l2 l3 l4 l5 l7 l9 l10 : Int) (h0 : jkd l0 = (10, 0)) {fin : Int × jM} {rr : (jM × Int × Int × Int × Int) ⊕ ((jM × Int))} (hf : f_X10_picksByWait_86 M l0 l1 l2 l3 l4 l5 l7 l9 l10 = some rr) (kc : ∀ q : jM × Int × Int × Int × Int, rr = .inl q → ∀ (H : Heap) (locs : List Loc) (ls : Array Slot), jOk G q.1 s H locs → lv_has ls 15 [(0, jR G l0), (1, vI l1), (2, vI l2), (3, vI l3), (4, vI q.2.1), (5, vL q.2.2.1), (7, vL q.2.2.2.1), (9, vI q.2.2.2.2)] → W p l e R s m args below meth c H locs 0 0 (MQ below (jQ G (some (vI fin.1)) fin.2) args s 0 0 (jA G)) (F0 m 16 ls [])) (kx0 : ∀ q : jM × Int, rr = .inr q → ∀ (H : Heap) (locs : List Loc) (ls : Array Slot), jOk G q.1 s H locs → lv_has ls 15 [(4, vI q.2)] → W p l e R s m args below meth c H locs 0 0 (MQ below (jQ G (some (vI fin.1)) fin.2) args s 0 0 (jA G)) (F0 m 171 ls [])) (hO : jOk G M s H locs) (hl : lv_has ls 15 [(0, jR G l0), (1, vI l1), (2, vI l2), (3, vI l3), (4, vI l4), (5, vL l5), (7, vL l7), (9, vI l9), (10, vI l10)]) : W p l e R s m args below meth c H locs 0 0 (MQ below (jQ G (some (vI fin.1)) fin.2) args s 0 0 (jA G)) (F0 m 86 ls []) := by
  unfold f_X10_picksByWait_86 at hf
  refine lv_aload_n C.1 C.2.1 dX10_picksByWait_86 rfl (lv_at hl 0 rfl) ?_
  refine lv_bipush (v := Int32.ofInt 7) C.1 C.2.1 dX10_picksByWait_87 (by decide) ?_
  refine lv_bipush (v := Int32.ofInt 7) C.1 C.2.1 dX10_picksByWait_89 (by decide) ?_
  obtain ⟨r7, hr7, hf⟩ := bnd_e hf
  refine j_callV C hO (n := 2) (As := [vI 7, vI 7]) (st1 := [vL r7]) (c_X10_lapOf l G M l0 7 7 h0 hr7) h0 rfl kC_23_7 kM_23_4 kI_23_5 kS_23_6 kN_1_5 ⟨by decide, by decide, by decide⟩ ⟨Nat.le_trans (by decide) hRf, Nat.le_trans (by decide) hRl⟩ rfl rfl rfl hl.1 rfl (Nat.le_of_ble_eq_true rfl) ⟨Nat.zero_le _, Nat.zero_le _⟩ dX10_picksByWait_91 rfl (fun H locs hO => ?_)
  refine lv_lstore (lv' := [(11, vL r7), (0, jR G l0), (1, vI l1), (2, vI l2), (3, vI l3), (4, vI l4), (5, vL l5), (7, vL l7), (9, vI l9), (10, vI l10)]) C.1 C.2.1 dX10_picksByWait_94 hl (by decide) rfl (fun ls hl => ?_)
  refine lv_aload_n C.1 C.2.1 dX10_picksByWait_96 rfl (lv_at hl 1 rfl) ?_
  refine lv_bipush (v := Int32.ofInt 7) C.1 C.2.1 dX10_picksByWait_97 (by decide) ?_
  refine lv_iconst (v := Int32.ofInt 0) C.1 C.2.1 dX10_picksByWait_99 rfl ?_
  obtain ⟨r8, hr8, hf⟩ := bnd_e hf
  refine j_callV C hO (n := 2) (As := [vI 7, vI 0]) (st1 := [vL r8]) (c_X10_weightsFrom l G M l0 7 0 h0 hr8) h0 rfl kC_23_19 kM_23_16 kI_23_17 kS_23_18 kN_1_5 ⟨by decide, by decide, by decide⟩ ⟨Nat.le_trans (by decide) hRf, Nat.le_trans (by decide) hRl⟩ rfl rfl rfl hl.1 rfl (Nat.le_of_ble_eq_true rfl) ⟨Nat.zero_le _, Nat.zero_le _⟩ dX10_picksByWait_100 rfl (fun H locs hO => ?_)
  refine lv_lstore (lv' := [(13, vL r8), (11, vL r7), (0, jR G l0), (1, vI l1), (2, vI l2), (3, vI l3), (4, vI l4), (5, vL l5), (7, vL l7), (9, vI l9), (10, vI l10)]) C.1 C.2.1 dX10_picksByWait_103 hl (by decide) rfl (fun ls hl => ?_)
  refine lv_iload C.1 C.2.1 dX10_picksByWait_105 (lv_at hl 10 rfl) ?_
  refine j_if_eq (tgt := 165) C rfl dX10_picksByWait_107 (by decide) (fun c9 => ?_) (fun c9 => ?_)
  · have hf := (if_pos c9).symm.trans hf
    exact w_X10_picksByWait_165 C hRf hRl M l0 l1 l2 l3 l4 l5 l7 l9 h0 hf kc kx0 hO (lv_sub hl [2, 3, 4, 5, 6, 7, 8, 9] rfl)
  · have hf := (if_neg c9).symm.trans hf
    refine lv_iload C.1 C.2.1 dX10_picksByWait_110 (lv_at hl 6 rfl) ?_
    refine j_if_eq (tgt := 150) C rfl dX10_picksByWait_112 (by decide) (fun c10 => ?_) (fun c10 => ?_)
    · have hf := (if_pos c10).symm.trans hf
      exact w_X10_picksByWait_150 C hRf hRl M l0 l1 l2 l3 l9 r7 r8 h0 hf kc kx0 hO (lv_sub hl [2, 3, 4, 5, 9, 1, 0] rfl)
    · have hf := (if_neg c10).symm.trans hf
      refine lv_iload_n C.1 C.2.1 dX10_picksByWait_115 rfl (lv_at hl 4 rfl) ?_
      refine j_if_eq (tgt := 136) C rfl dX10_picksByWait_116 (by decide) (fun c12 => ?_) (fun c12 => ?_)
      · have hf := (if_pos c12).symm.trans hf
        refine lv_lload C.1 C.2.1 dX10_picksByWait_136 (lv_at hl 1 rfl) ?_
        refine lv_lload C.1 C.2.1 dX10_picksByWait_138 (lv_at hl 0 rfl) ?_
        refine lv_lload C.1 C.2.1 dX10_picksByWait_140 (lv_at hl 7 rfl) ?_
        refine lv_lload C.1 C.2.1 dX10_picksByWait_142 (lv_at hl 8 rfl) ?_
        obtain ⟨r13, hr13, hf⟩ := bnd_e hf
        refine j_callS C hO (n := 4) (As := [vL r7, vL r8, vL l5, vL l7]) (st1 := [vI r13]) (c_X10_isLess l G M r7 r8 l5 l7  hr13) kC_30_3 kM_30_1 kT_30_2 kN_1_5 ⟨by decide, by decide, by decide⟩ ⟨Nat.le_trans (by decide) hRf, Nat.le_trans (by decide) hRl⟩ rfl rfl rfl hl.1 rfl (Nat.le_of_ble_eq_true rfl) ⟨Nat.zero_le _, Nat.zero_le _⟩ dX10_picksByWait_144 rfl (fun H locs hO => ?_)
        refine j_if_eq (tgt := 165) C rfl dX10_picksByWait_147 (by decide) (fun c14 => ?_) (fun c14 => ?_)
        · have hf := (if_pos c14).symm.trans hf
          exact w_X10_picksByWait_165 C hRf hRl M l0 l1 l2 l3 l4 l5 l7 l9 h0 hf kc kx0 hO (lv_sub hl [2, 3, 4, 5, 6, 7, 8, 9] rfl)
        · have hf := (if_neg c14).symm.trans hf
          exact w_X10_picksByWait_150 C hRf hRl M l0 l1 l2 l3 l9 r7 r8 h0 hf kc kx0 hO (lv_sub hl [2, 3, 4, 5, 9, 1, 0] rfl)
      · have hf := (if_neg c12).symm.trans hf
        refine lv_lload C.1 C.2.1 dX10_picksByWait_119 (lv_at hl 7 rfl) ?_
        refine lv_lload C.1 C.2.1 dX10_picksByWait_121 (lv_at hl 8 rfl) ?_
        refine lv_lload C.1 C.2.1 dX10_picksByWait_123 (lv_at hl 1 rfl) ?_
        refine lv_lload C.1 C.2.1 dX10_picksByWait_125 (lv_at hl 0 rfl) ?_
        obtain ⟨r15, hr15, hf⟩ := bnd_e hf
        refine j_callS C hO (n := 4) (As := [vL l5, vL l7, vL r7, vL r8]) (st1 := [vI r15]) (c_X10_isLess l G M l5 l7 r7 r8  hr15) kC_30_3 kM_30_1 kT_30_2 kN_1_5 ⟨by decide, by decide, by decide⟩ ⟨Nat.le_trans (by decide) hRf, Nat.le_trans (by decide) hRl⟩ rfl rfl rfl hl.1 rfl (Nat.le_of_ble_eq_true rfl) ⟨Nat.zero_le _, Nat.zero_le _⟩ dX10_picksByWait_127 rfl (fun H locs hO => ?_)
        refine j_if_eq (tgt := 165) C rfl dX10_picksByWait_130 (by decide) (fun c16 => ?_) (fun c16 => ?_)
        · have hf := (if_pos c16).symm.trans hf
          exact w_X10_picksByWait_165 C hRf hRl M l0 l1 l2 l3 l4 l5 l7 l9 h0 hf kc kx0 hO (lv_sub hl [2, 3, 4, 5, 6, 7, 8, 9] rfl)
        · have hf := (if_neg c16).symm.trans hf
          refine lv_goto (tgt := 150) C.1 C.2.1 dX10_picksByWait_133 (by decide) ?_
          exact w_X10_picksByWait_150 C hRf hRl M l0 l1 l2 l3 l9 r7 r8 h0 hf kc kx0 hO (lv_sub hl [2, 3, 4, 5, 9, 1, 0] rfl)
set_option maxHeartbeats 4000000 in
theorem w_X10_picksByWait_84 {p : Program} {l : Launch} {e : Env} {R : Room} {s : State} {m : MethodId} {args : Array Value} {below : List Frame} {meth : Method} {c : Code} {H : Heap} {locs : List Loc} {ls : Array Slot} {G : jG}  (C : jCx p s m args meth c cX10_picksByWait 15 RX10 (Cond.code yX10_picksByWait cX10_picksByWait 15 (some .boolean)) (some .boolean)) (hRf : 5 ≤ R.frames) (hRl : 119 ≤ R.locals)  (M : jM) (l0 l1 l2 l3 l4 l5 l7 l9 s0 : Int) (h0 : jkd l0 = (10, 0)) {fin : Int × jM} {rr : (jM × Int × Int × Int × Int) ⊕ ((jM × Int))} (hf : f_X10_picksByWait_84 M l0 l1 l2 l3 l4 l5 l7 l9 s0 = some rr) (kc : ∀ q : jM × Int × Int × Int × Int, rr = .inl q → ∀ (H : Heap) (locs : List Loc) (ls : Array Slot), jOk G q.1 s H locs → lv_has ls 15 [(0, jR G l0), (1, vI l1), (2, vI l2), (3, vI l3), (4, vI q.2.1), (5, vL q.2.2.1), (7, vL q.2.2.2.1), (9, vI q.2.2.2.2)] → W p l e R s m args below meth c H locs 0 0 (MQ below (jQ G (some (vI fin.1)) fin.2) args s 0 0 (jA G)) (F0 m 16 ls [])) (kx0 : ∀ q : jM × Int, rr = .inr q → ∀ (H : Heap) (locs : List Loc) (ls : Array Slot), jOk G q.1 s H locs → lv_has ls 15 [(4, vI q.2)] → W p l e R s m args below meth c H locs 0 0 (MQ below (jQ G (some (vI fin.1)) fin.2) args s 0 0 (jA G)) (F0 m 171 ls [])) (hO : jOk G M s H locs) (hl : lv_has ls 15 [(0, jR G l0), (1, vI l1), (2, vI l2), (3, vI l3), (4, vI l4), (5, vL l5), (7, vL l7), (9, vI l9)]) : W p l e R s m args below meth c H locs 0 0 (MQ below (jQ G (some (vI fin.1)) fin.2) args s 0 0 (jA G)) (F0 m 84 ls [vI s0]) := by
  unfold f_X10_picksByWait_84 at hf
  refine lv_istore (lv' := [(10, vI s0), (0, jR G l0), (1, vI l1), (2, vI l2), (3, vI l3), (4, vI l4), (5, vL l5), (7, vL l7), (9, vI l9)]) C.1 C.2.1 dX10_picksByWait_84 hl (by decide) rfl (fun ls hl => ?_)
  exact w_X10_picksByWait_86 C hRf hRl M l0 l1 l2 l3 l4 l5 l7 l9 s0 h0 hf kc kx0 hO (lv_sub hl [1, 2, 3, 4, 5, 6, 7, 8, 0] rfl)
set_option maxHeartbeats 4000000 in
theorem w_X10_picksByWait_43 {p : Program} {l : Launch} {e : Env} {R : Room} {s : State} {m : MethodId} {args : Array Value} {below : List Frame} {meth : Method} {c : Code} {H : Heap} {locs : List Loc} {ls : Array Slot} {G : jG}  (C : jCx p s m args meth c cX10_picksByWait 15 RX10 (Cond.code yX10_picksByWait cX10_picksByWait 15 (some .boolean)) (some .boolean)) (hRf : 5 ≤ R.frames) (hRl : 119 ≤ R.locals)  (M : jM) (l0 l1 l2 l3 l4 l5 l7 l9 s0 : Int) (h0 : jkd l0 = (10, 0)) {fin : Int × jM} {rr : (jM × Int × Int × Int × Int) ⊕ ((jM × Int))} (hf : f_X10_picksByWait_43 M l0 l1 l2 l3 l4 l5 l7 l9 s0 = some rr) (kc : ∀ q : jM × Int × Int × Int × Int, rr = .inl q → ∀ (H : Heap) (locs : List Loc) (ls : Array Slot), jOk G q.1 s H locs → lv_has ls 15 [(0, jR G l0), (1, vI l1), (2, vI l2), (3, vI l3), (4, vI q.2.1), (5, vL q.2.2.1), (7, vL q.2.2.2.1), (9, vI q.2.2.2.2)] → W p l e R s m args below meth c H locs 0 0 (MQ below (jQ G (some (vI fin.1)) fin.2) args s 0 0 (jA G)) (F0 m 16 ls [])) (kx0 : ∀ q : jM × Int, rr = .inr q → ∀ (H : Heap) (locs : List Loc) (ls : Array Slot), jOk G q.1 s H locs → lv_has ls 15 [(4, vI q.2)] → W p l e R s m args below meth c H locs 0 0 (MQ below (jQ G (some (vI fin.1)) fin.2) args s 0 0 (jA G)) (F0 m 171 ls [])) (hO : jOk G M s H locs) (hl : lv_has ls 15 [(0, jR G l0), (1, vI l1), (2, vI l2), (3, vI l3), (4, vI l4), (5, vL l5), (7, vL l7), (9, vI l9)]) : W p l e R s m args below meth c H locs 0 0 (MQ below (jQ G (some (vI fin.1)) fin.2) args s 0 0 (jA G)) (F0 m 43 ls [vI s0]) := by
  unfold f_X10_picksByWait_43 at hf
  refine lv_istore (lv' := [(10, vI s0), (0, jR G l0), (1, vI l1), (2, vI l2), (3, vI l3), (4, vI l4), (5, vL l5), (7, vL l7), (9, vI l9)]) C.1 C.2.1 dX10_picksByWait_43 hl (by decide) rfl (fun ls hl => ?_)
  refine lv_iload C.1 C.2.1 dX10_picksByWait_45 (lv_at hl 0 rfl) ?_
  refine j_if_ne (tgt := 86) C rfl dX10_picksByWait_47 (by decide) (fun c6 => ?_) (fun c6 => ?_)
  · have hf := (if_neg c6).symm.trans hf
    exact w_X10_picksByWait_86 C hRf hRl M l0 l1 l2 l3 l4 l5 l7 l9 s0 h0 hf kc kx0 hO (lv_sub hl [1, 2, 3, 4, 5, 6, 7, 8, 0] rfl)
  · have hf := (if_pos c6).symm.trans hf
    refine lv_aload_n C.1 C.2.1 dX10_picksByWait_50 rfl (lv_at hl 1 rfl) ?_
    refine lv_bipush (v := Int32.ofInt 7) C.1 C.2.1 dX10_picksByWait_51 (by decide) ?_
    refine lv_iload_n C.1 C.2.1 dX10_picksByWait_53 rfl (lv_at hl 4 rfl) ?_
    obtain ⟨r17, hr17, hf⟩ := bnd_e hf
    refine j_callV C hO (n := 2) (As := [vI 7, vI l3]) (st1 := [vI r17]) (c_X10_areApart l G M l0 7 l3 h0 hr17) h0 rfl kC_26_0 kM_25_21 kI_25_22 kS_25_23 kN_1_5 ⟨by decide, by decide, by decide⟩ ⟨Nat.le_trans (by decide) hRf, Nat.le_trans (by decide) hRl⟩ rfl rfl rfl hl.1 rfl (Nat.le_of_ble_eq_true rfl) ⟨Nat.zero_le _, Nat.zero_le _⟩ dX10_picksByWait_54 rfl (fun H locs hO => ?_)
    refine j_if_eq (tgt := 86) C rfl dX10_picksByWait_57 (by decide) (fun c18 => ?_) (fun c18 => ?_)
    · have hf := (if_pos c18).symm.trans hf
      exact w_X10_picksByWait_86 C hRf hRl M l0 l1 l2 l3 l4 l5 l7 l9 s0 h0 hf kc kx0 hO (lv_sub hl [1, 2, 3, 4, 5, 6, 7, 8, 0] rfl)
    · have hf := (if_neg c18).symm.trans hf
      refine lv_aload_n C.1 C.2.1 dX10_picksByWait_60 rfl (lv_at hl 1 rfl) ?_
      refine lv_bipush (v := Int32.ofInt 7) C.1 C.2.1 dX10_picksByWait_61 (by decide) ?_
      refine lv_iload_n C.1 C.2.1 dX10_picksByWait_63 rfl (lv_at hl 4 rfl) ?_
      obtain ⟨r19, hr19, hf⟩ := bnd_e hf
      refine j_callV C hO (n := 2) (As := [vI 7, vI l3]) (st1 := []) (c_X10_looksForOdds l G M l0 7 l3 h0 hr19) h0 rfl kC_26_8 kM_26_5 kI_26_6 kS_26_7 kN_1_5 ⟨by decide, by decide, by decide⟩ ⟨Nat.le_trans (by decide) hRf, Nat.le_trans (by decide) hRl⟩ rfl rfl rfl hl.1 rfl (Nat.le_of_ble_eq_true rfl) ⟨Nat.zero_le _, Nat.zero_le _⟩ dX10_picksByWait_64 rfl (fun H locs hO => ?_)
      refine lv_aload_n C.1 C.2.1 dX10_picksByWait_67 rfl (lv_at hl 1 rfl) ?_
      refine j_get C hO (ci := 10) (k := 13) (v := vL (r19 l0 13)) h0 rfl inlX10 (by decide) kF_25_15 rfl rfl dX10_picksByWait_68 ?_
      refine lv_aload_n C.1 C.2.1 dX10_picksByWait_71 rfl (lv_at hl 1 rfl) ?_
      refine j_get C hO (ci := 10) (k := 14) (v := vL (r19 l0 14)) h0 rfl inlX10 (by decide) kF_25_16 rfl rfl dX10_picksByWait_72 ?_
      refine j_lcmp_lt (tgt := 83) C rfl rfl dX10_picksByWait_75 dX10_picksByWait_76 (by decide) (fun c20 => ?_) (fun c20 => ?_)
      · have hf := (if_pos c20).symm.trans hf
        refine lv_iconst (v := Int32.ofInt 0) C.1 C.2.1 dX10_picksByWait_83 rfl ?_
        exact w_X10_picksByWait_84 C hRf hRl r19 l0 l1 l2 l3 l4 l5 l7 l9 0 h0 hf kc kx0 hO (lv_sub hl [1, 2, 3, 4, 5, 6, 7, 8] rfl)
      · have hf := (if_neg c20).symm.trans hf
        refine lv_iconst (v := Int32.ofInt 1) C.1 C.2.1 dX10_picksByWait_79 rfl ?_
        refine lv_goto (tgt := 84) C.1 C.2.1 dX10_picksByWait_80 (by decide) ?_
        exact w_X10_picksByWait_84 C hRf hRl r19 l0 l1 l2 l3 l4 l5 l7 l9 1 h0 hf kc kx0 hO (lv_sub hl [1, 2, 3, 4, 5, 6, 7, 8] rfl)
set_option maxHeartbeats 4000000 in
theorem w_X10_picksByWait_L16 {p : Program} {l : Launch} {e : Env} {R : Room} {s : State} {m : MethodId} {args : Array Value} {below : List Frame} {meth : Method} {c : Code} {H : Heap} {locs : List Loc} {ls : Array Slot} {G : jG}  (C : jCx p s m args meth c cX10_picksByWait 15 RX10 (Cond.code yX10_picksByWait cX10_picksByWait 15 (some .boolean)) (some .boolean)) (hRf : 5 ≤ R.frames) (hRl : 119 ≤ R.locals)  (M : jM) (l0 l1 l2 l3 : Int) (h0 : jkd l0 = (10, 0)) {fin : Int × jM} (S : jM × Int × Int × Int × Int) {rr : (jM × Int × Int × Int × Int) ⊕ ((jM × Int))} (hf : f_X10_picksByWait_L16 M l0 l1 l2 l3 S = some rr) (kc : ∀ q : jM × Int × Int × Int × Int, rr = .inl q → ∀ (H : Heap) (locs : List Loc) (ls : Array Slot), jOk G q.1 s H locs → lv_has ls 15 [(0, jR G l0), (1, vI l1), (2, vI l2), (3, vI l3), (4, vI q.2.1), (5, vL q.2.2.1), (7, vL q.2.2.2.1), (9, vI q.2.2.2.2)] → W p l e R s m args below meth c H locs 0 0 (MQ below (jQ G (some (vI fin.1)) fin.2) args s 0 0 (jA G)) (F0 m 16 ls [])) (kx0 : ∀ q : jM × Int, rr = .inr q → ∀ (H : Heap) (locs : List Loc) (ls : Array Slot), jOk G q.1 s H locs → lv_has ls 15 [(4, vI q.2)] → W p l e R s m args below meth c H locs 0 0 (MQ below (jQ G (some (vI fin.1)) fin.2) args s 0 0 (jA G)) (F0 m 171 ls [])) (hO : jOk G S.1 s H locs) (hl : lv_has ls 15 [(0, jR G l0), (1, vI l1), (2, vI l2), (3, vI l3), (4, vI S.2.1), (5, vL S.2.2.1), (7, vL S.2.2.2.1), (9, vI S.2.2.2.2)]) : W p l e R s m args below meth c H locs 0 0 (MQ below (jQ G (some (vI fin.1)) fin.2) args s 0 0 (jA G)) (F0 m 16 ls []) := by
  unfold f_X10_picksByWait_L16 at hf
  refine lv_iload C.1 C.2.1 dX10_picksByWait_16 (lv_at hl 7 rfl) ?_
  refine lv_aload_n C.1 C.2.1 dX10_picksByWait_18 rfl (lv_at hl 0 rfl) ?_
  refine lv_iload_n C.1 C.2.1 dX10_picksByWait_19 rfl (lv_at hl 1 rfl) ?_
  obtain ⟨r2, hr2, hf⟩ := bnd_e hf
  refine j_callV C hO (n := 1) (As := [vI l1]) (st1 := [vI r2, vI S.2.2.2.2]) (c_X10_rowsOf l G S.1 l0 l1 h0 hr2) h0 rfl kC_29_20 kM_29_17 kI_29_18 kS_29_19 kN_1_5 ⟨by decide, by decide, by decide⟩ ⟨Nat.le_trans (by decide) hRf, Nat.le_trans (by decide) hRl⟩ rfl rfl rfl hl.1 rfl (Nat.le_of_ble_eq_true rfl) ⟨Nat.zero_le _, Nat.zero_le _⟩ dX10_picksByWait_20 rfl (fun H locs hO => ?_)
  refine j_icmp_ge (tgt := 171) C rfl rfl dX10_picksByWait_23 (by decide) (fun c3 => ?_) (fun c3 => ?_)
  · have hf := (if_pos c3).symm.trans hf
    exact kx0 _ (som_e hf).symm _ _ _ hO (lv_sub hl [4] rfl)
  · have hf := (if_neg c3).symm.trans hf
    refine lv_aload_n C.1 C.2.1 dX10_picksByWait_26 rfl (lv_at hl 0 rfl) ?_
    refine lv_iload C.1 C.2.1 dX10_picksByWait_27 (lv_at hl 7 rfl) ?_
    refine lv_iload_n C.1 C.2.1 dX10_picksByWait_29 rfl (lv_at hl 1 rfl) ?_
    obtain ⟨r4, hr4, hf⟩ := bnd_e hf
    refine j_callV C hO (n := 2) (As := [vI S.2.2.2.2, vI l1]) (st1 := []) (c_X10_comes l G S.1 l0 S.2.2.2.2 l1 h0 hr4) h0 rfl kC_30_0 kM_29_21 kI_29_22 kS_29_23 kN_1_5 ⟨by decide, by decide, by decide⟩ ⟨Nat.le_trans (by decide) hRf, Nat.le_trans (by decide) hRl⟩ rfl rfl rfl hl.1 rfl (Nat.le_of_ble_eq_true rfl) ⟨Nat.zero_le _, Nat.zero_le _⟩ dX10_picksByWait_30 rfl (fun H locs hO => ?_)
    refine lv_iload_n C.1 C.2.1 dX10_picksByWait_33 rfl (lv_at hl 3 rfl) ?_
    refine lv_iconst (v := Int32.ofInt (-1)) C.1 C.2.1 dX10_picksByWait_34 rfl ?_
    refine j_icmp_ne (tgt := 42) C rfl (w32_id (by decide) (by decide)) dX10_picksByWait_35 (by decide) (fun c5 => ?_) (fun c5 => ?_)
    · have hf := (if_neg c5).symm.trans hf
      refine lv_iconst (v := Int32.ofInt 0) C.1 C.2.1 dX10_picksByWait_42 rfl ?_
      exact w_X10_picksByWait_43 C hRf hRl r4 l0 l1 l2 l3 S.2.1 S.2.2.1 S.2.2.2.1 S.2.2.2.2 0 h0 hf kc kx0 hO (lv_sub hl [0, 1, 2, 3, 4, 5, 6, 7] rfl)
    · have hf := (if_pos c5).symm.trans hf
      refine lv_iconst (v := Int32.ofInt 1) C.1 C.2.1 dX10_picksByWait_38 rfl ?_
      refine lv_goto (tgt := 43) C.1 C.2.1 dX10_picksByWait_39 (by decide) ?_
      exact w_X10_picksByWait_43 C hRf hRl r4 l0 l1 l2 l3 S.2.1 S.2.2.1 S.2.2.2.1 S.2.2.2.2 1 h0 hf kc kx0 hO (lv_sub hl [0, 1, 2, 3, 4, 5, 6, 7] rfl)
set_option maxHeartbeats 4000000 in
theorem w_X10_picksByWait {p : Program} {l : Launch} {e : Env} {R : Room} {s : State} {m : MethodId} {args : Array Value} {below : List Frame} {meth : Method} {c : Code} {H : Heap} {locs : List Loc} {ls : Array Slot} {G : jG}  (C : jCx p s m args meth c cX10_picksByWait 15 RX10 (Cond.code yX10_picksByWait cX10_picksByWait 15 (some .boolean)) (some .boolean)) (hRf : 5 ≤ R.frames) (hRl : 119 ≤ R.locals)  (M : jM) (l0 l1 l2 l3 : Int) (h0 : jkd l0 = (10, 0)) {fin : Int × jM} (hf : f_X10_picksByWait M l0 l1 l2 l3 = some fin) (hO : jOk G M s H locs) (hl : lv_has ls 15 [(0, jR G l0), (1, vI l1), (2, vI l2), (3, vI l3)]) : W p l e R s m args below meth c H locs 0 0 (MQ below (jQ G (some (vI fin.1)) fin.2) args s 0 0 (jA G)) (F0 m 0 ls []) := by
  unfold f_X10_picksByWait at hf
  refine lv_iconst (v := Int32.ofInt 0) C.1 C.2.1 dX10_picksByWait_0 rfl ?_
  refine lv_istore (lv' := [(4, vI 0), (0, jR G l0), (1, vI l1), (2, vI l2), (3, vI l3)]) C.1 C.2.1 dX10_picksByWait_1 hl (by decide) rfl (fun ls hl => ?_)
  refine lv_lconst (v := Int64.ofInt 0) C.1 C.2.1 dX10_picksByWait_3 (by decide) ?_
  refine lv_lstore (lv' := [(5, vL 0), (4, vI 0), (0, jR G l0), (1, vI l1), (2, vI l2), (3, vI l3)]) C.1 C.2.1 dX10_picksByWait_4 hl (by decide) rfl (fun ls hl => ?_)
  refine lv_lconst (v := Int64.ofInt 1) C.1 C.2.1 dX10_picksByWait_6 (by decide) ?_
  refine lv_lstore (lv' := [(7, vL 1), (5, vL 0), (4, vI 0), (0, jR G l0), (1, vI l1), (2, vI l2), (3, vI l3)]) C.1 C.2.1 dX10_picksByWait_7 hl (by decide) rfl (fun ls hl => ?_)
  refine lv_aload_n C.1 C.2.1 dX10_picksByWait_9 rfl (lv_at hl 3 rfl) ?_
  obtain ⟨r1, hr1, hf⟩ := bnd_e hf
  refine j_callV C hO (n := 0) (As := []) (st1 := []) (c_X10_looksForWeights l G M l0 h0 hr1) h0 rfl kC_16_13 kM_16_10 kI_16_11 kS_16_12 kN_1_5 ⟨by decide, by decide, by decide⟩ ⟨Nat.le_trans (by decide) hRf, Nat.le_trans (by decide) hRl⟩ rfl rfl rfl hl.1 rfl (Nat.le_of_ble_eq_true rfl) ⟨Nat.zero_le _, Nat.zero_le _⟩ dX10_picksByWait_10 rfl (fun H locs hO => ?_)
  refine lv_iconst (v := Int32.ofInt 0) C.1 C.2.1 dX10_picksByWait_13 rfl ?_
  refine lv_istore (lv' := [(9, vI 0), (7, vL 1), (5, vL 0), (4, vI 0), (0, jR G l0), (1, vI l1), (2, vI l2), (3, vI l3)]) C.1 C.2.1 dX10_picksByWait_14 hl (by decide) rfl (fun ls hl => ?_)
  obtain ⟨x21, hx21, hf⟩ := bnd_e hf
  refine iter_e (P := fun Z => ∀ (H : Heap) (locs : List Loc) (ls : Array Slot), jOk G Z.1 s H locs → lv_has ls 15 [(0, jR G l0), (1, vI l1), (2, vI l2), (3, vI l3), (4, vI Z.2.1), (5, vL Z.2.2.1), (7, vL Z.2.2.2.1), (9, vI Z.2.2.2.2)] → W p l e R s m args below meth c H locs 0 0 (MQ below (jQ G (some (vI fin.1)) fin.2) args s 0 0 (jA G)) (F0 m 16 ls [])) (E := fun q => ∀ (H : Heap) (locs : List Loc) (ls : Array Slot), jOk G q.1 s H locs → lv_has ls 15 [(4, vI q.2)] → W p l e R s m args below meth c H locs 0 0 (MQ below (jQ G (some (vI fin.1)) fin.2) args s 0 0 (jA G)) (F0 m 171 ls [])) (fun Z rr hb kc kx H locs ls hO hl => w_X10_picksByWait_L16 C hRf hRl r1 l0 l1 l2 l3 h0 Z hb kc (fun q e => kx q e) hO hl) 5000 (r1, 0, 0, 1, 0) x21 hx21 ?_ _ _ _ hO (lv_sub hl [4, 5, 6, 7, 3, 2, 1, 0] rfl)
  clear hO hl
  intro H locs ls hO hl
  refine lv_iload C.1 C.2.1 dX10_picksByWait_171 (lv_at hl 0 rfl) ?_
  obtain ⟨g22, hf⟩ := grd_e hf
  have hf := som_e hf
  subst hf
  exact j_zret C hO g22 dX10_picksByWait_173
set_option maxHeartbeats 1000000 in
theorem c_X10_picksByWait (l : Launch) (G : jG)  (M : jM) (l0 l1 l2 l3 : Int) (h0 : jkd l0 = (10, 0)) {fin : Int × jM} (h : f_X10_picksByWait M l0 l1 l2 l3 = some fin) : Met l yX10_picksByWait (Cond.code yX10_picksByWait cX10_picksByWait 15 (some .boolean) :: wsL_law) ({ frames := 5, cells := 0, slots := 0, locals := 119 } : Room) (va_Pc [jR G l0, vI l1, vI l2, vI l3] (fun U => jRep G M U)) (jQ G (some (vI fin.1)) fin.2) 0 0 (jA G) := by
  refine Met.ofW (cc := cX10_picksByWait) (maxL := 15) (ret := (some .boolean)) (by decide) rfl ?_
  intro p e s m args below meth c s₁ B hml hv
  obtain ⟨rfl, hR0⟩ := hv
  have C : jCx p s m ([jR G l0, vI l1, vI l2, vI l3] : List Value).toArray meth c cX10_picksByWait 15 RX10 (Cond.code yX10_picksByWait cX10_picksByWait 15 (some .boolean)) (some .boolean) := ⟨B.exec, B.bytes, hml, findClass_of_methodNamed B.named, atoms_spec B.pre, B.returns, B.notSynchronized⟩
  have hO := hR0.ok
  have hl := lv_entry ([jR G l0, vI l1, vI l2, vI l3]) (n := 15) (Nat.le_of_ble_eq_true rfl)
  rw [lg_entry_eq]
  generalize (lg_sl ([jR G l0, vI l1, vI l2, vI l3]) ++ List.replicate (15 - (lg_sl ([jR G l0, vI l1, vI l2, vI l3])).length) Slot.unset).toArray = ls at hl ⊢
  have hl : lv_has ls 15 [(0, jR G l0), (1, vI l1), (2, vI l2), (3, vI l3)] := hl
  exact w_X10_picksByWait C (Nat.le_refl _) (Nat.le_refl _) M l0 l1 l2 l3 h0 h hO hl
set_option maxHeartbeats 4000000 in
theorem w_X10_picksNext {p : Program} {l : Launch} {e : Env} {R : Room} {s : State} {m : MethodId} {args : Array Value} {below : List Frame} {meth : Method} {c : Code} {H : Heap} {locs : List Loc} {ls : Array Slot} {G : jG}  (C : jCx p s m args meth c cX10_picksNext 3 RX10 (Cond.code yX10_picksNext cX10_picksNext 3 none) none) (hRf : 2 ≤ R.frames) (hRl : 42 ≤ R.locals)  (M : jM) (l0 l1 : Int) (h0 : jkd l0 = (10, 0)) {fin : jM} (hf : f_X10_picksNext M l0 l1 = some fin) (hO : jOk G M s H locs) (hl : lv_has ls 3 [(0, jR G l0), (1, vI l1)]) : W p l e R s m args below meth c H locs 0 0 (MQ below (jQ G none fin) args s 0 0 (jA G)) (F0 m 0 ls []) := by
  unfold f_X10_picksNext at hf
  refine lv_aload_n C.1 C.2.1 dX10_picksNext_0 rfl (lv_at hl 0 rfl) ?_
  refine lv_bipush (v := Int32.ofInt 10) C.1 C.2.1 dX10_picksNext_1 (by decide) ?_
  refine lv_bipush (v := Int32.ofInt 6) C.1 C.2.1 dX10_picksNext_3 (by decide) ?_
  refine lv_iload_n C.1 C.2.1 dX10_picksNext_5 rfl (lv_at hl 1 rfl) ?_
  refine j_imul C dX10_picksNext_6 ?_
  refine j_iadd C dX10_picksNext_7 ?_
  refine lv_aload_n C.1 C.2.1 dX10_picksNext_8 rfl (lv_at hl 0 rfl) ?_
  refine j_get C hO (ci := 10) (k := 1) (v := jR G (jpt l0 1)) h0 rfl inlX10 (by decide) kF_5_23 rfl rfl dX10_picksNext_9 ?_
  refine lv_bipush (v := Int32.ofInt 58) C.1 C.2.1 dX10_picksNext_12 (by decide) ?_
  refine lv_iload_n C.1 C.2.1 dX10_picksNext_14 rfl (lv_at hl 1 rfl) ?_
  refine j_iadd C dX10_picksNext_15 ?_
  obtain ⟨g1, hf⟩ := grd_e hf
  refine j_iald C hO (tp_10_1 h0) rfl g1.1 g1.2 dX10_picksNext_16 ?_
  refine lv_bipush (v := Int32.ofInt 6) C.1 C.2.1 dX10_picksNext_17 (by decide) ?_
  obtain ⟨r2, hr2, hf⟩ := bnd_e hf
  refine j_callV C hO (n := 3) (As := [vI (10 + (6 * l1)), vI (M (jpt l0 1) (w32 (58 + l1))), vI 6]) (st1 := []) (c_X10_copies l G M l0 (10 + (6 * l1)) (M (jpt l0 1) (w32 (58 + l1))) 6 h0 hr2) h0 rfl kC_30_11 kM_30_8 kI_30_9 kS_30_10 kN_1_5 ⟨by decide, by decide, by decide⟩ ⟨Nat.le_trans (by decide) hRf, Nat.le_trans (by decide) hRl⟩ rfl rfl rfl hl.1 rfl (Nat.le_of_ble_eq_true rfl) ⟨Nat.zero_le _, Nat.zero_le _⟩ dX10_picksNext_19 rfl (fun H locs hO => ?_)
  refine lv_bipush (v := Int32.ofInt 46) C.1 C.2.1 dX10_picksNext_22 (by decide) ?_
  refine lv_aload_n C.1 C.2.1 dX10_picksNext_24 rfl (lv_at hl 0 rfl) ?_
  refine j_get C hO (ci := 10) (k := 1) (v := jR G (jpt l0 1)) h0 rfl inlX10 (by decide) kF_5_23 rfl rfl dX10_picksNext_25 ?_
  refine lv_bipush (v := Int32.ofInt 58) C.1 C.2.1 dX10_picksNext_28 (by decide) ?_
  refine lv_iload_n C.1 C.2.1 dX10_picksNext_30 rfl (lv_at hl 1 rfl) ?_
  refine j_iadd C dX10_picksNext_31 ?_
  obtain ⟨g3, hf⟩ := grd_e hf
  refine j_iald C hO (tp_10_1 h0) rfl g3.1 g3.2 dX10_picksNext_32 ?_
  refine j_iadd C dX10_picksNext_33 ?_
  refine lv_iconst (v := Int32.ofInt 1) C.1 C.2.1 dX10_picksNext_34 rfl ?_
  refine j_isub C dX10_picksNext_35 ?_
  refine lv_istore_n (lv' := [(2, vI ((46 + (r2 (jpt l0 1) (w32 (58 + l1)))) - 1)), (0, jR G l0), (1, vI l1)]) C.1 C.2.1 dX10_picksNext_36 rfl hl (by decide) rfl (fun ls hl => ?_)
  refine lv_aload_n C.1 C.2.1 dX10_picksNext_37 rfl (lv_at hl 1 rfl) ?_
  refine j_get C hO (ci := 10) (k := 1) (v := jR G (jpt l0 1)) h0 rfl inlX10 (by decide) kF_5_23 rfl rfl dX10_picksNext_38 ?_
  refine lv_iload_n C.1 C.2.1 dX10_picksNext_41 rfl (lv_at hl 0 rfl) ?_
  refine lv_aload_n C.1 C.2.1 dX10_picksNext_42 rfl (lv_at hl 1 rfl) ?_
  refine j_get C hO (ci := 10) (k := 1) (v := jR G (jpt l0 1)) h0 rfl inlX10 (by decide) kF_5_23 rfl rfl dX10_picksNext_43 ?_
  refine lv_iload_n C.1 C.2.1 dX10_picksNext_46 rfl (lv_at hl 0 rfl) ?_
  obtain ⟨g4, hf⟩ := grd_e hf
  refine j_iald C hO (tp_10_1 h0) rfl g4.1 g4.2 dX10_picksNext_47 ?_
  refine lv_iconst (v := Int32.ofInt 1) C.1 C.2.1 dX10_picksNext_48 rfl ?_
  refine j_iadd C dX10_picksNext_49 ?_
  refine lv_aload_n C.1 C.2.1 dX10_picksNext_50 rfl (lv_at hl 1 rfl) ?_
  obtain ⟨r5, hr5, hf⟩ := bnd_e hf
  refine j_callV C hO (n := 0) (As := []) (st1 := [vI r5, vI ((r2 (jpt l0 1) (w32 ((46 + (r2 (jpt l0 1) (w32 (58 + l1)))) - 1))) + 1), vI ((46 + (r2 (jpt l0 1) (w32 (58 + l1)))) - 1), jR G (jpt l0 1)]) (c_X10_signs l G r2 l0 h0 hr5) h0 rfl kC_16_17 kM_16_14 kI_16_15 kS_16_16 kN_1_5 ⟨by decide, by decide, by decide⟩ ⟨Nat.le_trans (by decide) hRf, Nat.le_trans (by decide) hRl⟩ rfl rfl rfl hl.1 rfl (Nat.le_of_ble_eq_true rfl) ⟨Nat.zero_le _, Nat.zero_le _⟩ dX10_picksNext_51 rfl (fun H locs hO => ?_)
  obtain ⟨g6, hf⟩ := grd_e hf
  refine j_irem C g6 dX10_picksNext_54 ?_
  obtain ⟨g7, hf⟩ := grd_e hf
  obtain ⟨M8, hM8, hf⟩ := lt1_e hf
  refine j_iast C hO (x := ((w32 ((r2 (jpt l0 1) (w32 ((46 + (r2 (jpt l0 1) (w32 (58 + l1)))) - 1))) + 1)).tmod (w32 r5))) (tp_10_1 h0) rfl g7.1 g7.2 dX10_picksNext_55 (fun H locs hO => ?_)
  rw [← hM8] at hO
  have hf := som_e hf
  subst hf
  exact j_vret C hO dX10_picksNext_56
set_option maxHeartbeats 1000000 in
theorem c_X10_picksNext (l : Launch) (G : jG)  (M : jM) (l0 l1 : Int) (h0 : jkd l0 = (10, 0)) {fin : jM} (h : f_X10_picksNext M l0 l1 = some fin) : Met l yX10_picksNext (Cond.code yX10_picksNext cX10_picksNext 3 none :: wsL_law) ({ frames := 2, cells := 0, slots := 0, locals := 42 } : Room) (va_Pc [jR G l0, vI l1] (fun U => jRep G M U)) (jQ G none fin) 0 0 (jA G) := by
  refine Met.ofW (cc := cX10_picksNext) (maxL := 3) (ret := none) (by decide) rfl ?_
  intro p e s m args below meth c s₁ B hml hv
  obtain ⟨rfl, hR0⟩ := hv
  have C : jCx p s m ([jR G l0, vI l1] : List Value).toArray meth c cX10_picksNext 3 RX10 (Cond.code yX10_picksNext cX10_picksNext 3 none) none := ⟨B.exec, B.bytes, hml, findClass_of_methodNamed B.named, atoms_spec B.pre, B.returns, B.notSynchronized⟩
  have hO := hR0.ok
  have hl := lv_entry ([jR G l0, vI l1]) (n := 3) (Nat.le_of_ble_eq_true rfl)
  rw [lg_entry_eq]
  generalize (lg_sl ([jR G l0, vI l1]) ++ List.replicate (3 - (lg_sl ([jR G l0, vI l1])).length) Slot.unset).toArray = ls at hl ⊢
  have hl : lv_has ls 3 [(0, jR G l0), (1, vI l1)] := hl
  exact w_X10_picksNext C (Nat.le_refl _) (Nat.le_refl _) M l0 l1 h0 h hO hl
