set_option maxHeartbeats 4000000 in
theorem w_X10_picksFor {p : Program} {l : Launch} {e : Env} {R : Room} {s : State} {m : MethodId} {args : Array Value} {below : List Frame} {meth : Method} {c : Code} {H : Heap} {locs : List Loc} {ls : Array Slot} {G : jG}  (C : jCx p s m args meth c cX10_picksFor 4 RX10 (Cond.code yX10_picksFor cX10_picksFor 4 none) none) (hRf : 6 ≤ R.frames) (hRl : 153 ≤ R.locals)  (M : jM) (l0 l1 l2 : Int) (h0 : jkd l0 = (10, 0)) {fin : jM} (hf : f_X10_picksFor M l0 l1 l2 = some fin) (hO : jOk G M s H locs) (hl : lv_has ls 4 [(0, jR G l0), (1, vI l1), (2, vI l2)]) : W p l e R s m args below meth c H locs 0 0 (MQ below (jQ G none fin) args s 0 0 (jA G)) (F0 m 0 ls []) := by
  unfold f_X10_picksFor at hf
  refine lv_aload_n C.1 C.2.1 dX10_picksFor_0 rfl (lv_at hl 0 rfl) ?_
  refine j_get C hO (ci := 10) (k := 1) (v := jR G (jpt l0 1)) h0 rfl inlX10 (by decide) kF_5_23 rfl rfl dX10_picksFor_1 ?_
  refine lv_bipush (v := Int32.ofInt 100) C.1 C.2.1 dX10_picksFor_4 (by decide) ?_
  refine lv_iload_n C.1 C.2.1 dX10_picksFor_6 rfl (lv_at hl 1 rfl) ?_
  refine j_iadd C dX10_picksFor_7 ?_
  obtain ⟨g1, hf⟩ := grd_e hf
  refine j_iald C hO (tp_10_1 h0) rfl g1.1 g1.2 dX10_picksFor_8 ?_
  refine lv_iconst (v := Int32.ofInt 4) C.1 C.2.1 dX10_picksFor_9 rfl ?_
  obtain ⟨g2, hf⟩ := grd_e hf
  refine j_irem C g2 dX10_picksFor_10 ?_
  refine lv_iconst (v := Int32.ofInt 1) C.1 C.2.1 dX10_picksFor_11 rfl ?_
  refine j_iadd C dX10_picksFor_12 ?_
  refine lv_istore_n (lv' := [(3, vI (((w32 (M (jpt l0 1) (w32 (100 + l1)))).tmod (w32 4)) + 1)), (0, jR G l0), (1, vI l1), (2, vI l2)]) C.1 C.2.1 dX10_picksFor_13 rfl hl (by decide) rfl (fun ls hl => ?_)
  refine lv_aload_n C.1 C.2.1 dX10_picksFor_14 rfl (lv_at hl 1 rfl) ?_
  refine j_get C hO (ci := 10) (k := 1) (v := jR G (jpt l0 1)) h0 rfl inlX10 (by decide) kF_5_23 rfl rfl dX10_picksFor_15 ?_
  refine lv_bipush (v := Int32.ofInt 96) C.1 C.2.1 dX10_picksFor_18 (by decide) ?_
  refine lv_iload_n C.1 C.2.1 dX10_picksFor_20 rfl (lv_at hl 2 rfl) ?_
  refine j_iadd C dX10_picksFor_21 ?_
  obtain ⟨g3, hf⟩ := grd_e hf
  refine j_iald C hO (tp_10_1 h0) rfl g3.1 g3.2 dX10_picksFor_22 ?_
  by_cases c4 : w32 (M (jpt l0 1) (w32 (96 + l1))) = 1
  · have hf := (if_pos c4).symm.trans hf
    refine j_tsw (tgt := 60) C c4 dX10_picksFor_23 (by decide) (by decide) rfl (by decide) ?_
    refine lv_aload_n C.1 C.2.1 dX10_picksFor_60 rfl (lv_at hl 1 rfl) ?_
    refine lv_iload_n C.1 C.2.1 dX10_picksFor_61 rfl (lv_at hl 0 rfl) ?_
    refine lv_iconst (v := Int32.ofInt 0) C.1 C.2.1 dX10_picksFor_62 rfl ?_
    refine lv_iconst (v := Int32.ofInt (-1)) C.1 C.2.1 dX10_picksFor_63 rfl ?_
    obtain ⟨r5, hr5, hf⟩ := bnd_e hf
    refine j_callV C hO (n := 3) (As := [vI (((w32 (M (jpt l0 1) (w32 (100 + l1)))).tmod (w32 4)) + 1), vI 0, vI (-1)]) (st1 := [vI r5.1]) (c_X10_picksByWait l G M l0 (((w32 (M (jpt l0 1) (w32 (100 + l1)))).tmod (w32 4)) + 1) 0 (-1) h0 hr5) h0 rfl kC_33_3 kM_33_0 kI_33_1 kS_33_2 kN_1_5 ⟨by decide, by decide, by decide⟩ ⟨Nat.le_trans (by decide) hRf, Nat.le_trans (by decide) hRl⟩ rfl rfl rfl hl.1 rfl (Nat.le_of_ble_eq_true rfl) ⟨Nat.zero_le _, Nat.zero_le _⟩ dX10_picksFor_64 rfl (fun H locs hO => ?_)
    refine lv_pop C.1 C.2.1 dX10_picksFor_67 rfl ?_
    refine lv_goto (tgt := 188) C.1 C.2.1 dX10_picksFor_68 (by decide) ?_
    have hf := som_e hf
    subst hf
    exact j_vret C hO dX10_picksFor_188
  have hf := (if_neg c4).symm.trans hf
  by_cases c6 : w32 (M (jpt l0 1) (w32 (96 + l1))) = 2
  · have hf := (if_pos c6).symm.trans hf
    refine j_tsw (tgt := 71) C c6 dX10_picksFor_23 (by decide) (by decide) rfl (by decide) ?_
    refine lv_aload_n C.1 C.2.1 dX10_picksFor_71 rfl (lv_at hl 1 rfl) ?_
    refine lv_iload_n C.1 C.2.1 dX10_picksFor_72 rfl (lv_at hl 0 rfl) ?_
    refine lv_iconst (v := Int32.ofInt 1) C.1 C.2.1 dX10_picksFor_73 rfl ?_
    refine lv_iconst (v := Int32.ofInt (-1)) C.1 C.2.1 dX10_picksFor_74 rfl ?_
    obtain ⟨r7, hr7, hf⟩ := bnd_e hf
    refine j_callV C hO (n := 3) (As := [vI (((w32 (M (jpt l0 1) (w32 (100 + l1)))).tmod (w32 4)) + 1), vI 1, vI (-1)]) (st1 := [vI r7.1]) (c_X10_picksByWait l G M l0 (((w32 (M (jpt l0 1) (w32 (100 + l1)))).tmod (w32 4)) + 1) 1 (-1) h0 hr7) h0 rfl kC_33_3 kM_33_0 kI_33_1 kS_33_2 kN_1_5 ⟨by decide, by decide, by decide⟩ ⟨Nat.le_trans (by decide) hRf, Nat.le_trans (by decide) hRl⟩ rfl rfl rfl hl.1 rfl (Nat.le_of_ble_eq_true rfl) ⟨Nat.zero_le _, Nat.zero_le _⟩ dX10_picksFor_75 rfl (fun H locs hO => ?_)
    refine lv_pop C.1 C.2.1 dX10_picksFor_78 rfl ?_
    refine lv_goto (tgt := 188) C.1 C.2.1 dX10_picksFor_79 (by decide) ?_
    have hf := som_e hf
    subst hf
    exact j_vret C hO dX10_picksFor_188
  have hf := (if_neg c6).symm.trans hf
  by_cases c8 : w32 (M (jpt l0 1) (w32 (96 + l1))) = 3
  · have hf := (if_pos c8).symm.trans hf
    refine j_tsw (tgt := 82) C c8 dX10_picksFor_23 (by decide) (by decide) rfl (by decide) ?_
    refine lv_aload_n C.1 C.2.1 dX10_picksFor_82 rfl (lv_at hl 1 rfl) ?_
    refine lv_iload_n C.1 C.2.1 dX10_picksFor_83 rfl (lv_at hl 3 rfl) ?_
    obtain ⟨r9, hr9, hf⟩ := bnd_e hf
    refine j_callV C hO (n := 1) (As := [vI l2]) (st1 := []) (c_X10_picksNext l G M l0 l2 h0 hr9) h0 rfl kC_33_7 kM_33_4 kI_33_5 kS_33_6 kN_1_5 ⟨by decide, by decide, by decide⟩ ⟨Nat.le_trans (by decide) hRf, Nat.le_trans (by decide) hRl⟩ rfl rfl rfl hl.1 rfl (Nat.le_of_ble_eq_true rfl) ⟨Nat.zero_le _, Nat.zero_le _⟩ dX10_picksFor_84 rfl (fun H locs hO => ?_)
    refine lv_goto (tgt := 188) C.1 C.2.1 dX10_picksFor_87 (by decide) ?_
    have hf := som_e hf
    subst hf
    exact j_vret C hO dX10_picksFor_188
  have hf := (if_neg c8).symm.trans hf
  by_cases c10 : w32 (M (jpt l0 1) (w32 (96 + l1))) = 4
  · have hf := (if_pos c10).symm.trans hf
    refine j_tsw (tgt := 90) C c10 dX10_picksFor_23 (by decide) (by decide) rfl (by decide) ?_
    refine lv_aload_n C.1 C.2.1 dX10_picksFor_90 rfl (lv_at hl 1 rfl) ?_
    refine lv_iload_n C.1 C.2.1 dX10_picksFor_91 rfl (lv_at hl 3 rfl) ?_
    refine lv_iload_n C.1 C.2.1 dX10_picksFor_92 rfl (lv_at hl 0 rfl) ?_
    obtain ⟨r11, hr11, hf⟩ := bnd_e hf
    refine j_callV C hO (n := 2) (As := [vI l2, vI (((w32 (M (jpt l0 1) (w32 (100 + l1)))).tmod (w32 4)) + 1)]) (st1 := [vI r11.1]) (c_X10_picksBest l G M l0 l2 (((w32 (M (jpt l0 1) (w32 (100 + l1)))).tmod (w32 4)) + 1) h0 hr11) h0 rfl kC_29_16 kM_29_13 kI_29_14 kS_29_15 kN_1_5 ⟨by decide, by decide, by decide⟩ ⟨Nat.le_trans (by decide) hRf, Nat.le_trans (by decide) hRl⟩ rfl rfl rfl hl.1 rfl (Nat.le_of_ble_eq_true rfl) ⟨Nat.zero_le _, Nat.zero_le _⟩ dX10_picksFor_93 rfl (fun H locs hO => ?_)
    refine j_if_ne (tgt := 188) C rfl dX10_picksFor_96 (by decide) (fun c12 => ?_) (fun c12 => ?_)
    · have hf := (if_neg c12).symm.trans hf
      have hf := som_e hf
      subst hf
      exact j_vret C hO dX10_picksFor_188
    · have hf := (if_pos c12).symm.trans hf
      refine lv_aload_n C.1 C.2.1 dX10_picksFor_99 rfl (lv_at hl 1 rfl) ?_
      refine lv_iload_n C.1 C.2.1 dX10_picksFor_100 rfl (lv_at hl 0 rfl) ?_
      refine lv_iconst (v := Int32.ofInt 0) C.1 C.2.1 dX10_picksFor_101 rfl ?_
      refine lv_iconst (v := Int32.ofInt (-1)) C.1 C.2.1 dX10_picksFor_102 rfl ?_
      obtain ⟨r13, hr13, hf⟩ := bnd_e hf
      refine j_callV C hO (n := 3) (As := [vI (((w32 (M (jpt l0 1) (w32 (100 + l1)))).tmod (w32 4)) + 1), vI 0, vI (-1)]) (st1 := [vI r13.1]) (c_X10_picksByWait l G r11.2 l0 (((w32 (M (jpt l0 1) (w32 (100 + l1)))).tmod (w32 4)) + 1) 0 (-1) h0 hr13) h0 rfl kC_33_3 kM_33_0 kI_33_1 kS_33_2 kN_1_5 ⟨by decide, by decide, by decide⟩ ⟨Nat.le_trans (by decide) hRf, Nat.le_trans (by decide) hRl⟩ rfl rfl rfl hl.1 rfl (Nat.le_of_ble_eq_true rfl) ⟨Nat.zero_le _, Nat.zero_le _⟩ dX10_picksFor_103 rfl (fun H locs hO => ?_)
      refine lv_pop C.1 C.2.1 dX10_picksFor_106 rfl ?_
      refine lv_goto (tgt := 188) C.1 C.2.1 dX10_picksFor_107 (by decide) ?_
      have hf := som_e hf
      subst hf
      exact j_vret C hO dX10_picksFor_188
  have hf := (if_neg c10).symm.trans hf
  by_cases c14 : w32 (M (jpt l0 1) (w32 (96 + l1))) = 5
  · have hf := (if_pos c14).symm.trans hf
    refine j_tsw (tgt := 110) C c14 dX10_picksFor_23 (by decide) (by decide) rfl (by decide) ?_
    refine lv_aload_n C.1 C.2.1 dX10_picksFor_110 rfl (lv_at hl 1 rfl) ?_
    refine lv_iload_n C.1 C.2.1 dX10_picksFor_111 rfl (lv_at hl 0 rfl) ?_
    refine lv_iconst (v := Int32.ofInt 1) C.1 C.2.1 dX10_picksFor_112 rfl ?_
    refine lv_iload_n C.1 C.2.1 dX10_picksFor_113 rfl (lv_at hl 3 rfl) ?_
    obtain ⟨r15, hr15, hf⟩ := bnd_e hf
    refine j_callV C hO (n := 3) (As := [vI (((w32 (M (jpt l0 1) (w32 (100 + l1)))).tmod (w32 4)) + 1), vI 1, vI l2]) (st1 := [vI r15.1]) (c_X10_picksByWait l G M l0 (((w32 (M (jpt l0 1) (w32 (100 + l1)))).tmod (w32 4)) + 1) 1 l2 h0 hr15) h0 rfl kC_33_3 kM_33_0 kI_33_1 kS_33_2 kN_1_5 ⟨by decide, by decide, by decide⟩ ⟨Nat.le_trans (by decide) hRf, Nat.le_trans (by decide) hRl⟩ rfl rfl rfl hl.1 rfl (Nat.le_of_ble_eq_true rfl) ⟨Nat.zero_le _, Nat.zero_le _⟩ dX10_picksFor_114 rfl (fun H locs hO => ?_)
    refine j_if_ne (tgt := 188) C rfl dX10_picksFor_117 (by decide) (fun c16 => ?_) (fun c16 => ?_)
    · have hf := (if_neg c16).symm.trans hf
      have hf := som_e hf
      subst hf
      exact j_vret C hO dX10_picksFor_188
    · have hf := (if_pos c16).symm.trans hf
      refine lv_aload_n C.1 C.2.1 dX10_picksFor_120 rfl (lv_at hl 1 rfl) ?_
      refine lv_iload_n C.1 C.2.1 dX10_picksFor_121 rfl (lv_at hl 0 rfl) ?_
      refine lv_iconst (v := Int32.ofInt 1) C.1 C.2.1 dX10_picksFor_122 rfl ?_
      refine lv_iconst (v := Int32.ofInt (-1)) C.1 C.2.1 dX10_picksFor_123 rfl ?_
      obtain ⟨r17, hr17, hf⟩ := bnd_e hf
      refine j_callV C hO (n := 3) (As := [vI (((w32 (M (jpt l0 1) (w32 (100 + l1)))).tmod (w32 4)) + 1), vI 1, vI (-1)]) (st1 := [vI r17.1]) (c_X10_picksByWait l G r15.2 l0 (((w32 (M (jpt l0 1) (w32 (100 + l1)))).tmod (w32 4)) + 1) 1 (-1) h0 hr17) h0 rfl kC_33_3 kM_33_0 kI_33_1 kS_33_2 kN_1_5 ⟨by decide, by decide, by decide⟩ ⟨Nat.le_trans (by decide) hRf, Nat.le_trans (by decide) hRl⟩ rfl rfl rfl hl.1 rfl (Nat.le_of_ble_eq_true rfl) ⟨Nat.zero_le _, Nat.zero_le _⟩ dX10_picksFor_124 rfl (fun H locs hO => ?_)
      refine lv_pop C.1 C.2.1 dX10_picksFor_127 rfl ?_
      refine lv_goto (tgt := 188) C.1 C.2.1 dX10_picksFor_128 (by decide) ?_
      have hf := som_e hf
      subst hf
      exact j_vret C hO dX10_picksFor_188
  have hf := (if_neg c14).symm.trans hf
  by_cases c18 : w32 (M (jpt l0 1) (w32 (96 + l1))) = 6
  · have hf := (if_pos c18).symm.trans hf
    refine j_tsw (tgt := 131) C c18 dX10_picksFor_23 (by decide) (by decide) rfl (by decide) ?_
    refine lv_aload_n C.1 C.2.1 dX10_picksFor_131 rfl (lv_at hl 1 rfl) ?_
    refine j_get C hO (ci := 10) (k := 1) (v := jR G (jpt l0 1)) h0 rfl inlX10 (by decide) kF_5_23 rfl rfl dX10_picksFor_132 ?_
    refine lv_sipush (v := Int32.ofInt 128) C.1 C.2.1 dX10_picksFor_135 (by decide) ?_
    refine lv_iload_n C.1 C.2.1 dX10_picksFor_138 rfl (lv_at hl 2 rfl) ?_
    refine j_iadd C dX10_picksFor_139 ?_
    obtain ⟨g19, hf⟩ := grd_e hf
    refine j_iald C hO (tp_10_1 h0) rfl g19.1 g19.2 dX10_picksFor_140 ?_
    refine j_if_le (tgt := 170) C rfl dX10_picksFor_141 (by decide) (fun c20 => ?_) (fun c20 => ?_)
    · have hf := (if_pos c20).symm.trans hf
      refine lv_aload_n C.1 C.2.1 dX10_picksFor_170 rfl (lv_at hl 1 rfl) ?_
      refine lv_iload_n C.1 C.2.1 dX10_picksFor_171 rfl (lv_at hl 3 rfl) ?_
      obtain ⟨r21, hr21, hf⟩ := bnd_e hf
      refine j_callV C hO (n := 1) (As := [vI l2]) (st1 := []) (c_X10_picksNext l G M l0 l2 h0 hr21) h0 rfl kC_33_7 kM_33_4 kI_33_5 kS_33_6 kN_1_5 ⟨by decide, by decide, by decide⟩ ⟨Nat.le_trans (by decide) hRf, Nat.le_trans (by decide) hRl⟩ rfl rfl rfl hl.1 rfl (Nat.le_of_ble_eq_true rfl) ⟨Nat.zero_le _, Nat.zero_le _⟩ dX10_picksFor_172 rfl (fun H locs hO => ?_)
      refine lv_goto (tgt := 188) C.1 C.2.1 dX10_picksFor_175 (by decide) ?_
      have hf := som_e hf
      subst hf
      exact j_vret C hO dX10_picksFor_188
    · have hf := (if_neg c20).symm.trans hf
      refine lv_aload_n C.1 C.2.1 dX10_picksFor_144 rfl (lv_at hl 1 rfl) ?_
      refine lv_bipush (v := Int32.ofInt 104) C.1 C.2.1 dX10_picksFor_145 (by decide) ?_
      refine lv_bipush (v := Int32.ofInt 6) C.1 C.2.1 dX10_picksFor_147 (by decide) ?_
      refine lv_iload_n C.1 C.2.1 dX10_picksFor_149 rfl (lv_at hl 2 rfl) ?_
      refine j_imul C dX10_picksFor_150 ?_
      refine j_iadd C dX10_picksFor_151 ?_
      refine lv_aload_n C.1 C.2.1 dX10_picksFor_152 rfl (lv_at hl 1 rfl) ?_
      refine j_get C hO (ci := 10) (k := 1) (v := jR G (jpt l0 1)) h0 rfl inlX10 (by decide) kF_5_23 rfl rfl dX10_picksFor_153 ?_
      refine lv_sipush (v := Int32.ofInt 128) C.1 C.2.1 dX10_picksFor_156 (by decide) ?_
      refine lv_iload_n C.1 C.2.1 dX10_picksFor_159 rfl (lv_at hl 2 rfl) ?_
      refine j_iadd C dX10_picksFor_160 ?_
      obtain ⟨g22, hf⟩ := grd_e hf
      refine j_iald C hO (tp_10_1 h0) rfl g22.1 g22.2 dX10_picksFor_161 ?_
      refine lv_bipush (v := Int32.ofInt 6) C.1 C.2.1 dX10_picksFor_162 (by decide) ?_
      obtain ⟨r23, hr23, hf⟩ := bnd_e hf
      refine j_callV C hO (n := 3) (As := [vI (104 + (6 * l1)), vI (M (jpt l0 1) (w32 (128 + l1))), vI 6]) (st1 := []) (c_X10_copies l G M l0 (104 + (6 * l1)) (M (jpt l0 1) (w32 (128 + l1))) 6 h0 hr23) h0 rfl kC_30_11 kM_30_8 kI_30_9 kS_30_10 kN_1_5 ⟨by decide, by decide, by decide⟩ ⟨Nat.le_trans (by decide) hRf, Nat.le_trans (by decide) hRl⟩ rfl rfl rfl hl.1 rfl (Nat.le_of_ble_eq_true rfl) ⟨Nat.zero_le _, Nat.zero_le _⟩ dX10_picksFor_164 rfl (fun H locs hO => ?_)
      refine lv_goto (tgt := 188) C.1 C.2.1 dX10_picksFor_167 (by decide) ?_
      have hf := som_e hf
      subst hf
      exact j_vret C hO dX10_picksFor_188
  have hf := (if_neg c18).symm.trans hf
  refine j_tsd (tgt := 178) C dX10_picksFor_23 (by omega) (by decide) ?_
  refine lv_aload_n C.1 C.2.1 dX10_picksFor_178 rfl (lv_at hl 1 rfl) ?_
  refine lv_iconst (v := Int32.ofInt 0) C.1 C.2.1 dX10_picksFor_179 rfl ?_
  refine lv_iload_n C.1 C.2.1 dX10_picksFor_180 rfl (lv_at hl 0 rfl) ?_
  obtain ⟨r24, hr24, hf⟩ := bnd_e hf
  refine j_callV C hO (n := 2) (As := [vI 0, vI (((w32 (M (jpt l0 1) (w32 (100 + l1)))).tmod (w32 4)) + 1)]) (st1 := []) (c_X10_comes l G M l0 0 (((w32 (M (jpt l0 1) (w32 (100 + l1)))).tmod (w32 4)) + 1) h0 hr24) h0 rfl kC_30_0 kM_29_21 kI_29_22 kS_29_23 kN_1_5 ⟨by decide, by decide, by decide⟩ ⟨Nat.le_trans (by decide) hRf, Nat.le_trans (by decide) hRl⟩ rfl rfl rfl hl.1 rfl (Nat.le_of_ble_eq_true rfl) ⟨Nat.zero_le _, Nat.zero_le _⟩ dX10_picksFor_181 rfl (fun H locs hO => ?_)
  refine lv_aload_n C.1 C.2.1 dX10_picksFor_184 rfl (lv_at hl 1 rfl) ?_
  obtain ⟨r25, hr25, hf⟩ := bnd_e hf
  refine j_callV C hO (n := 0) (As := []) (st1 := []) (c_X10_picks l G r24 l0 h0 hr25) h0 rfl kC_30_7 kM_30_4 kI_30_5 kS_30_6 kN_1_5 ⟨by decide, by decide, by decide⟩ ⟨Nat.le_trans (by decide) hRf, Nat.le_trans (by decide) hRl⟩ rfl rfl rfl hl.1 rfl (Nat.le_of_ble_eq_true rfl) ⟨Nat.zero_le _, Nat.zero_le _⟩ dX10_picksFor_185 rfl (fun H locs hO => ?_)
  have hf := som_e hf
  subst hf
  exact j_vret C hO dX10_picksFor_188
set_option maxHeartbeats 1000000 in
theorem c_X10_picksFor (l : Launch) (G : jG)  (M : jM) (l0 l1 l2 : Int) (h0 : jkd l0 = (10, 0)) {fin : jM} (h : f_X10_picksFor M l0 l1 l2 = some fin) : Met l yX10_picksFor (Cond.code yX10_picksFor cX10_picksFor 4 none :: wsL_law) ({ frames := 6, cells := 0, slots := 0, locals := 153 } : Room) (va_Pc [jR G l0, vI l1, vI l2] (fun U => jRep G M U)) (jQ G none fin) 0 0 (jA G) := by
  refine Met.ofW (cc := cX10_picksFor) (maxL := 4) (ret := none) (by decide) rfl ?_
  intro p e s m args below meth c s₁ B hml hv
  obtain ⟨rfl, hR0⟩ := hv
  have C : jCx p s m ([jR G l0, vI l1, vI l2] : List Value).toArray meth c cX10_picksFor 4 RX10 (Cond.code yX10_picksFor cX10_picksFor 4 none) none := ⟨B.exec, B.bytes, hml, findClass_of_methodNamed B.named, atoms_spec B.pre, B.returns, B.notSynchronized⟩
  have hO := hR0.ok
  have hl := lv_entry ([jR G l0, vI l1, vI l2]) (n := 4) (Nat.le_of_ble_eq_true rfl)
  rw [lg_entry_eq]
  generalize (lg_sl ([jR G l0, vI l1, vI l2]) ++ List.replicate (4 - (lg_sl ([jR G l0, vI l1, vI l2])).length) Slot.unset).toArray = ls at hl ⊢
  have hl : lv_has ls 4 [(0, jR G l0), (1, vI l1), (2, vI l2)] := hl
  exact w_X10_picksFor C (Nat.le_refl _) (Nat.le_refl _) M l0 l1 l2 h0 h hO hl
set_option maxHeartbeats 4000000 in
theorem w_X10_best_56 {p : Program} {l : Launch} {e : Env} {R : Room} {s : State} {m : MethodId} {args : Array Value} {below : List Frame} {meth : Method} {c : Code} {H : Heap} {locs : List Loc} {ls : Array Slot} {G : jG}  (C : jCx p s m args meth c cX10_best 4 RX10 (Cond.code yX10_best cX10_best 4 (some .int)) (some .int)) (hRf : 6 ≤ R.frames) (hRl : 147 ≤ R.locals)  (M : jM) {fin : Int × jM} (hf : f_X10_best_56 M  = some fin) (hO : jOk G M s H locs) (hl : lv_has ls 4 []) : W p l e R s m args below meth c H locs 0 0 (MQ below (jQ G (some (vI fin.1)) fin.2) args s 0 0 (jA G)) (F0 m 56 ls []) := by
  unfold f_X10_best_56 at hf
  refine lv_iconst (v := Int32.ofInt (-1)) C.1 C.2.1 dX10_best_56 rfl ?_
  refine lv_goto (tgt := 69) C.1 C.2.1 dX10_best_57 (by decide) ?_
  have hf := som_e hf
  subst hf
  exact j_iret C hO dX10_best_69
set_option maxHeartbeats 4000000 in
theorem w_X10_best {p : Program} {l : Launch} {e : Env} {R : Room} {s : State} {m : MethodId} {args : Array Value} {below : List Frame} {meth : Method} {c : Code} {H : Heap} {locs : List Loc} {ls : Array Slot} {G : jG}  (C : jCx p s m args meth c cX10_best 4 RX10 (Cond.code yX10_best cX10_best 4 (some .int)) (some .int)) (hRf : 6 ≤ R.frames) (hRl : 147 ≤ R.locals)  (M : jM) (l0 l1 l2 l3 : Int) (h0 : jkd l0 = (10, 0)) {fin : Int × jM} (hf : f_X10_best M l0 l1 l2 l3 = some fin) (hO : jOk G M s H locs) (hl : lv_has ls 4 [(0, jR G l0), (1, vI l1), (2, vI l2), (3, vI l3)]) : W p l e R s m args below meth c H locs 0 0 (MQ below (jQ G (some (vI fin.1)) fin.2) args s 0 0 (jA G)) (F0 m 0 ls []) := by
  unfold f_X10_best at hf
  refine lv_aload_n C.1 C.2.1 dX10_best_0 rfl (lv_at hl 0 rfl) ?_
  refine lv_iload_n C.1 C.2.1 dX10_best_1 rfl (lv_at hl 1 rfl) ?_
  obtain ⟨r1, hr1, hf⟩ := bnd_e hf
  refine j_callV C hO (n := 1) (As := [vI l1]) (st1 := [vI r1]) (c_X10_isRow l G M l0 l1 h0 hr1) h0 rfl kC_19_14 kM_19_11 kI_19_12 kS_19_13 kN_1_5 ⟨by decide, by decide, by decide⟩ ⟨Nat.le_trans (by decide) hRf, Nat.le_trans (by decide) hRl⟩ rfl rfl rfl hl.1 rfl (Nat.le_of_ble_eq_true rfl) ⟨Nat.zero_le _, Nat.zero_le _⟩ dX10_best_2 rfl (fun H locs hO => ?_)
  refine j_if_eq (tgt := 17) C rfl dX10_best_5 (by decide) (fun c2 => ?_) (fun c2 => ?_)
  · have hf := (if_pos c2).symm.trans hf
    refine lv_iconst (v := Int32.ofInt (-1)) C.1 C.2.1 dX10_best_17 rfl ?_
    have hf := som_e hf
    subst hf
    exact j_iret C hO dX10_best_18
  · have hf := (if_neg c2).symm.trans hf
    refine lv_iload_n C.1 C.2.1 dX10_best_8 rfl (lv_at hl 3 rfl) ?_
    refine lv_iconst (v := Int32.ofInt 0) C.1 C.2.1 dX10_best_9 rfl ?_
    refine lv_iconst (v := Int32.ofInt 3) C.1 C.2.1 dX10_best_10 rfl ?_
    obtain ⟨r3, hr3, hf⟩ := bnd_e hf
    refine j_callS C hO (n := 3) (As := [vI l3, vI 0, vI 3]) (st1 := [vI r3]) (c_X10_in l G M l3 0 3  hr3) kC_7_1 kM_6_23 kT_7_0 kN_1_5 ⟨by decide, by decide, by decide⟩ ⟨Nat.le_trans (by decide) hRf, Nat.le_trans (by decide) hRl⟩ rfl rfl rfl hl.1 rfl (Nat.le_of_ble_eq_true rfl) ⟨Nat.zero_le _, Nat.zero_le _⟩ dX10_best_11 rfl (fun H locs hO => ?_)
    refine j_if_ne (tgt := 19) C rfl dX10_best_14 (by decide) (fun c4 => ?_) (fun c4 => ?_)
    · have hf := (if_neg c4).symm.trans hf
      refine lv_iload_n C.1 C.2.1 dX10_best_19 rfl (lv_at hl 2 rfl) ?_
      refine lv_iconst (v := Int32.ofInt 1) C.1 C.2.1 dX10_best_20 rfl ?_
      refine lv_iconst (v := Int32.ofInt 4) C.1 C.2.1 dX10_best_21 rfl ?_
      obtain ⟨r5, hr5, hf⟩ := bnd_e hf
      refine j_callS C hO (n := 3) (As := [vI l2, vI 1, vI 4]) (st1 := [vI r5]) (c_X10_in l G M l2 1 4  hr5) kC_7_1 kM_6_23 kT_7_0 kN_1_5 ⟨by decide, by decide, by decide⟩ ⟨Nat.le_trans (by decide) hRf, Nat.le_trans (by decide) hRl⟩ rfl rfl rfl hl.1 rfl (Nat.le_of_ble_eq_true rfl) ⟨Nat.zero_le _, Nat.zero_le _⟩ dX10_best_22 rfl (fun H locs hO => ?_)
      refine j_if_ne (tgt := 31) C rfl dX10_best_25 (by decide) (fun c6 => ?_) (fun c6 => ?_)
      · have hf := (if_neg c6).symm.trans hf
        refine lv_aload_n C.1 C.2.1 dX10_best_31 rfl (lv_at hl 0 rfl) ?_
        refine lv_iload_n C.1 C.2.1 dX10_best_32 rfl (lv_at hl 1 rfl) ?_
        obtain ⟨r7, hr7, hf⟩ := bnd_e hf
        refine j_callV C hO (n := 1) (As := [vI l1]) (st1 := [vI r7]) (c_X10_isLawful l G M l0 l1 h0 hr7) h0 rfl kC_23_3 kM_23_0 kI_23_1 kS_23_2 kN_1_5 ⟨by decide, by decide, by decide⟩ ⟨Nat.le_trans (by decide) hRf, Nat.le_trans (by decide) hRl⟩ rfl rfl rfl hl.1 rfl (Nat.le_of_ble_eq_true rfl) ⟨Nat.zero_le _, Nat.zero_le _⟩ dX10_best_33 rfl (fun H locs hO => ?_)
        refine j_if_ne (tgt := 42) C rfl dX10_best_36 (by decide) (fun c8 => ?_) (fun c8 => ?_)
        · have hf := (if_neg c8).symm.trans hf
          refine lv_iload_n C.1 C.2.1 dX10_best_42 rfl (lv_at hl 3 rfl) ?_
          refine lv_iload_n C.1 C.2.1 dX10_best_43 rfl (lv_at hl 2 rfl) ?_
          refine j_icmp_ge (tgt := 56) C rfl rfl dX10_best_44 (by decide) (fun c9 => ?_) (fun c9 => ?_)
          · have hf := (if_pos c9).symm.trans hf
            exact w_X10_best_56 C hRf hRl M   hf hO (lv_sub hl [] rfl)
          · have hf := (if_neg c9).symm.trans hf
            refine lv_aload_n C.1 C.2.1 dX10_best_47 rfl (lv_at hl 0 rfl) ?_
            refine lv_iload_n C.1 C.2.1 dX10_best_48 rfl (lv_at hl 1 rfl) ?_
            refine lv_iload_n C.1 C.2.1 dX10_best_49 rfl (lv_at hl 2 rfl) ?_
            obtain ⟨r10, hr10, hf⟩ := bnd_e hf
            refine j_callV C hO (n := 2) (As := [vI l1, vI l2]) (st1 := [vI r10.1]) (c_X10_picksBest l G M l0 l1 l2 h0 hr10) h0 rfl kC_29_16 kM_29_13 kI_29_14 kS_29_15 kN_1_5 ⟨by decide, by decide, by decide⟩ ⟨Nat.le_trans (by decide) hRf, Nat.le_trans (by decide) hRl⟩ rfl rfl rfl hl.1 rfl (Nat.le_of_ble_eq_true rfl) ⟨Nat.zero_le _, Nat.zero_le _⟩ dX10_best_50 rfl (fun H locs hO => ?_)
            refine j_if_ne (tgt := 60) C rfl dX10_best_53 (by decide) (fun c11 => ?_) (fun c11 => ?_)
            · have hf := (if_neg c11).symm.trans hf
              refine lv_aload_n C.1 C.2.1 dX10_best_60 rfl (lv_at hl 0 rfl) ?_
              refine j_get C hO (ci := 10) (k := 1) (v := jR G (jpt l0 1)) h0 rfl inlX10 (by decide) kF_5_23 rfl rfl dX10_best_61 ?_
              refine lv_bipush (v := Int32.ofInt 46) C.1 C.2.1 dX10_best_64 (by decide) ?_
              refine lv_iload_n C.1 C.2.1 dX10_best_66 rfl (lv_at hl 3 rfl) ?_
              refine j_iadd C dX10_best_67 ?_
              obtain ⟨g12, hf⟩ := grd_e hf
              refine j_iald C hO (tp_10_1 h0) rfl g12.1 g12.2 dX10_best_68 ?_
              have hf := som_e hf
              subst hf
              exact j_iret C hO dX10_best_69
            · have hf := (if_pos c11).symm.trans hf
              exact w_X10_best_56 C hRf hRl r10.2   hf hO (lv_sub hl [] rfl)
        · have hf := (if_pos c8).symm.trans hf
          refine lv_bipush (v := Int32.ofInt (-3)) C.1 C.2.1 dX10_best_39 (by decide) ?_
          have hf := som_e hf
          subst hf
          exact j_iret C hO dX10_best_41
      · have hf := (if_pos c6).symm.trans hf
        refine lv_bipush (v := Int32.ofInt (-2)) C.1 C.2.1 dX10_best_28 (by decide) ?_
        have hf := som_e hf
        subst hf
        exact j_iret C hO dX10_best_30
    · have hf := (if_pos c4).symm.trans hf
      refine lv_iconst (v := Int32.ofInt (-1)) C.1 C.2.1 dX10_best_17 rfl ?_
      have hf := som_e hf
      subst hf
      exact j_iret C hO dX10_best_18
set_option maxHeartbeats 1000000 in
theorem c_X10_best (l : Launch) (G : jG)  (M : jM) (l0 l1 l2 l3 : Int) (h0 : jkd l0 = (10, 0)) {fin : Int × jM} (h : f_X10_best M l0 l1 l2 l3 = some fin) : Met l yX10_best (Cond.code yX10_best cX10_best 4 (some .int) :: wsL_law) ({ frames := 6, cells := 0, slots := 0, locals := 147 } : Room) (va_Pc [jR G l0, vI l1, vI l2, vI l3] (fun U => jRep G M U)) (jQ G (some (vI fin.1)) fin.2) 0 0 (jA G) := by
  refine Met.ofW (cc := cX10_best) (maxL := 4) (ret := (some .int)) (by decide) rfl ?_
  intro p e s m args below meth c s₁ B hml hv
  obtain ⟨rfl, hR0⟩ := hv
  have C : jCx p s m ([jR G l0, vI l1, vI l2, vI l3] : List Value).toArray meth c cX10_best 4 RX10 (Cond.code yX10_best cX10_best 4 (some .int)) (some .int) := ⟨B.exec, B.bytes, hml, findClass_of_methodNamed B.named, atoms_spec B.pre, B.returns, B.notSynchronized⟩
  have hO := hR0.ok
  have hl := lv_entry ([jR G l0, vI l1, vI l2, vI l3]) (n := 4) (Nat.le_of_ble_eq_true rfl)
  rw [lg_entry_eq]
  generalize (lg_sl ([jR G l0, vI l1, vI l2, vI l3]) ++ List.replicate (4 - (lg_sl ([jR G l0, vI l1, vI l2, vI l3])).length) Slot.unset).toArray = ls at hl ⊢
  have hl : lv_has ls 4 [(0, jR G l0), (1, vI l1), (2, vI l2), (3, vI l3)] := hl
  exact w_X10_best C (Nat.le_refl _) (Nat.le_refl _) M l0 l1 l2 l3 h0 h hO hl
set_option maxHeartbeats 4000000 in
theorem w_X10_isAheadOf {p : Program} {l : Launch} {e : Env} {R : Room} {s : State} {m : MethodId} {args : Array Value} {below : List Frame} {meth : Method} {c : Code} {H : Heap} {locs : List Loc} {ls : Array Slot} {G : jG}  (C : jCx p s m args meth c cX10_isAheadOf 3 RX10 (Cond.code yX10_isAheadOf cX10_isAheadOf 3 (some .boolean)) (some .boolean)) (hRf : 5 ≤ R.frames) (hRl : 119 ≤ R.locals)  (M : jM) (l0 l1 l2 : Int) (h0 : jkd l0 = (10, 0)) {fin : Int × jM} (hf : f_X10_isAheadOf M l0 l1 l2 = some fin) (hO : jOk G M s H locs) (hl : lv_has ls 3 [(0, jR G l0), (1, vI l1), (2, vI l2)]) : W p l e R s m args below meth c H locs 0 0 (MQ below (jQ G (some (vI fin.1)) fin.2) args s 0 0 (jA G)) (F0 m 0 ls []) := by
  unfold f_X10_isAheadOf at hf
  refine lv_aload_n C.1 C.2.1 dX10_isAheadOf_0 rfl (lv_at hl 0 rfl) ?_
  refine lv_iload_n C.1 C.2.1 dX10_isAheadOf_1 rfl (lv_at hl 1 rfl) ?_
  refine lv_iload_n C.1 C.2.1 dX10_isAheadOf_2 rfl (lv_at hl 2 rfl) ?_
  obtain ⟨r1, hr1, hf⟩ := bnd_e hf
  refine j_callV C hO (n := 2) (As := [vI l1, vI l2]) (st1 := [vI r1]) (c_X10_areApart l G M l0 l1 l2 h0 hr1) h0 rfl kC_26_0 kM_25_21 kI_25_22 kS_25_23 kN_1_5 ⟨by decide, by decide, by decide⟩ ⟨Nat.le_trans (by decide) hRf, Nat.le_trans (by decide) hRl⟩ rfl rfl rfl hl.1 rfl (Nat.le_of_ble_eq_true rfl) ⟨Nat.zero_le _, Nat.zero_le _⟩ dX10_isAheadOf_3 rfl (fun H locs hO => ?_)
  refine j_if_ne (tgt := 11) C rfl dX10_isAheadOf_6 (by decide) (fun c2 => ?_) (fun c2 => ?_)
  · have hf := (if_neg c2).symm.trans hf
    refine lv_aload_n C.1 C.2.1 dX10_isAheadOf_11 rfl (lv_at hl 0 rfl) ?_
    refine lv_iload_n C.1 C.2.1 dX10_isAheadOf_12 rfl (lv_at hl 1 rfl) ?_
    refine lv_iload_n C.1 C.2.1 dX10_isAheadOf_13 rfl (lv_at hl 2 rfl) ?_
    obtain ⟨r3, hr3, hf⟩ := bnd_e hf
    refine j_callV C hO (n := 2) (As := [vI l1, vI l2]) (st1 := []) (c_X10_looksForOdds l G M l0 l1 l2 h0 hr3) h0 rfl kC_26_8 kM_26_5 kI_26_6 kS_26_7 kN_1_5 ⟨by decide, by decide, by decide⟩ ⟨Nat.le_trans (by decide) hRf, Nat.le_trans (by decide) hRl⟩ rfl rfl rfl hl.1 rfl (Nat.le_of_ble_eq_true rfl) ⟨Nat.zero_le _, Nat.zero_le _⟩ dX10_isAheadOf_14 rfl (fun H locs hO => ?_)
    refine lv_aload_n C.1 C.2.1 dX10_isAheadOf_17 rfl (lv_at hl 0 rfl) ?_
    refine j_get C hO (ci := 10) (k := 13) (v := vL (r3 l0 13)) h0 rfl inlX10 (by decide) kF_25_15 rfl rfl dX10_isAheadOf_18 ?_
    refine lv_aload_n C.1 C.2.1 dX10_isAheadOf_21 rfl (lv_at hl 0 rfl) ?_
    refine j_get C hO (ci := 10) (k := 14) (v := vL (r3 l0 14)) h0 rfl inlX10 (by decide) kF_25_16 rfl rfl dX10_isAheadOf_22 ?_
    refine j_lcmp_le (tgt := 33) C rfl rfl dX10_isAheadOf_25 dX10_isAheadOf_26 (by decide) (fun c4 => ?_) (fun c4 => ?_)
    · have hf := (if_pos c4).symm.trans hf
      refine lv_iconst (v := Int32.ofInt 0) C.1 C.2.1 dX10_isAheadOf_33 rfl ?_
      have hf := som_e hf
      subst hf
      exact j_zret C hO (Or.inl rfl) dX10_isAheadOf_34
    · have hf := (if_neg c4).symm.trans hf
      refine lv_iconst (v := Int32.ofInt 1) C.1 C.2.1 dX10_isAheadOf_29 rfl ?_
      refine lv_goto (tgt := 34) C.1 C.2.1 dX10_isAheadOf_30 (by decide) ?_
      have hf := som_e hf
      subst hf
      exact j_zret C hO (Or.inr rfl) dX10_isAheadOf_34
  · have hf := (if_pos c2).symm.trans hf
    refine lv_iconst (v := Int32.ofInt 0) C.1 C.2.1 dX10_isAheadOf_9 rfl ?_
    have hf := som_e hf
    subst hf
    exact j_zret C hO (Or.inl rfl) dX10_isAheadOf_10
set_option maxHeartbeats 1000000 in
theorem c_X10_isAheadOf (l : Launch) (G : jG)  (M : jM) (l0 l1 l2 : Int) (h0 : jkd l0 = (10, 0)) {fin : Int × jM} (h : f_X10_isAheadOf M l0 l1 l2 = some fin) : Met l yX10_isAheadOf (Cond.code yX10_isAheadOf cX10_isAheadOf 3 (some .boolean) :: wsL_law) ({ frames := 5, cells := 0, slots := 0, locals := 119 } : Room) (va_Pc [jR G l0, vI l1, vI l2] (fun U => jRep G M U)) (jQ G (some (vI fin.1)) fin.2) 0 0 (jA G) := by
  refine Met.ofW (cc := cX10_isAheadOf) (maxL := 3) (ret := (some .boolean)) (by decide) rfl ?_
  intro p e s m args below meth c s₁ B hml hv
  obtain ⟨rfl, hR0⟩ := hv
  have C : jCx p s m ([jR G l0, vI l1, vI l2] : List Value).toArray meth c cX10_isAheadOf 3 RX10 (Cond.code yX10_isAheadOf cX10_isAheadOf 3 (some .boolean)) (some .boolean) := ⟨B.exec, B.bytes, hml, findClass_of_methodNamed B.named, atoms_spec B.pre, B.returns, B.notSynchronized⟩
  have hO := hR0.ok
  have hl := lv_entry ([jR G l0, vI l1, vI l2]) (n := 3) (Nat.le_of_ble_eq_true rfl)
  rw [lg_entry_eq]
  generalize (lg_sl ([jR G l0, vI l1, vI l2]) ++ List.replicate (3 - (lg_sl ([jR G l0, vI l1, vI l2])).length) Slot.unset).toArray = ls at hl ⊢
  have hl : lv_has ls 3 [(0, jR G l0), (1, vI l1), (2, vI l2)] := hl
  exact w_X10_isAheadOf C (Nat.le_refl _) (Nat.le_refl _) M l0 l1 l2 h0 h hO hl
set_option maxHeartbeats 4000000 in
theorem w_X10_ring {p : Program} {l : Launch} {e : Env} {R : Room} {s : State} {m : MethodId} {args : Array Value} {below : List Frame} {meth : Method} {c : Code} {H : Heap} {locs : List Loc} {ls : Array Slot} {G : jG}  (C : jCx p s m args meth c cX10_ring 4 RX10 (Cond.code yX10_ring cX10_ring 4 (some .int)) (some .int)) (hRf : 6 ≤ R.frames) (hRl : 141 ≤ R.locals)  (M : jM) (l0 l1 l2 l3 : Int) (h0 : jkd l0 = (10, 0)) {fin : Int × jM} (hf : f_X10_ring M l0 l1 l2 l3 = some fin) (hO : jOk G M s H locs) (hl : lv_has ls 4 [(0, jR G l0), (1, vI l1), (2, vI l2), (3, vI l3)]) : W p l e R s m args below meth c H locs 0 0 (MQ below (jQ G (some (vI fin.1)) fin.2) args s 0 0 (jA G)) (F0 m 0 ls []) := by
  unfold f_X10_ring at hf
  refine lv_aload_n C.1 C.2.1 dX10_ring_0 rfl (lv_at hl 0 rfl) ?_
  refine lv_iload_n C.1 C.2.1 dX10_ring_1 rfl (lv_at hl 1 rfl) ?_
  obtain ⟨r1, hr1, hf⟩ := bnd_e hf
  refine j_callV C hO (n := 1) (As := [vI l1]) (st1 := [vI r1]) (c_X10_isRow l G M l0 l1 h0 hr1) h0 rfl kC_19_14 kM_19_11 kI_19_12 kS_19_13 kN_1_5 ⟨by decide, by decide, by decide⟩ ⟨Nat.le_trans (by decide) hRf, Nat.le_trans (by decide) hRl⟩ rfl rfl rfl hl.1 rfl (Nat.le_of_ble_eq_true rfl) ⟨Nat.zero_le _, Nat.zero_le _⟩ dX10_ring_2 rfl (fun H locs hO => ?_)
  refine j_if_eq (tgt := 24) C rfl dX10_ring_5 (by decide) (fun c2 => ?_) (fun c2 => ?_)
  · have hf := (if_pos c2).symm.trans hf
    refine lv_iconst (v := Int32.ofInt (-1)) C.1 C.2.1 dX10_ring_24 rfl ?_
    have hf := som_e hf
    subst hf
    exact j_iret C hO dX10_ring_25
  · have hf := (if_neg c2).symm.trans hf
    refine lv_aload_n C.1 C.2.1 dX10_ring_8 rfl (lv_at hl 0 rfl) ?_
    refine lv_iload_n C.1 C.2.1 dX10_ring_9 rfl (lv_at hl 2 rfl) ?_
    obtain ⟨r3, hr3, hf⟩ := bnd_e hf
    refine j_callV C hO (n := 1) (As := [vI l2]) (st1 := [vI r3]) (c_X10_isRow l G M l0 l2 h0 hr3) h0 rfl kC_19_14 kM_19_11 kI_19_12 kS_19_13 kN_1_5 ⟨by decide, by decide, by decide⟩ ⟨Nat.le_trans (by decide) hRf, Nat.le_trans (by decide) hRl⟩ rfl rfl rfl hl.1 rfl (Nat.le_of_ble_eq_true rfl) ⟨Nat.zero_le _, Nat.zero_le _⟩ dX10_ring_10 rfl (fun H locs hO => ?_)
    refine j_if_eq (tgt := 24) C rfl dX10_ring_13 (by decide) (fun c4 => ?_) (fun c4 => ?_)
    · have hf := (if_pos c4).symm.trans hf
      refine lv_iconst (v := Int32.ofInt (-1)) C.1 C.2.1 dX10_ring_24 rfl ?_
      have hf := som_e hf
      subst hf
      exact j_iret C hO dX10_ring_25
    · have hf := (if_neg c4).symm.trans hf
      refine lv_aload_n C.1 C.2.1 dX10_ring_16 rfl (lv_at hl 0 rfl) ?_
      refine lv_iload_n C.1 C.2.1 dX10_ring_17 rfl (lv_at hl 3 rfl) ?_
      obtain ⟨r5, hr5, hf⟩ := bnd_e hf
      refine j_callV C hO (n := 1) (As := [vI l3]) (st1 := [vI r5]) (c_X10_isRow l G M l0 l3 h0 hr5) h0 rfl kC_19_14 kM_19_11 kI_19_12 kS_19_13 kN_1_5 ⟨by decide, by decide, by decide⟩ ⟨Nat.le_trans (by decide) hRf, Nat.le_trans (by decide) hRl⟩ rfl rfl rfl hl.1 rfl (Nat.le_of_ble_eq_true rfl) ⟨Nat.zero_le _, Nat.zero_le _⟩ dX10_ring_18 rfl (fun H locs hO => ?_)
      refine j_if_ne (tgt := 26) C rfl dX10_ring_21 (by decide) (fun c6 => ?_) (fun c6 => ?_)
      · have hf := (if_neg c6).symm.trans hf
        refine lv_aload_n C.1 C.2.1 dX10_ring_26 rfl (lv_at hl 0 rfl) ?_
        refine lv_iload_n C.1 C.2.1 dX10_ring_27 rfl (lv_at hl 1 rfl) ?_
        obtain ⟨r7, hr7, hf⟩ := bnd_e hf
        refine j_callV C hO (n := 1) (As := [vI l1]) (st1 := [vI r7]) (c_X10_isLawful l G M l0 l1 h0 hr7) h0 rfl kC_23_3 kM_23_0 kI_23_1 kS_23_2 kN_1_5 ⟨by decide, by decide, by decide⟩ ⟨Nat.le_trans (by decide) hRf, Nat.le_trans (by decide) hRl⟩ rfl rfl rfl hl.1 rfl (Nat.le_of_ble_eq_true rfl) ⟨Nat.zero_le _, Nat.zero_le _⟩ dX10_ring_28 rfl (fun H locs hO => ?_)
        refine j_if_eq (tgt := 50) C rfl dX10_ring_31 (by decide) (fun c8 => ?_) (fun c8 => ?_)
        · have hf := (if_pos c8).symm.trans hf
          refine lv_bipush (v := Int32.ofInt (-3)) C.1 C.2.1 dX10_ring_50 (by decide) ?_
          have hf := som_e hf
          subst hf
          exact j_iret C hO dX10_ring_52
        · have hf := (if_neg c8).symm.trans hf
          refine lv_aload_n C.1 C.2.1 dX10_ring_34 rfl (lv_at hl 0 rfl) ?_
          refine lv_iload_n C.1 C.2.1 dX10_ring_35 rfl (lv_at hl 2 rfl) ?_
          obtain ⟨r9, hr9, hf⟩ := bnd_e hf
          refine j_callV C hO (n := 1) (As := [vI l2]) (st1 := [vI r9]) (c_X10_isLawful l G M l0 l2 h0 hr9) h0 rfl kC_23_3 kM_23_0 kI_23_1 kS_23_2 kN_1_5 ⟨by decide, by decide, by decide⟩ ⟨Nat.le_trans (by decide) hRf, Nat.le_trans (by decide) hRl⟩ rfl rfl rfl hl.1 rfl (Nat.le_of_ble_eq_true rfl) ⟨Nat.zero_le _, Nat.zero_le _⟩ dX10_ring_36 rfl (fun H locs hO => ?_)
          refine j_if_eq (tgt := 50) C rfl dX10_ring_39 (by decide) (fun c10 => ?_) (fun c10 => ?_)
          · have hf := (if_pos c10).symm.trans hf
            refine lv_bipush (v := Int32.ofInt (-3)) C.1 C.2.1 dX10_ring_50 (by decide) ?_
            have hf := som_e hf
            subst hf
            exact j_iret C hO dX10_ring_52
          · have hf := (if_neg c10).symm.trans hf
            refine lv_aload_n C.1 C.2.1 dX10_ring_42 rfl (lv_at hl 0 rfl) ?_
            refine lv_iload_n C.1 C.2.1 dX10_ring_43 rfl (lv_at hl 3 rfl) ?_
            obtain ⟨r11, hr11, hf⟩ := bnd_e hf
            refine j_callV C hO (n := 1) (As := [vI l3]) (st1 := [vI r11]) (c_X10_isLawful l G M l0 l3 h0 hr11) h0 rfl kC_23_3 kM_23_0 kI_23_1 kS_23_2 kN_1_5 ⟨by decide, by decide, by decide⟩ ⟨Nat.le_trans (by decide) hRf, Nat.le_trans (by decide) hRl⟩ rfl rfl rfl hl.1 rfl (Nat.le_of_ble_eq_true rfl) ⟨Nat.zero_le _, Nat.zero_le _⟩ dX10_ring_44 rfl (fun H locs hO => ?_)
            refine j_if_ne (tgt := 53) C rfl dX10_ring_47 (by decide) (fun c12 => ?_) (fun c12 => ?_)
            · have hf := (if_neg c12).symm.trans hf
              refine lv_aload_n C.1 C.2.1 dX10_ring_53 rfl (lv_at hl 0 rfl) ?_
              refine lv_iload_n C.1 C.2.1 dX10_ring_54 rfl (lv_at hl 1 rfl) ?_
              refine lv_iload_n C.1 C.2.1 dX10_ring_55 rfl (lv_at hl 2 rfl) ?_
              obtain ⟨r13, hr13, hf⟩ := bnd_e hf
              refine j_callV C hO (n := 2) (As := [vI l1, vI l2]) (st1 := [vI r13.1]) (c_X10_isAheadOf l G M l0 l1 l2 h0 hr13) h0 rfl kC_31_4 kM_31_1 kI_31_2 kS_31_3 kN_1_5 ⟨by decide, by decide, by decide⟩ ⟨Nat.le_trans (by decide) hRf, Nat.le_trans (by decide) hRl⟩ rfl rfl rfl hl.1 rfl (Nat.le_of_ble_eq_true rfl) ⟨Nat.zero_le _, Nat.zero_le _⟩ dX10_ring_56 rfl (fun H locs hO => ?_)
              refine j_if_eq (tgt := 84) C rfl dX10_ring_59 (by decide) (fun c14 => ?_) (fun c14 => ?_)
              · have hf := (if_pos c14).symm.trans hf
                refine lv_iconst (v := Int32.ofInt 0) C.1 C.2.1 dX10_ring_84 rfl ?_
                have hf := som_e hf
                subst hf
                exact j_iret C hO dX10_ring_85
              · have hf := (if_neg c14).symm.trans hf
                refine lv_aload_n C.1 C.2.1 dX10_ring_62 rfl (lv_at hl 0 rfl) ?_
                refine lv_iload_n C.1 C.2.1 dX10_ring_63 rfl (lv_at hl 2 rfl) ?_
                refine lv_iload_n C.1 C.2.1 dX10_ring_64 rfl (lv_at hl 3 rfl) ?_
                obtain ⟨r15, hr15, hf⟩ := bnd_e hf
                refine j_callV C hO (n := 2) (As := [vI l2, vI l3]) (st1 := [vI r15.1]) (c_X10_isAheadOf l G r13.2 l0 l2 l3 h0 hr15) h0 rfl kC_31_4 kM_31_1 kI_31_2 kS_31_3 kN_1_5 ⟨by decide, by decide, by decide⟩ ⟨Nat.le_trans (by decide) hRf, Nat.le_trans (by decide) hRl⟩ rfl rfl rfl hl.1 rfl (Nat.le_of_ble_eq_true rfl) ⟨Nat.zero_le _, Nat.zero_le _⟩ dX10_ring_65 rfl (fun H locs hO => ?_)
                refine j_if_eq (tgt := 84) C rfl dX10_ring_68 (by decide) (fun c16 => ?_) (fun c16 => ?_)
                · have hf := (if_pos c16).symm.trans hf
                  refine lv_iconst (v := Int32.ofInt 0) C.1 C.2.1 dX10_ring_84 rfl ?_
                  have hf := som_e hf
                  subst hf
                  exact j_iret C hO dX10_ring_85
                · have hf := (if_neg c16).symm.trans hf
                  refine lv_aload_n C.1 C.2.1 dX10_ring_71 rfl (lv_at hl 0 rfl) ?_
                  refine lv_iload_n C.1 C.2.1 dX10_ring_72 rfl (lv_at hl 3 rfl) ?_
                  refine lv_iload_n C.1 C.2.1 dX10_ring_73 rfl (lv_at hl 1 rfl) ?_
                  obtain ⟨r17, hr17, hf⟩ := bnd_e hf
                  refine j_callV C hO (n := 2) (As := [vI l3, vI l1]) (st1 := [vI r17.1]) (c_X10_isAheadOf l G r15.2 l0 l3 l1 h0 hr17) h0 rfl kC_31_4 kM_31_1 kI_31_2 kS_31_3 kN_1_5 ⟨by decide, by decide, by decide⟩ ⟨Nat.le_trans (by decide) hRf, Nat.le_trans (by decide) hRl⟩ rfl rfl rfl hl.1 rfl (Nat.le_of_ble_eq_true rfl) ⟨Nat.zero_le _, Nat.zero_le _⟩ dX10_ring_74 rfl (fun H locs hO => ?_)
                  refine j_if_eq (tgt := 84) C rfl dX10_ring_77 (by decide) (fun c18 => ?_) (fun c18 => ?_)
                  · have hf := (if_pos c18).symm.trans hf
                    refine lv_iconst (v := Int32.ofInt 0) C.1 C.2.1 dX10_ring_84 rfl ?_
                    have hf := som_e hf
                    subst hf
                    exact j_iret C hO dX10_ring_85
                  · have hf := (if_neg c18).symm.trans hf
                    refine lv_iconst (v := Int32.ofInt 1) C.1 C.2.1 dX10_ring_80 rfl ?_
                    refine lv_goto (tgt := 85) C.1 C.2.1 dX10_ring_81 (by decide) ?_
                    have hf := som_e hf
                    subst hf
                    exact j_iret C hO dX10_ring_85
            · have hf := (if_pos c12).symm.trans hf
              refine lv_bipush (v := Int32.ofInt (-3)) C.1 C.2.1 dX10_ring_50 (by decide) ?_
              have hf := som_e hf
              subst hf
              exact j_iret C hO dX10_ring_52
      · have hf := (if_pos c6).symm.trans hf
        refine lv_iconst (v := Int32.ofInt (-1)) C.1 C.2.1 dX10_ring_24 rfl ?_
        have hf := som_e hf
        subst hf
        exact j_iret C hO dX10_ring_25
set_option maxHeartbeats 1000000 in
theorem c_X10_ring (l : Launch) (G : jG)  (M : jM) (l0 l1 l2 l3 : Int) (h0 : jkd l0 = (10, 0)) {fin : Int × jM} (h : f_X10_ring M l0 l1 l2 l3 = some fin) : Met l yX10_ring (Cond.code yX10_ring cX10_ring 4 (some .int) :: wsL_law) ({ frames := 6, cells := 0, slots := 0, locals := 141 } : Room) (va_Pc [jR G l0, vI l1, vI l2, vI l3] (fun U => jRep G M U)) (jQ G (some (vI fin.1)) fin.2) 0 0 (jA G) := by
  refine Met.ofW (cc := cX10_ring) (maxL := 4) (ret := (some .int)) (by decide) rfl ?_
  intro p e s m args below meth c s₁ B hml hv
  obtain ⟨rfl, hR0⟩ := hv
  have C : jCx p s m ([jR G l0, vI l1, vI l2, vI l3] : List Value).toArray meth c cX10_ring 4 RX10 (Cond.code yX10_ring cX10_ring 4 (some .int)) (some .int) := ⟨B.exec, B.bytes, hml, findClass_of_methodNamed B.named, atoms_spec B.pre, B.returns, B.notSynchronized⟩
  have hO := hR0.ok
  have hl := lv_entry ([jR G l0, vI l1, vI l2, vI l3]) (n := 4) (Nat.le_of_ble_eq_true rfl)
  rw [lg_entry_eq]
  generalize (lg_sl ([jR G l0, vI l1, vI l2, vI l3]) ++ List.replicate (4 - (lg_sl ([jR G l0, vI l1, vI l2, vI l3])).length) Slot.unset).toArray = ls at hl ⊢
  have hl : lv_has ls 4 [(0, jR G l0), (1, vI l1), (2, vI l2), (3, vI l3)] := hl
  exact w_X10_ring C (Nat.le_refl _) (Nat.le_refl _) M l0 l1 l2 l3 h0 h hO hl
set_option maxHeartbeats 4000000 in
theorem w_X10_pick {p : Program} {l : Launch} {e : Env} {R : Room} {s : State} {m : MethodId} {args : Array Value} {below : List Frame} {meth : Method} {c : Code} {H : Heap} {locs : List Loc} {ls : Array Slot} {G : jG}  (C : jCx p s m args meth c cX10_pick 5 RX10 (Cond.code yX10_pick cX10_pick 5 (some .int)) (some .int)) (hRf : 7 ≤ R.frames) (hRl : 176 ≤ R.locals)  (M : jM) (l0 l1 l2 l3 : Int) (h0 : jkd l0 = (10, 0)) {fin : Int × jM} (hf : f_X10_pick M l0 l1 l2 l3 = some fin) (hO : jOk G M s H locs) (hl : lv_has ls 5 [(0, jR G l0), (1, vI l1), (2, vI l2), (3, vI l3)]) : W p l e R s m args below meth c H locs 0 0 (MQ below (jQ G (some (vI fin.1)) fin.2) args s 0 0 (jA G)) (F0 m 0 ls []) := by
  unfold f_X10_pick at hf
  refine lv_aload_n C.1 C.2.1 dX10_pick_0 rfl (lv_at hl 0 rfl) ?_
  refine lv_iload_n C.1 C.2.1 dX10_pick_1 rfl (lv_at hl 1 rfl) ?_
  obtain ⟨r1, hr1, hf⟩ := bnd_e hf
  refine j_callV C hO (n := 1) (As := [vI l1]) (st1 := [vI r1]) (c_X10_isPlayer l G M l0 l1 h0 hr1) h0 rfl kC_20_22 kM_20_19 kI_20_20 kS_20_21 kN_1_5 ⟨by decide, by decide, by decide⟩ ⟨Nat.le_trans (by decide) hRf, Nat.le_trans (by decide) hRl⟩ rfl rfl rfl hl.1 rfl (Nat.le_of_ble_eq_true rfl) ⟨Nat.zero_le _, Nat.zero_le _⟩ dX10_pick_2 rfl (fun H locs hO => ?_)
  refine j_if_eq (tgt := 25) C rfl dX10_pick_5 (by decide) (fun c2 => ?_) (fun c2 => ?_)
  · have hf := (if_pos c2).symm.trans hf
    refine lv_iconst (v := Int32.ofInt (-1)) C.1 C.2.1 dX10_pick_25 rfl ?_
    have hf := som_e hf
    subst hf
    exact j_iret C hO dX10_pick_26
  · have hf := (if_neg c2).symm.trans hf
    refine lv_aload_n C.1 C.2.1 dX10_pick_8 rfl (lv_at hl 0 rfl) ?_
    refine lv_iload_n C.1 C.2.1 dX10_pick_9 rfl (lv_at hl 2 rfl) ?_
    obtain ⟨r3, hr3, hf⟩ := bnd_e hf
    refine j_callV C hO (n := 1) (As := [vI l2]) (st1 := [vI r3]) (c_X10_isRow l G M l0 l2 h0 hr3) h0 rfl kC_19_14 kM_19_11 kI_19_12 kS_19_13 kN_1_5 ⟨by decide, by decide, by decide⟩ ⟨Nat.le_trans (by decide) hRf, Nat.le_trans (by decide) hRl⟩ rfl rfl rfl hl.1 rfl (Nat.le_of_ble_eq_true rfl) ⟨Nat.zero_le _, Nat.zero_le _⟩ dX10_pick_10 rfl (fun H locs hO => ?_)
    refine j_if_eq (tgt := 25) C rfl dX10_pick_13 (by decide) (fun c4 => ?_) (fun c4 => ?_)
    · have hf := (if_pos c4).symm.trans hf
      refine lv_iconst (v := Int32.ofInt (-1)) C.1 C.2.1 dX10_pick_25 rfl ?_
      have hf := som_e hf
      subst hf
      exact j_iret C hO dX10_pick_26
    · have hf := (if_neg c4).symm.trans hf
      refine lv_iload_n C.1 C.2.1 dX10_pick_16 rfl (lv_at hl 3 rfl) ?_
      refine lv_iconst (v := Int32.ofInt (-1)) C.1 C.2.1 dX10_pick_17 rfl ?_
      refine lv_iconst (v := Int32.ofInt 5) C.1 C.2.1 dX10_pick_18 rfl ?_
      obtain ⟨r5, hr5, hf⟩ := bnd_e hf
      refine j_callS C hO (n := 3) (As := [vI l3, vI (-1), vI 5]) (st1 := [vI r5]) (c_X10_in l G M l3 (-1) 5  hr5) kC_7_1 kM_6_23 kT_7_0 kN_1_5 ⟨by decide, by decide, by decide⟩ ⟨Nat.le_trans (by decide) hRf, Nat.le_trans (by decide) hRl⟩ rfl rfl rfl hl.1 rfl (Nat.le_of_ble_eq_true rfl) ⟨Nat.zero_le _, Nat.zero_le _⟩ dX10_pick_19 rfl (fun H locs hO => ?_)
      refine j_if_ne (tgt := 27) C rfl dX10_pick_22 (by decide) (fun c6 => ?_) (fun c6 => ?_)
      · have hf := (if_neg c6).symm.trans hf
        refine lv_aload_n C.1 C.2.1 dX10_pick_27 rfl (lv_at hl 0 rfl) ?_
        refine lv_iload_n C.1 C.2.1 dX10_pick_28 rfl (lv_at hl 2 rfl) ?_
        obtain ⟨r7, hr7, hf⟩ := bnd_e hf
        refine j_callV C hO (n := 1) (As := [vI l2]) (st1 := [vI r7]) (c_X10_isLawful l G M l0 l2 h0 hr7) h0 rfl kC_23_3 kM_23_0 kI_23_1 kS_23_2 kN_1_5 ⟨by decide, by decide, by decide⟩ ⟨Nat.le_trans (by decide) hRf, Nat.le_trans (by decide) hRl⟩ rfl rfl rfl hl.1 rfl (Nat.le_of_ble_eq_true rfl) ⟨Nat.zero_le _, Nat.zero_le _⟩ dX10_pick_29 rfl (fun H locs hO => ?_)
        refine j_if_ne (tgt := 38) C rfl dX10_pick_32 (by decide) (fun c8 => ?_) (fun c8 => ?_)
        · have hf := (if_neg c8).symm.trans hf
          refine lv_aload_n C.1 C.2.1 dX10_pick_38 rfl (lv_at hl 0 rfl) ?_
          refine lv_iload_n C.1 C.2.1 dX10_pick_39 rfl (lv_at hl 1 rfl) ?_
          refine lv_iload_n C.1 C.2.1 dX10_pick_40 rfl (lv_at hl 2 rfl) ?_
          obtain ⟨r9, hr9, hf⟩ := bnd_e hf
          refine j_callV C hO (n := 2) (As := [vI l1, vI l2]) (st1 := []) (c_X10_picksFor l G M l0 l1 l2 h0 hr9) h0 rfl kC_32_23 kM_32_20 kI_32_21 kS_32_22 kN_1_5 ⟨by decide, by decide, by decide⟩ ⟨Nat.le_trans (by decide) hRf, Nat.le_trans (by decide) hRl⟩ rfl rfl rfl hl.1 rfl (Nat.le_of_ble_eq_true rfl) ⟨Nat.zero_le _, Nat.zero_le _⟩ dX10_pick_41 rfl (fun H locs hO => ?_)
          refine lv_aload_n C.1 C.2.1 dX10_pick_44 rfl (lv_at hl 0 rfl) ?_
          refine j_get C hO (ci := 10) (k := 1) (v := jR G (jpt l0 1)) h0 rfl inlX10 (by decide) kF_5_23 rfl rfl dX10_pick_45 ?_
          refine lv_bipush (v := Int32.ofInt 64) C.1 C.2.1 dX10_pick_48 (by decide) ?_
          refine j_iald C hO (tp_10_1 h0) (w32_id (by decide) (by decide)) (by decide) (by decide) dX10_pick_50 ?_
          refine lv_istore (lv' := [(4, vI (r9 (jpt l0 1) 64)), (0, jR G l0), (1, vI l1), (2, vI l2), (3, vI l3)]) C.1 C.2.1 dX10_pick_51 hl (by decide) rfl (fun ls hl => ?_)
          refine lv_iload_n C.1 C.2.1 dX10_pick_53 rfl (lv_at hl 4 rfl) ?_
          refine lv_iconst (v := Int32.ofInt (-1)) C.1 C.2.1 dX10_pick_54 rfl ?_
          refine j_icmp_ne (tgt := 63) C rfl (w32_id (by decide) (by decide)) dX10_pick_55 (by decide) (fun c10 => ?_) (fun c10 => ?_)
          · have hf := (if_neg c10).symm.trans hf
            refine lv_iload_n C.1 C.2.1 dX10_pick_63 rfl (lv_at hl 4 rfl) ?_
            refine lv_iload C.1 C.2.1 dX10_pick_64 (lv_at hl 0 rfl) ?_
            refine j_icmp_ge (tgt := 81) C rfl rfl dX10_pick_66 (by decide) (fun c11 => ?_) (fun c11 => ?_)
            · have hf := (if_pos c11).symm.trans hf
              refine lv_iconst (v := Int32.ofInt (-1)) C.1 C.2.1 dX10_pick_81 rfl ?_
              have hf := som_e hf
              subst hf
              exact j_iret C hO dX10_pick_82
            · have hf := (if_neg c11).symm.trans hf
              refine lv_aload_n C.1 C.2.1 dX10_pick_69 rfl (lv_at hl 1 rfl) ?_
              refine j_get C hO (ci := 10) (k := 1) (v := jR G (jpt l0 1)) h0 rfl inlX10 (by decide) kF_5_23 rfl rfl dX10_pick_70 ?_
              refine lv_bipush (v := Int32.ofInt 46) C.1 C.2.1 dX10_pick_73 (by decide) ?_
              refine lv_iload_n C.1 C.2.1 dX10_pick_75 rfl (lv_at hl 4 rfl) ?_
              refine j_iadd C dX10_pick_76 ?_
              obtain ⟨g12, hf⟩ := grd_e hf
              refine j_iald C hO (tp_10_1 h0) rfl g12.1 g12.2 dX10_pick_77 ?_
              refine lv_goto (tgt := 82) C.1 C.2.1 dX10_pick_78 (by decide) ?_
              have hf := som_e hf
              subst hf
              exact j_iret C hO dX10_pick_82
          · have hf := (if_pos c10).symm.trans hf
            refine lv_iload C.1 C.2.1 dX10_pick_58 (lv_at hl 0 rfl) ?_
            refine lv_goto (tgt := 82) C.1 C.2.1 dX10_pick_60 (by decide) ?_
            have hf := som_e hf
            subst hf
            exact j_iret C hO dX10_pick_82
        · have hf := (if_pos c8).symm.trans hf
          refine lv_bipush (v := Int32.ofInt (-3)) C.1 C.2.1 dX10_pick_35 (by decide) ?_
          have hf := som_e hf
          subst hf
          exact j_iret C hO dX10_pick_37
      · have hf := (if_pos c6).symm.trans hf
        refine lv_iconst (v := Int32.ofInt (-1)) C.1 C.2.1 dX10_pick_25 rfl ?_
        have hf := som_e hf
        subst hf
        exact j_iret C hO dX10_pick_26
set_option maxHeartbeats 1000000 in
theorem c_X10_pick (l : Launch) (G : jG)  (M : jM) (l0 l1 l2 l3 : Int) (h0 : jkd l0 = (10, 0)) {fin : Int × jM} (h : f_X10_pick M l0 l1 l2 l3 = some fin) : Met l yX10_pick (Cond.code yX10_pick cX10_pick 5 (some .int) :: wsL_law) ({ frames := 7, cells := 0, slots := 0, locals := 176 } : Room) (va_Pc [jR G l0, vI l1, vI l2, vI l3] (fun U => jRep G M U)) (jQ G (some (vI fin.1)) fin.2) 0 0 (jA G) := by
  refine Met.ofW (cc := cX10_pick) (maxL := 5) (ret := (some .int)) (by decide) rfl ?_
  intro p e s m args below meth c s₁ B hml hv
  obtain ⟨rfl, hR0⟩ := hv
  have C : jCx p s m ([jR G l0, vI l1, vI l2, vI l3] : List Value).toArray meth c cX10_pick 5 RX10 (Cond.code yX10_pick cX10_pick 5 (some .int)) (some .int) := ⟨B.exec, B.bytes, hml, findClass_of_methodNamed B.named, atoms_spec B.pre, B.returns, B.notSynchronized⟩
  have hO := hR0.ok
  have hl := lv_entry ([jR G l0, vI l1, vI l2, vI l3]) (n := 5) (Nat.le_of_ble_eq_true rfl)
  rw [lg_entry_eq]
  generalize (lg_sl ([jR G l0, vI l1, vI l2, vI l3]) ++ List.replicate (5 - (lg_sl ([jR G l0, vI l1, vI l2, vI l3])).length) Slot.unset).toArray = ls at hl ⊢
  have hl : lv_has ls 5 [(0, jR G l0), (1, vI l1), (2, vI l2), (3, vI l3)] := hl
  exact w_X10_pick C (Nat.le_refl _) (Nat.le_refl _) M l0 l1 l2 l3 h0 h hO hl
set_option maxHeartbeats 4000000 in
theorem w_X10_fair_141 {p : Program} {l : Launch} {e : Env} {R : Room} {s : State} {m : MethodId} {args : Array Value} {below : List Frame} {meth : Method} {c : Code} {H : Heap} {locs : List Loc} {ls : Array Slot} {G : jG}  (C : jCx p s m args meth c cX10_fair 11 RX10 (Cond.code yX10_fair cX10_fair 11 (some .int)) (some .int)) (hRf : 5 ≤ R.frames) (hRl : 119 ≤ R.locals)  (M : jM) (l0 l1 l2 l3 l4 l6 l8 : Int) (h0 : jkd l0 = (10, 0)) {fin : Int × jM} {rr : (jM × Int × Int × Int × Int) ⊕ ((jM × Int))} (hf : f_X10_fair_141 M l0 l1 l2 l3 l4 l6 l8 = some rr) (kc : ∀ q : jM × Int × Int × Int × Int, rr = .inl q → ∀ (H : Heap) (locs : List Loc) (ls : Array Slot), jOk G q.1 s H locs → lv_has ls 11 [(0, jR G l0), (1, vI l1), (2, vI l2), (3, vI q.2.1), (4, vL q.2.2.1), (6, vL q.2.2.2.1), (8, vI q.2.2.2.2)] → W p l e R s m args below meth c H locs 0 0 (MQ below (jQ G (some (vI fin.1)) fin.2) args s 0 0 (jA G)) (F0 m 41 ls [])) (kx0 : ∀ q : jM × Int, rr = .inr q → ∀ (H : Heap) (locs : List Loc) (ls : Array Slot), jOk G q.1 s H locs → lv_has ls 11 [(0, jR G l0), (3, vI q.2)] → W p l e R s m args below meth c H locs 0 0 (MQ below (jQ G (some (vI fin.1)) fin.2) args s 0 0 (jA G)) (F0 m 147 ls [])) (hO : jOk G M s H locs) (hl : lv_has ls 11 [(0, jR G l0), (1, vI l1), (2, vI l2), (3, vI l3), (4, vL l4), (6, vL l6), (8, vI l8)]) : W p l e R s m args below meth c H locs 0 0 (MQ below (jQ G (some (vI fin.1)) fin.2) args s 0 0 (jA G)) (F0 m 141 ls []) := by
  unfold f_X10_fair_141 at hf
  refine lv_iinc (v := Int32.ofInt (l8 + 1)) (lv' := [(8, vI (l8 + 1)), (0, jR G l0), (1, vI l1), (2, vI l2), (3, vI l3), (4, vL l4), (6, vL l6)]) C.1 C.2.1 dX10_fair_141 hl (k := 6) rfl (Int32.ofInt_add _ _).symm (by decide) rfl (fun ls hl => ?_)
  refine lv_goto (tgt := 41) C.1 C.2.1 dX10_fair_144 (by decide) ?_
  exact kc _ (som_e hf).symm _ _ _ hO (lv_sub hl [1, 2, 3, 4, 5, 6, 0] rfl)
set_option maxHeartbeats 4000000 in
theorem w_X10_fair_123 {p : Program} {l : Launch} {e : Env} {R : Room} {s : State} {m : MethodId} {args : Array Value} {below : List Frame} {meth : Method} {c : Code} {H : Heap} {locs : List Loc} {ls : Array Slot} {G : jG}  (C : jCx p s m args meth c cX10_fair 11 RX10 (Cond.code yX10_fair cX10_fair 11 (some .int)) (some .int)) (hRf : 5 ≤ R.frames) (hRl : 119 ≤ R.locals)  (M : jM) (l0 l1 l2 l8 l9 : Int) (h0 : jkd l0 = (10, 0)) {fin : Int × jM} {rr : (jM × Int × Int × Int × Int) ⊕ ((jM × Int))} (hf : f_X10_fair_123 M l0 l1 l2 l8 l9 = some rr) (kc : ∀ q : jM × Int × Int × Int × Int, rr = .inl q → ∀ (H : Heap) (locs : List Loc) (ls : Array Slot), jOk G q.1 s H locs → lv_has ls 11 [(0, jR G l0), (1, vI l1), (2, vI l2), (3, vI q.2.1), (4, vL q.2.2.1), (6, vL q.2.2.2.1), (8, vI q.2.2.2.2)] → W p l e R s m args below meth c H locs 0 0 (MQ below (jQ G (some (vI fin.1)) fin.2) args s 0 0 (jA G)) (F0 m 41 ls [])) (kx0 : ∀ q : jM × Int, rr = .inr q → ∀ (H : Heap) (locs : List Loc) (ls : Array Slot), jOk G q.1 s H locs → lv_has ls 11 [(0, jR G l0), (3, vI q.2)] → W p l e R s m args below meth c H locs 0 0 (MQ below (jQ G (some (vI fin.1)) fin.2) args s 0 0 (jA G)) (F0 m 147 ls [])) (hO : jOk G M s H locs) (hl : lv_has ls 11 [(0, jR G l0), (1, vI l1), (2, vI l2), (8, vI l8), (9, vL l9)]) : W p l e R s m args below meth c H locs 0 0 (MQ below (jQ G (some (vI fin.1)) fin.2) args s 0 0 (jA G)) (F0 m 123 ls []) := by
  unfold f_X10_fair_123 at hf
  refine lv_iload C.1 C.2.1 dX10_fair_123 (lv_at hl 3 rfl) ?_
  refine lv_istore_n (lv' := [(3, vI l8), (0, jR G l0), (1, vI l1), (2, vI l2), (8, vI l8), (9, vL l9)]) C.1 C.2.1 dX10_fair_125 rfl hl (by decide) rfl (fun ls hl => ?_)
  refine lv_lload C.1 C.2.1 dX10_fair_126 (lv_at hl 5 rfl) ?_
  refine lv_lstore (lv' := [(4, vL l9), (3, vI l8), (0, jR G l0), (1, vI l1), (2, vI l2), (8, vI l8), (9, vL l9)]) C.1 C.2.1 dX10_fair_128 hl (by decide) rfl (fun ls hl => ?_)
  refine lv_aload_n C.1 C.2.1 dX10_fair_130 rfl (lv_at hl 2 rfl) ?_
  refine j_get C hO (ci := 10) (k := 13) (v := vL (M l0 13)) h0 rfl inlX10 (by decide) kF_25_15 rfl rfl dX10_fair_131 ?_
  refine lv_aload_n C.1 C.2.1 dX10_fair_134 rfl (lv_at hl 2 rfl) ?_
  refine j_get C hO (ci := 10) (k := 14) (v := vL (M l0 14)) h0 rfl inlX10 (by decide) kF_25_16 rfl rfl dX10_fair_135 ?_
  refine j_ladd C dX10_fair_138 ?_
  refine lv_lstore (lv' := [(6, vL ((M l0 13) + (M l0 14))), (4, vL l9), (3, vI l8), (0, jR G l0), (1, vI l1), (2, vI l2), (8, vI l8), (9, vL l9)]) C.1 C.2.1 dX10_fair_139 hl (by decide) rfl (fun ls hl => ?_)
  exact w_X10_fair_141 C hRf hRl M l0 l1 l2 l8 l9 ((M l0 13) + (M l0 14)) l8 h0 hf kc kx0 hO (lv_sub hl [3, 4, 5, 2, 1, 0, 6] rfl)
set_option maxHeartbeats 4000000 in
theorem w_X10_fair_96 {p : Program} {l : Launch} {e : Env} {R : Room} {s : State} {m : MethodId} {args : Array Value} {below : List Frame} {meth : Method} {c : Code} {H : Heap} {locs : List Loc} {ls : Array Slot} {G : jG}  (C : jCx p s m args meth c cX10_fair 11 RX10 (Cond.code yX10_fair cX10_fair 11 (some .int)) (some .int)) (hRf : 5 ≤ R.frames) (hRl : 119 ≤ R.locals)  (M : jM) (l0 l1 l2 l3 l4 l6 l8 s0 : Int) (h0 : jkd l0 = (10, 0)) {fin : Int × jM} {rr : (jM × Int × Int × Int × Int) ⊕ ((jM × Int))} (hf : f_X10_fair_96 M l0 l1 l2 l3 l4 l6 l8 s0 = some rr) (kc : ∀ q : jM × Int × Int × Int × Int, rr = .inl q → ∀ (H : Heap) (locs : List Loc) (ls : Array Slot), jOk G q.1 s H locs → lv_has ls 11 [(0, jR G l0), (1, vI l1), (2, vI l2), (3, vI q.2.1), (4, vL q.2.2.1), (6, vL q.2.2.2.1), (8, vI q.2.2.2.2)] → W p l e R s m args below meth c H locs 0 0 (MQ below (jQ G (some (vI fin.1)) fin.2) args s 0 0 (jA G)) (F0 m 41 ls [])) (kx0 : ∀ q : jM × Int, rr = .inr q → ∀ (H : Heap) (locs : List Loc) (ls : Array Slot), jOk G q.1 s H locs → lv_has ls 11 [(0, jR G l0), (3, vI q.2)] → W p l e R s m args below meth c H locs 0 0 (MQ below (jQ G (some (vI fin.1)) fin.2) args s 0 0 (jA G)) (F0 m 147 ls [])) (hO : jOk G M s H locs) (hl : lv_has ls 11 [(0, jR G l0), (1, vI l1), (2, vI l2), (3, vI l3), (4, vL l4), (6, vL l6), (8, vI l8)]) : W p l e R s m args below meth c H locs 0 0 (MQ below (jQ G (some (vI fin.1)) fin.2) args s 0 0 (jA G)) (F0 m 96 ls [vL s0]) := by
  unfold f_X10_fair_96 at hf
  refine lv_lstore (lv' := [(9, vL s0), (0, jR G l0), (1, vI l1), (2, vI l2), (3, vI l3), (4, vL l4), (6, vL l6), (8, vI l8)]) C.1 C.2.1 dX10_fair_96 hl (by decide) rfl (fun ls hl => ?_)
  refine lv_iload_n C.1 C.2.1 dX10_fair_98 rfl (lv_at hl 4 rfl) ?_
  refine j_if_eq (tgt := 123) C rfl dX10_fair_99 (by decide) (fun c11 => ?_) (fun c11 => ?_)
  · have hf := (if_pos c11).symm.trans hf
    exact w_X10_fair_123 C hRf hRl M l0 l1 l2 l8 s0 h0 hf kc kx0 hO (lv_sub hl [1, 2, 3, 7, 0] rfl)
  · have hf := (if_neg c11).symm.trans hf
    refine lv_lload C.1 C.2.1 dX10_fair_102 (lv_at hl 0 rfl) ?_
    refine lv_aload_n C.1 C.2.1 dX10_fair_104 rfl (lv_at hl 1 rfl) ?_
    refine j_get C hO (ci := 10) (k := 13) (v := vL (M l0 13)) h0 rfl inlX10 (by decide) kF_25_15 rfl rfl dX10_fair_105 ?_
    refine lv_aload_n C.1 C.2.1 dX10_fair_108 rfl (lv_at hl 1 rfl) ?_
    refine j_get C hO (ci := 10) (k := 14) (v := vL (M l0 14)) h0 rfl inlX10 (by decide) kF_25_16 rfl rfl dX10_fair_109 ?_
    refine j_ladd C dX10_fair_112 ?_
    refine lv_lload C.1 C.2.1 dX10_fair_113 (lv_at hl 5 rfl) ?_
    refine lv_lload C.1 C.2.1 dX10_fair_115 (lv_at hl 6 rfl) ?_
    obtain ⟨r12, hr12, hf⟩ := bnd_e hf
    refine j_callS C hO (n := 4) (As := [vL s0, vL ((M l0 13) + (M l0 14)), vL l4, vL l6]) (st1 := [vI r12]) (c_X10_isLess l G M s0 ((M l0 13) + (M l0 14)) l4 l6  hr12) kC_30_3 kM_30_1 kT_30_2 kN_1_5 ⟨by decide, by decide, by decide⟩ ⟨Nat.le_trans (by decide) hRf, Nat.le_trans (by decide) hRl⟩ rfl rfl rfl hl.1 rfl (Nat.le_of_ble_eq_true rfl) ⟨Nat.zero_le _, Nat.zero_le _⟩ dX10_fair_117 rfl (fun H locs hO => ?_)
    refine j_if_eq (tgt := 141) C rfl dX10_fair_120 (by decide) (fun c13 => ?_) (fun c13 => ?_)
    · have hf := (if_pos c13).symm.trans hf
      exact w_X10_fair_141 C hRf hRl M l0 l1 l2 l3 l4 l6 l8 h0 hf kc kx0 hO (lv_sub hl [1, 2, 3, 4, 5, 6, 7] rfl)
    · have hf := (if_neg c13).symm.trans hf
      exact w_X10_fair_123 C hRf hRl M l0 l1 l2 l8 s0 h0 hf kc kx0 hO (lv_sub hl [1, 2, 3, 7, 0] rfl)
set_option maxHeartbeats 4000000 in
theorem w_X10_fair_L41 {p : Program} {l : Launch} {e : Env} {R : Room} {s : State} {m : MethodId} {args : Array Value} {below : List Frame} {meth : Method} {c : Code} {H : Heap} {locs : List Loc} {ls : Array Slot} {G : jG}  (C : jCx p s m args meth c cX10_fair 11 RX10 (Cond.code yX10_fair cX10_fair 11 (some .int)) (some .int)) (hRf : 5 ≤ R.frames) (hRl : 119 ≤ R.locals)  (M : jM) (l0 l1 l2 : Int) (h0 : jkd l0 = (10, 0)) {fin : Int × jM} (S : jM × Int × Int × Int × Int) {rr : (jM × Int × Int × Int × Int) ⊕ ((jM × Int))} (hf : f_X10_fair_L41 M l0 l1 l2 S = some rr) (kc : ∀ q : jM × Int × Int × Int × Int, rr = .inl q → ∀ (H : Heap) (locs : List Loc) (ls : Array Slot), jOk G q.1 s H locs → lv_has ls 11 [(0, jR G l0), (1, vI l1), (2, vI l2), (3, vI q.2.1), (4, vL q.2.2.1), (6, vL q.2.2.2.1), (8, vI q.2.2.2.2)] → W p l e R s m args below meth c H locs 0 0 (MQ below (jQ G (some (vI fin.1)) fin.2) args s 0 0 (jA G)) (F0 m 41 ls [])) (kx0 : ∀ q : jM × Int, rr = .inr q → ∀ (H : Heap) (locs : List Loc) (ls : Array Slot), jOk G q.1 s H locs → lv_has ls 11 [(0, jR G l0), (3, vI q.2)] → W p l e R s m args below meth c H locs 0 0 (MQ below (jQ G (some (vI fin.1)) fin.2) args s 0 0 (jA G)) (F0 m 147 ls [])) (hO : jOk G S.1 s H locs) (hl : lv_has ls 11 [(0, jR G l0), (1, vI l1), (2, vI l2), (3, vI S.2.1), (4, vL S.2.2.1), (6, vL S.2.2.2.1), (8, vI S.2.2.2.2)]) : W p l e R s m args below meth c H locs 0 0 (MQ below (jQ G (some (vI fin.1)) fin.2) args s 0 0 (jA G)) (F0 m 41 ls []) := by
  unfold f_X10_fair_L41 at hf
  refine lv_iload C.1 C.2.1 dX10_fair_41 (lv_at hl 6 rfl) ?_
  refine lv_bipush (v := Int32.ofInt 10) C.1 C.2.1 dX10_fair_43 (by decide) ?_
  refine j_icmp_ge (tgt := 147) C rfl (w32_id (by decide) (by decide)) dX10_fair_45 (by decide) (fun c7 => ?_) (fun c7 => ?_)
  · have hf := (if_pos c7).symm.trans hf
    exact kx0 _ (som_e hf).symm _ _ _ hO (lv_sub hl [0, 3] rfl)
  · have hf := (if_neg c7).symm.trans hf
    refine lv_aload_n C.1 C.2.1 dX10_fair_48 rfl (lv_at hl 0 rfl) ?_
    refine j_get C hO (ci := 10) (k := 1) (v := jR G (jpt l0 1)) h0 rfl inlX10 (by decide) kF_5_23 rfl rfl dX10_fair_49 ?_
    refine lv_bipush (v := Int32.ofInt 8) C.1 C.2.1 dX10_fair_52 (by decide) ?_
    refine lv_iload C.1 C.2.1 dX10_fair_54 (lv_at hl 6 rfl) ?_
    obtain ⟨M8, hM8, hf⟩ := lt1_e hf
    refine j_iast C hO (x := S.2.2.2.2) (tp_10_1 h0) (w32_id (by decide) (by decide)) (by decide) (by decide) dX10_fair_56 (fun H locs hO => ?_)
    rw [← hM8] at hO
    refine lv_aload_n C.1 C.2.1 dX10_fair_57 rfl (lv_at hl 0 rfl) ?_
    refine lv_iload_n C.1 C.2.1 dX10_fair_58 rfl (lv_at hl 1 rfl) ?_
    refine lv_iload_n C.1 C.2.1 dX10_fair_59 rfl (lv_at hl 2 rfl) ?_
    obtain ⟨r9, hr9, hf⟩ := bnd_e hf
    refine j_callV C hO (n := 2) (As := [vI l1, vI l2]) (st1 := []) (c_X10_looksForOdds l G M8 l0 l1 l2 h0 hr9) h0 rfl kC_26_8 kM_26_5 kI_26_6 kS_26_7 kN_1_5 ⟨by decide, by decide, by decide⟩ ⟨Nat.le_trans (by decide) hRf, Nat.le_trans (by decide) hRl⟩ rfl rfl rfl hl.1 rfl (Nat.le_of_ble_eq_true rfl) ⟨Nat.zero_le _, Nat.zero_le _⟩ dX10_fair_60 rfl (fun H locs hO => ?_)
    refine lv_aload_n C.1 C.2.1 dX10_fair_63 rfl (lv_at hl 0 rfl) ?_
    refine j_get C hO (ci := 10) (k := 13) (v := vL (r9 l0 13)) h0 rfl inlX10 (by decide) kF_25_15 rfl rfl dX10_fair_64 ?_
    refine lv_aload_n C.1 C.2.1 dX10_fair_67 rfl (lv_at hl 0 rfl) ?_
    refine j_get C hO (ci := 10) (k := 14) (v := vL (r9 l0 14)) h0 rfl inlX10 (by decide) kF_25_16 rfl rfl dX10_fair_68 ?_
    refine j_lcmp_ge (tgt := 87) C rfl rfl dX10_fair_71 dX10_fair_72 (by decide) (fun c10 => ?_) (fun c10 => ?_)
    · have hf := (if_pos c10).symm.trans hf
      refine lv_aload_n C.1 C.2.1 dX10_fair_87 rfl (lv_at hl 0 rfl) ?_
      refine j_get C hO (ci := 10) (k := 13) (v := vL (r9 l0 13)) h0 rfl inlX10 (by decide) kF_25_15 rfl rfl dX10_fair_88 ?_
      refine lv_aload_n C.1 C.2.1 dX10_fair_91 rfl (lv_at hl 0 rfl) ?_
      refine j_get C hO (ci := 10) (k := 14) (v := vL (r9 l0 14)) h0 rfl inlX10 (by decide) kF_25_16 rfl rfl dX10_fair_92 ?_
      refine j_lsub C dX10_fair_95 ?_
      exact w_X10_fair_96 C hRf hRl r9 l0 l1 l2 S.2.1 S.2.2.1 S.2.2.2.1 S.2.2.2.2 ((r9 l0 13) - (r9 l0 14)) h0 hf kc kx0 hO (lv_sub hl [0, 1, 2, 3, 4, 5, 6] rfl)
    · have hf := (if_neg c10).symm.trans hf
      refine lv_aload_n C.1 C.2.1 dX10_fair_75 rfl (lv_at hl 0 rfl) ?_
      refine j_get C hO (ci := 10) (k := 14) (v := vL (r9 l0 14)) h0 rfl inlX10 (by decide) kF_25_16 rfl rfl dX10_fair_76 ?_
      refine lv_aload_n C.1 C.2.1 dX10_fair_79 rfl (lv_at hl 0 rfl) ?_
      refine j_get C hO (ci := 10) (k := 13) (v := vL (r9 l0 13)) h0 rfl inlX10 (by decide) kF_25_15 rfl rfl dX10_fair_80 ?_
      refine j_lsub C dX10_fair_83 ?_
      refine lv_goto (tgt := 96) C.1 C.2.1 dX10_fair_84 (by decide) ?_
      exact w_X10_fair_96 C hRf hRl r9 l0 l1 l2 S.2.1 S.2.2.1 S.2.2.2.1 S.2.2.2.2 ((r9 l0 14) - (r9 l0 13)) h0 hf kc kx0 hO (lv_sub hl [0, 1, 2, 3, 4, 5, 6] rfl)
set_option maxHeartbeats 4000000 in
theorem w_X10_fair {p : Program} {l : Launch} {e : Env} {R : Room} {s : State} {m : MethodId} {args : Array Value} {below : List Frame} {meth : Method} {c : Code} {H : Heap} {locs : List Loc} {ls : Array Slot} {G : jG}  (C : jCx p s m args meth c cX10_fair 11 RX10 (Cond.code yX10_fair cX10_fair 11 (some .int)) (some .int)) (hRf : 5 ≤ R.frames) (hRl : 119 ≤ R.locals)  (M : jM) (l0 l1 l2 : Int) (h0 : jkd l0 = (10, 0)) {fin : Int × jM} (hf : f_X10_fair M l0 l1 l2 = some fin) (hO : jOk G M s H locs) (hl : lv_has ls 11 [(0, jR G l0), (1, vI l1), (2, vI l2)]) : W p l e R s m args below meth c H locs 0 0 (MQ below (jQ G (some (vI fin.1)) fin.2) args s 0 0 (jA G)) (F0 m 0 ls []) := by
  unfold f_X10_fair at hf
  refine lv_aload_n C.1 C.2.1 dX10_fair_0 rfl (lv_at hl 0 rfl) ?_
  refine lv_iload_n C.1 C.2.1 dX10_fair_1 rfl (lv_at hl 1 rfl) ?_
  obtain ⟨r1, hr1, hf⟩ := bnd_e hf
  refine j_callV C hO (n := 1) (As := [vI l1]) (st1 := [vI r1]) (c_X10_isRow l G M l0 l1 h0 hr1) h0 rfl kC_19_14 kM_19_11 kI_19_12 kS_19_13 kN_1_5 ⟨by decide, by decide, by decide⟩ ⟨Nat.le_trans (by decide) hRf, Nat.le_trans (by decide) hRl⟩ rfl rfl rfl hl.1 rfl (Nat.le_of_ble_eq_true rfl) ⟨Nat.zero_le _, Nat.zero_le _⟩ dX10_fair_2 rfl (fun H locs hO => ?_)
  refine j_if_eq (tgt := 16) C rfl dX10_fair_5 (by decide) (fun c2 => ?_) (fun c2 => ?_)
  · have hf := (if_pos c2).symm.trans hf
    refine lv_iconst (v := Int32.ofInt (-1)) C.1 C.2.1 dX10_fair_16 rfl ?_
    have hf := som_e hf
    subst hf
    exact j_iret C hO dX10_fair_17
  · have hf := (if_neg c2).symm.trans hf
    refine lv_aload_n C.1 C.2.1 dX10_fair_8 rfl (lv_at hl 0 rfl) ?_
    refine lv_iload_n C.1 C.2.1 dX10_fair_9 rfl (lv_at hl 2 rfl) ?_
    obtain ⟨r3, hr3, hf⟩ := bnd_e hf
    refine j_callV C hO (n := 1) (As := [vI l2]) (st1 := [vI r3]) (c_X10_isRow l G M l0 l2 h0 hr3) h0 rfl kC_19_14 kM_19_11 kI_19_12 kS_19_13 kN_1_5 ⟨by decide, by decide, by decide⟩ ⟨Nat.le_trans (by decide) hRf, Nat.le_trans (by decide) hRl⟩ rfl rfl rfl hl.1 rfl (Nat.le_of_ble_eq_true rfl) ⟨Nat.zero_le _, Nat.zero_le _⟩ dX10_fair_10 rfl (fun H locs hO => ?_)
    refine j_if_ne (tgt := 18) C rfl dX10_fair_13 (by decide) (fun c4 => ?_) (fun c4 => ?_)
    · have hf := (if_neg c4).symm.trans hf
      refine lv_aload_n C.1 C.2.1 dX10_fair_18 rfl (lv_at hl 0 rfl) ?_
      refine lv_iload_n C.1 C.2.1 dX10_fair_19 rfl (lv_at hl 1 rfl) ?_
      refine lv_iload_n C.1 C.2.1 dX10_fair_20 rfl (lv_at hl 2 rfl) ?_
      obtain ⟨r5, hr5, hf⟩ := bnd_e hf
      refine j_callV C hO (n := 2) (As := [vI l1, vI l2]) (st1 := [vI r5]) (c_X10_canMeet l G M l0 l1 l2 h0 hr5) h0 rfl kC_25_20 kM_25_17 kI_25_18 kS_25_19 kN_1_5 ⟨by decide, by decide, by decide⟩ ⟨Nat.le_trans (by decide) hRf, Nat.le_trans (by decide) hRl⟩ rfl rfl rfl hl.1 rfl (Nat.le_of_ble_eq_true rfl) ⟨Nat.zero_le _, Nat.zero_le _⟩ dX10_fair_21 rfl (fun H locs hO => ?_)
      refine j_if_ne (tgt := 30) C rfl dX10_fair_24 (by decide) (fun c6 => ?_) (fun c6 => ?_)
      · have hf := (if_neg c6).symm.trans hf
        refine lv_iconst (v := Int32.ofInt 0) C.1 C.2.1 dX10_fair_30 rfl ?_
        refine lv_istore_n (lv' := [(3, vI 0), (0, jR G l0), (1, vI l1), (2, vI l2)]) C.1 C.2.1 dX10_fair_31 rfl hl (by decide) rfl (fun ls hl => ?_)
        refine lv_lconst (v := Int64.ofInt 0) C.1 C.2.1 dX10_fair_32 (by decide) ?_
        refine lv_lstore (lv' := [(4, vL 0), (3, vI 0), (0, jR G l0), (1, vI l1), (2, vI l2)]) C.1 C.2.1 dX10_fair_33 hl (by decide) rfl (fun ls hl => ?_)
        refine lv_lconst (v := Int64.ofInt 1) C.1 C.2.1 dX10_fair_35 (by decide) ?_
        refine lv_lstore (lv' := [(6, vL 1), (4, vL 0), (3, vI 0), (0, jR G l0), (1, vI l1), (2, vI l2)]) C.1 C.2.1 dX10_fair_36 hl (by decide) rfl (fun ls hl => ?_)
        refine lv_iconst (v := Int32.ofInt 1) C.1 C.2.1 dX10_fair_38 rfl ?_
        refine lv_istore (lv' := [(8, vI 1), (6, vL 1), (4, vL 0), (3, vI 0), (0, jR G l0), (1, vI l1), (2, vI l2)]) C.1 C.2.1 dX10_fair_39 hl (by decide) rfl (fun ls hl => ?_)
        obtain ⟨x14, hx14, hf⟩ := bnd_e hf
        refine iter_e (P := fun Z => ∀ (H : Heap) (locs : List Loc) (ls : Array Slot), jOk G Z.1 s H locs → lv_has ls 11 [(0, jR G l0), (1, vI l1), (2, vI l2), (3, vI Z.2.1), (4, vL Z.2.2.1), (6, vL Z.2.2.2.1), (8, vI Z.2.2.2.2)] → W p l e R s m args below meth c H locs 0 0 (MQ below (jQ G (some (vI fin.1)) fin.2) args s 0 0 (jA G)) (F0 m 41 ls [])) (E := fun q => ∀ (H : Heap) (locs : List Loc) (ls : Array Slot), jOk G q.1 s H locs → lv_has ls 11 [(0, jR G l0), (3, vI q.2)] → W p l e R s m args below meth c H locs 0 0 (MQ below (jQ G (some (vI fin.1)) fin.2) args s 0 0 (jA G)) (F0 m 147 ls [])) (fun Z rr hb kc kx H locs ls hO hl => w_X10_fair_L41 C hRf hRl M l0 l1 l2 h0 Z hb kc (fun q e => kx q e) hO hl) 5000 (M, 0, 0, 1, 1) x14 hx14 ?_ _ _ _ hO (lv_sub hl [4, 5, 6, 3, 2, 1, 0] rfl)
        clear hO hl
        intro H locs ls hO hl
        refine lv_aload_n C.1 C.2.1 dX10_fair_147 rfl (lv_at hl 0 rfl) ?_
        refine j_get C hO (ci := 10) (k := 1) (v := jR G (jpt l0 1)) h0 rfl inlX10 (by decide) kF_5_23 rfl rfl dX10_fair_148 ?_
        refine lv_bipush (v := Int32.ofInt 8) C.1 C.2.1 dX10_fair_151 (by decide) ?_
        refine lv_iconst (v := Int32.ofInt 0) C.1 C.2.1 dX10_fair_153 rfl ?_
        obtain ⟨M15, hM15, hf⟩ := lt1_e hf
        refine j_iast C hO (x := 0) (tp_10_1 h0) (w32_id (by decide) (by decide)) (by decide) (by decide) dX10_fair_154 (fun H locs hO => ?_)
        rw [← hM15] at hO
        refine lv_iload_n C.1 C.2.1 dX10_fair_155 rfl (lv_at hl 1 rfl) ?_
        have hf := som_e hf
        subst hf
        exact j_iret C hO dX10_fair_156
      · have hf := (if_pos c6).symm.trans hf
        refine lv_bipush (v := Int32.ofInt (-3)) C.1 C.2.1 dX10_fair_27 (by decide) ?_
        have hf := som_e hf
        subst hf
        exact j_iret C hO dX10_fair_29
    · have hf := (if_pos c4).symm.trans hf
      refine lv_iconst (v := Int32.ofInt (-1)) C.1 C.2.1 dX10_fair_16 rfl ?_
      have hf := som_e hf
      subst hf
      exact j_iret C hO dX10_fair_17
set_option maxHeartbeats 1000000 in
theorem c_X10_fair (l : Launch) (G : jG)  (M : jM) (l0 l1 l2 : Int) (h0 : jkd l0 = (10, 0)) {fin : Int × jM} (h : f_X10_fair M l0 l1 l2 = some fin) : Met l yX10_fair (Cond.code yX10_fair cX10_fair 11 (some .int) :: wsL_law) ({ frames := 5, cells := 0, slots := 0, locals := 119 } : Room) (va_Pc [jR G l0, vI l1, vI l2] (fun U => jRep G M U)) (jQ G (some (vI fin.1)) fin.2) 0 0 (jA G) := by
  refine Met.ofW (cc := cX10_fair) (maxL := 11) (ret := (some .int)) (by decide) rfl ?_
  intro p e s m args below meth c s₁ B hml hv
  obtain ⟨rfl, hR0⟩ := hv
  have C : jCx p s m ([jR G l0, vI l1, vI l2] : List Value).toArray meth c cX10_fair 11 RX10 (Cond.code yX10_fair cX10_fair 11 (some .int)) (some .int) := ⟨B.exec, B.bytes, hml, findClass_of_methodNamed B.named, atoms_spec B.pre, B.returns, B.notSynchronized⟩
  have hO := hR0.ok
  have hl := lv_entry ([jR G l0, vI l1, vI l2]) (n := 11) (Nat.le_of_ble_eq_true rfl)
  rw [lg_entry_eq]
  generalize (lg_sl ([jR G l0, vI l1, vI l2]) ++ List.replicate (11 - (lg_sl ([jR G l0, vI l1, vI l2])).length) Slot.unset).toArray = ls at hl ⊢
  have hl : lv_has ls 11 [(0, jR G l0), (1, vI l1), (2, vI l2)] := hl
  exact w_X10_fair C (Nat.le_refl _) (Nat.le_refl _) M l0 l1 l2 h0 h hO hl
set_option maxHeartbeats 4000000 in
theorem w_X10_threes_L4 {p : Program} {l : Launch} {e : Env} {R : Room} {s : State} {m : MethodId} {args : Array Value} {below : List Frame} {meth : Method} {c : Code} {H : Heap} {locs : List Loc} {ls : Array Slot} {G : jG}  (C : jCx p s m args meth c cX10_threes 3 RX10 (Cond.code yX10_threes cX10_threes 3 (some .int)) (some .int)) (hRf : 0 ≤ R.frames) (hRl : 0 ≤ R.locals)  (M : jM) (l0 : Int) {fin : Int} (S : Int × Int) {rr : (Int × Int) ⊕ Int} (hf : f_X10_threes_L4 M l0 S = some rr) (kc : ∀ q : Int × Int, rr = .inl q → ∀ (H : Heap) (locs : List Loc) (ls : Array Slot), jOk G M s H locs → lv_has ls 3 [(0, vI l0), (1, vI q.1), (2, vI q.2)] → W p l e R s m args below meth c H locs 0 0 (MQ below (jQ G (some (vI fin)) M) args s 0 0 (jA G)) (F0 m 4 ls [])) (kx0 : ∀ q : Int, rr = .inr q → ∀ (H : Heap) (locs : List Loc) (ls : Array Slot), jOk G M s H locs → lv_has ls 3 [(1, vI q)] → W p l e R s m args below meth c H locs 0 0 (MQ below (jQ G (some (vI fin)) M) args s 0 0 (jA G)) (F0 m 19 ls [])) (hO : jOk G M s H locs) (hl : lv_has ls 3 [(0, vI l0), (1, vI S.1), (2, vI S.2)]) : W p l e R s m args below meth c H locs 0 0 (MQ below (jQ G (some (vI fin)) M) args s 0 0 (jA G)) (F0 m 4 ls []) := by
  unfold f_X10_threes_L4 at hf
  refine lv_iload_n C.1 C.2.1 dX10_threes_4 rfl (lv_at hl 2 rfl) ?_
  refine lv_iload_n C.1 C.2.1 dX10_threes_5 rfl (lv_at hl 0 rfl) ?_
  refine j_icmp_ge (tgt := 19) C rfl rfl dX10_threes_6 (by decide) (fun c1 => ?_) (fun c1 => ?_)
  · have hf := (if_pos c1).symm.trans hf
    exact kx0 _ (som_e hf).symm _ _ _ hO (lv_sub hl [1] rfl)
  · have hf := (if_neg c1).symm.trans hf
    refine lv_iload_n C.1 C.2.1 dX10_threes_9 rfl (lv_at hl 1 rfl) ?_
    refine lv_iconst (v := Int32.ofInt 3) C.1 C.2.1 dX10_threes_10 rfl ?_
    refine j_imul C dX10_threes_11 ?_
    refine lv_istore_n (lv' := [(1, vI (S.1 * 3)), (0, vI l0), (2, vI S.2)]) C.1 C.2.1 dX10_threes_12 rfl hl (by decide) rfl (fun ls hl => ?_)
    refine lv_iinc (v := Int32.ofInt (S.2 + 1)) (lv' := [(2, vI (S.2 + 1)), (1, vI (S.1 * 3)), (0, vI l0)]) C.1 C.2.1 dX10_threes_13 hl (k := 2) rfl (Int32.ofInt_add _ _).symm (by decide) rfl (fun ls hl => ?_)
    refine lv_goto (tgt := 4) C.1 C.2.1 dX10_threes_16 (by decide) ?_
    exact kc _ (som_e hf).symm _ _ _ hO (lv_sub hl [2, 1, 0] rfl)
set_option maxHeartbeats 4000000 in
theorem w_X10_threes {p : Program} {l : Launch} {e : Env} {R : Room} {s : State} {m : MethodId} {args : Array Value} {below : List Frame} {meth : Method} {c : Code} {H : Heap} {locs : List Loc} {ls : Array Slot} {G : jG}  (C : jCx p s m args meth c cX10_threes 3 RX10 (Cond.code yX10_threes cX10_threes 3 (some .int)) (some .int)) (hRf : 0 ≤ R.frames) (hRl : 0 ≤ R.locals)  (M : jM) (l0 : Int) {fin : Int} (hf : f_X10_threes M l0 = some fin) (hO : jOk G M s H locs) (hl : lv_has ls 3 [(0, vI l0)]) : W p l e R s m args below meth c H locs 0 0 (MQ below (jQ G (some (vI fin)) M) args s 0 0 (jA G)) (F0 m 0 ls []) := by
  unfold f_X10_threes at hf
  refine lv_iconst (v := Int32.ofInt 1) C.1 C.2.1 dX10_threes_0 rfl ?_
  refine lv_istore_n (lv' := [(1, vI 1), (0, vI l0)]) C.1 C.2.1 dX10_threes_1 rfl hl (by decide) rfl (fun ls hl => ?_)
  refine lv_iconst (v := Int32.ofInt 0) C.1 C.2.1 dX10_threes_2 rfl ?_
  refine lv_istore_n (lv' := [(2, vI 0), (1, vI 1), (0, vI l0)]) C.1 C.2.1 dX10_threes_3 rfl hl (by decide) rfl (fun ls hl => ?_)
  obtain ⟨x2, hx2, hf⟩ := bnd_e hf
  refine iter_e (P := fun Z => ∀ (H : Heap) (locs : List Loc) (ls : Array Slot), jOk G M s H locs → lv_has ls 3 [(0, vI l0), (1, vI Z.1), (2, vI Z.2)] → W p l e R s m args below meth c H locs 0 0 (MQ below (jQ G (some (vI fin)) M) args s 0 0 (jA G)) (F0 m 4 ls [])) (E := fun q => ∀ (H : Heap) (locs : List Loc) (ls : Array Slot), jOk G M s H locs → lv_has ls 3 [(1, vI q)] → W p l e R s m args below meth c H locs 0 0 (MQ below (jQ G (some (vI fin)) M) args s 0 0 (jA G)) (F0 m 19 ls [])) (fun Z rr hb kc kx H locs ls hO hl => w_X10_threes_L4 C hRf hRl M l0  Z hb kc (fun q e => kx q e) hO hl) 5000 (1, 0) x2 hx2 ?_ _ _ _ hO (lv_sub hl [2, 1, 0] rfl)
  clear hO hl
  intro H locs ls hO hl
  refine lv_iload_n C.1 C.2.1 dX10_threes_19 rfl (lv_at hl 0 rfl) ?_
  have hf := som_e hf
  subst hf
  exact j_iret C hO dX10_threes_20
set_option maxHeartbeats 1000000 in
theorem c_X10_threes (l : Launch) (G : jG)  (M : jM) (l0 : Int) {fin : Int} (h : f_X10_threes M l0 = some fin) : Met l yX10_threes (Cond.code yX10_threes cX10_threes 3 (some .int) :: wsL_law) ({ frames := 0, cells := 0, slots := 0, locals := 0 } : Room) (va_Pc [vI l0] (fun U => jRep G M U)) (jQ G (some (vI fin)) M) 0 0 (jA G) := by
  refine Met.ofW (cc := cX10_threes) (maxL := 3) (ret := (some .int)) (by decide) rfl ?_
  intro p e s m args below meth c s₁ B hml hv
  obtain ⟨rfl, hR0⟩ := hv
  have C : jCx p s m ([vI l0] : List Value).toArray meth c cX10_threes 3 RX10 (Cond.code yX10_threes cX10_threes 3 (some .int)) (some .int) := ⟨B.exec, B.bytes, hml, findClass_of_methodNamed B.named, atoms_spec B.pre, B.returns, B.notSynchronized⟩
  have hO := hR0.ok
  have hl := lv_entry ([vI l0]) (n := 3) (Nat.le_of_ble_eq_true rfl)
  rw [lg_entry_eq]
  generalize (lg_sl ([vI l0]) ++ List.replicate (3 - (lg_sl ([vI l0])).length) Slot.unset).toArray = ls at hl ⊢
  have hl : lv_has ls 3 [(0, vI l0)] := hl
  exact w_X10_threes C (Nat.le_refl _) (Nat.le_refl _) M l0  h hO hl
set_option maxHeartbeats 4000000 in
theorem w_X10_doesEnd_L16 {p : Program} {l : Launch} {e : Env} {R : Room} {s : State} {m : MethodId} {args : Array Value} {below : List Frame} {meth : Method} {c : Code} {H : Heap} {locs : List Loc} {ls : Array Slot} {G : jG}  (C : jCx p s m args meth c cX10_doesEnd 6 RX10 (Cond.code yX10_doesEnd cX10_doesEnd 6 (some .boolean)) (some .boolean)) (hRf : 1 ≤ R.frames) (hRl : 22 ≤ R.locals)  (M : jM) (l0 l1 l2 l3 : Int) (h0 : jkd l0 = (10, 0)) {fin : Int} (S : Int × Int) {rr : (Int × Int) ⊕ Int} (hf : f_X10_doesEnd_L16 M l0 l1 l2 l3 S = some rr) (kc : ∀ q : Int × Int, rr = .inl q → ∀ (H : Heap) (locs : List Loc) (ls : Array Slot), jOk G M s H locs → lv_has ls 6 [(0, jR G l0), (1, vI l1), (2, vI l2), (3, vI l3), (4, vI q.1), (5, vI q.2)] → W p l e R s m args below meth c H locs 0 0 (MQ below (jQ G (some (vI fin)) M) args s 0 0 (jA G)) (F0 m 16 ls [])) (kx0 : ∀ q : Int, rr = .inr q → ∀ (H : Heap) (locs : List Loc) (ls : Array Slot), jOk G M s H locs → lv_has ls 6 [(1, vI l1), (3, vI l3), (4, vI q)] → W p l e R s m args below meth c H locs 0 0 (MQ below (jQ G (some (vI fin)) M) args s 0 0 (jA G)) (F0 m 50 ls [])) (hO : jOk G M s H locs) (hl : lv_has ls 6 [(0, jR G l0), (1, vI l1), (2, vI l2), (3, vI l3), (4, vI S.1), (5, vI S.2)]) : W p l e R s m args below meth c H locs 0 0 (MQ below (jQ G (some (vI fin)) M) args s 0 0 (jA G)) (F0 m 16 ls []) := by
  unfold f_X10_doesEnd_L16 at hf
  refine lv_iload C.1 C.2.1 dX10_doesEnd_16 (lv_at hl 5 rfl) ?_
  refine lv_iload_n C.1 C.2.1 dX10_doesEnd_18 rfl (lv_at hl 3 rfl) ?_
  refine j_icmp_ge (tgt := 50) C rfl rfl dX10_doesEnd_19 (by decide) (fun c2 => ?_) (fun c2 => ?_)
  · have hf := (if_pos c2).symm.trans hf
    exact kx0 _ (som_e hf).symm _ _ _ hO (lv_sub hl [1, 3, 4] rfl)
  · have hf := (if_neg c2).symm.trans hf
    refine lv_iconst (v := Int32.ofInt 3) C.1 C.2.1 dX10_doesEnd_22 rfl ?_
    refine lv_iload C.1 C.2.1 dX10_doesEnd_23 (lv_at hl 4 rfl) ?_
    refine j_imul C dX10_doesEnd_25 ?_
    refine lv_aload_n C.1 C.2.1 dX10_doesEnd_26 rfl (lv_at hl 0 rfl) ?_
    refine j_get C hO (ci := 10) (k := 1) (v := jR G (jpt l0 1)) h0 rfl inlX10 (by decide) kF_5_23 rfl rfl dX10_doesEnd_27 ?_
    refine lv_bipush (v := Int32.ofInt 10) C.1 C.2.1 dX10_doesEnd_30 (by decide) ?_
    refine lv_bipush (v := Int32.ofInt 6) C.1 C.2.1 dX10_doesEnd_32 (by decide) ?_
    refine lv_iload_n C.1 C.2.1 dX10_doesEnd_34 rfl (lv_at hl 2 rfl) ?_
    refine j_imul C dX10_doesEnd_35 ?_
    refine j_iadd C dX10_doesEnd_36 ?_
    refine lv_iload C.1 C.2.1 dX10_doesEnd_37 (lv_at hl 5 rfl) ?_
    refine j_iadd C dX10_doesEnd_39 ?_
    obtain ⟨g3, hf⟩ := grd_e hf
    refine j_iald C hO (tp_10_1 h0) rfl g3.1 g3.2 dX10_doesEnd_40 ?_
    refine j_iadd C dX10_doesEnd_41 ?_
    refine lv_istore (lv' := [(4, vI ((3 * S.1) + (M (jpt l0 1) (w32 ((10 + (6 * l2)) + S.2))))), (0, jR G l0), (1, vI l1), (2, vI l2), (3, vI l3), (5, vI S.2)]) C.1 C.2.1 dX10_doesEnd_42 hl (by decide) rfl (fun ls hl => ?_)
    refine lv_iinc (v := Int32.ofInt (S.2 + 1)) (lv' := [(5, vI (S.2 + 1)), (4, vI ((3 * S.1) + (M (jpt l0 1) (w32 ((10 + (6 * l2)) + S.2))))), (0, jR G l0), (1, vI l1), (2, vI l2), (3, vI l3)]) C.1 C.2.1 dX10_doesEnd_44 hl (k := 5) rfl (Int32.ofInt_add _ _).symm (by decide) rfl (fun ls hl => ?_)
    refine lv_goto (tgt := 16) C.1 C.2.1 dX10_doesEnd_47 (by decide) ?_
    exact kc _ (som_e hf).symm _ _ _ hO (lv_sub hl [2, 3, 4, 5, 1, 0] rfl)
set_option maxHeartbeats 4000000 in
theorem w_X10_doesEnd {p : Program} {l : Launch} {e : Env} {R : Room} {s : State} {m : MethodId} {args : Array Value} {below : List Frame} {meth : Method} {c : Code} {H : Heap} {locs : List Loc} {ls : Array Slot} {G : jG}  (C : jCx p s m args meth c cX10_doesEnd 6 RX10 (Cond.code yX10_doesEnd cX10_doesEnd 6 (some .boolean)) (some .boolean)) (hRf : 1 ≤ R.frames) (hRl : 22 ≤ R.locals)  (M : jM) (l0 l1 l2 : Int) (h0 : jkd l0 = (10, 0)) {fin : Int} (hf : f_X10_doesEnd M l0 l1 l2 = some fin) (hO : jOk G M s H locs) (hl : lv_has ls 6 [(0, jR G l0), (1, vI l1), (2, vI l2)]) : W p l e R s m args below meth c H locs 0 0 (MQ below (jQ G (some (vI fin)) M) args s 0 0 (jA G)) (F0 m 0 ls []) := by
  unfold f_X10_doesEnd at hf
  refine lv_aload_n C.1 C.2.1 dX10_doesEnd_0 rfl (lv_at hl 0 rfl) ?_
  refine j_get C hO (ci := 10) (k := 1) (v := jR G (jpt l0 1)) h0 rfl inlX10 (by decide) kF_5_23 rfl rfl dX10_doesEnd_1 ?_
  refine lv_bipush (v := Int32.ofInt 58) C.1 C.2.1 dX10_doesEnd_4 (by decide) ?_
  refine lv_iload_n C.1 C.2.1 dX10_doesEnd_6 rfl (lv_at hl 2 rfl) ?_
  refine j_iadd C dX10_doesEnd_7 ?_
  obtain ⟨g1, hf⟩ := grd_e hf
  refine j_iald C hO (tp_10_1 h0) rfl g1.1 g1.2 dX10_doesEnd_8 ?_
  refine lv_istore_n (lv' := [(3, vI (M (jpt l0 1) (w32 (58 + l2)))), (0, jR G l0), (1, vI l1), (2, vI l2)]) C.1 C.2.1 dX10_doesEnd_9 rfl hl (by decide) rfl (fun ls hl => ?_)
  refine lv_iconst (v := Int32.ofInt 0) C.1 C.2.1 dX10_doesEnd_10 rfl ?_
  refine lv_istore (lv' := [(4, vI 0), (3, vI (M (jpt l0 1) (w32 (58 + l2)))), (0, jR G l0), (1, vI l1), (2, vI l2)]) C.1 C.2.1 dX10_doesEnd_11 hl (by decide) rfl (fun ls hl => ?_)
  refine lv_iconst (v := Int32.ofInt 0) C.1 C.2.1 dX10_doesEnd_13 rfl ?_
  refine lv_istore (lv' := [(5, vI 0), (4, vI 0), (3, vI (M (jpt l0 1) (w32 (58 + l2)))), (0, jR G l0), (1, vI l1), (2, vI l2)]) C.1 C.2.1 dX10_doesEnd_14 hl (by decide) rfl (fun ls hl => ?_)
  obtain ⟨x4, hx4, hf⟩ := bnd_e hf
  refine iter_e (P := fun Z => ∀ (H : Heap) (locs : List Loc) (ls : Array Slot), jOk G M s H locs → lv_has ls 6 [(0, jR G l0), (1, vI l1), (2, vI l2), (3, vI (M (jpt l0 1) (w32 (58 + l2)))), (4, vI Z.1), (5, vI Z.2)] → W p l e R s m args below meth c H locs 0 0 (MQ below (jQ G (some (vI fin)) M) args s 0 0 (jA G)) (F0 m 16 ls [])) (E := fun q => ∀ (H : Heap) (locs : List Loc) (ls : Array Slot), jOk G M s H locs → lv_has ls 6 [(1, vI l1), (3, vI (M (jpt l0 1) (w32 (58 + l2)))), (4, vI q)] → W p l e R s m args below meth c H locs 0 0 (MQ below (jQ G (some (vI fin)) M) args s 0 0 (jA G)) (F0 m 50 ls [])) (fun Z rr hb kc kx H locs ls hO hl => w_X10_doesEnd_L16 C hRf hRl M l0 l1 l2 (M (jpt l0 1) (w32 (58 + l2))) h0 Z hb kc (fun q e => kx q e) hO hl) 5000 (0, 0) x4 hx4 ?_ _ _ _ hO (lv_sub hl [3, 4, 5, 2, 1, 0] rfl)
  clear hO hl
  intro H locs ls hO hl
  refine lv_iload_n C.1 C.2.1 dX10_doesEnd_50 rfl (lv_at hl 0 rfl) ?_
  refine lv_iload_n C.1 C.2.1 dX10_doesEnd_51 rfl (lv_at hl 1 rfl) ?_
  obtain ⟨r5, hr5, hf⟩ := bnd_e hf
  refine j_callS C hO (n := 1) (As := [vI (M (jpt l0 1) (w32 (58 + l2)))]) (st1 := [vI r5, vI l1]) (c_X10_threes l G M (M (jpt l0 1) (w32 (58 + l2)))  hr5) kC_36_22 kM_36_20 kT_36_21 kN_1_5 ⟨by decide, by decide, by decide⟩ ⟨Nat.le_trans (by decide) hRf, Nat.le_trans (by decide) hRl⟩ rfl rfl rfl hl.1 rfl (Nat.le_of_ble_eq_true rfl) ⟨Nat.zero_le _, Nat.zero_le _⟩ dX10_doesEnd_52 rfl (fun H locs hO => ?_)
  refine j_icmp_lt (tgt := 73) C rfl rfl dX10_doesEnd_55 (by decide) (fun c6 => ?_) (fun c6 => ?_)
  · have hf := (if_pos c6).symm.trans hf
    refine lv_iconst (v := Int32.ofInt 0) C.1 C.2.1 dX10_doesEnd_73 rfl ?_
    have hf := som_e hf
    subst hf
    exact j_zret C hO (Or.inl rfl) dX10_doesEnd_74
  · have hf := (if_neg c6).symm.trans hf
    refine lv_iload_n C.1 C.2.1 dX10_doesEnd_58 rfl (lv_at hl 0 rfl) ?_
    refine lv_iload_n C.1 C.2.1 dX10_doesEnd_59 rfl (lv_at hl 1 rfl) ?_
    obtain ⟨r7, hr7, hf⟩ := bnd_e hf
    refine j_callS C hO (n := 1) (As := [vI (M (jpt l0 1) (w32 (58 + l2)))]) (st1 := [vI r7, vI l1]) (c_X10_threes l G M (M (jpt l0 1) (w32 (58 + l2)))  hr7) kC_36_22 kM_36_20 kT_36_21 kN_1_5 ⟨by decide, by decide, by decide⟩ ⟨Nat.le_trans (by decide) hRf, Nat.le_trans (by decide) hRl⟩ rfl rfl rfl hl.1 rfl (Nat.le_of_ble_eq_true rfl) ⟨Nat.zero_le _, Nat.zero_le _⟩ dX10_doesEnd_60 rfl (fun H locs hO => ?_)
    obtain ⟨g8, hf⟩ := grd_e hf
    refine j_irem C g8 dX10_doesEnd_63 ?_
    refine lv_iload C.1 C.2.1 dX10_doesEnd_64 (lv_at hl 2 rfl) ?_
    refine j_icmp_ne (tgt := 73) C rfl rfl dX10_doesEnd_66 (by decide) (fun c9 => ?_) (fun c9 => ?_)
    · have hf := (if_neg c9).symm.trans hf
      refine lv_iconst (v := Int32.ofInt 0) C.1 C.2.1 dX10_doesEnd_73 rfl ?_
      have hf := som_e hf
      subst hf
      exact j_zret C hO (Or.inl rfl) dX10_doesEnd_74
    · have hf := (if_pos c9).symm.trans hf
      refine lv_iconst (v := Int32.ofInt 1) C.1 C.2.1 dX10_doesEnd_69 rfl ?_
      refine lv_goto (tgt := 74) C.1 C.2.1 dX10_doesEnd_70 (by decide) ?_
      have hf := som_e hf
      subst hf
      exact j_zret C hO (Or.inr rfl) dX10_doesEnd_74
set_option maxHeartbeats 1000000 in
theorem c_X10_doesEnd (l : Launch) (G : jG)  (M : jM) (l0 l1 l2 : Int) (h0 : jkd l0 = (10, 0)) {fin : Int} (h : f_X10_doesEnd M l0 l1 l2 = some fin) : Met l yX10_doesEnd (Cond.code yX10_doesEnd cX10_doesEnd 6 (some .boolean) :: wsL_law) ({ frames := 1, cells := 0, slots := 0, locals := 22 } : Room) (va_Pc [jR G l0, vI l1, vI l2] (fun U => jRep G M U)) (jQ G (some (vI fin)) M) 0 0 (jA G) := by
  refine Met.ofW (cc := cX10_doesEnd) (maxL := 6) (ret := (some .boolean)) (by decide) rfl ?_
  intro p e s m args below meth c s₁ B hml hv
  obtain ⟨rfl, hR0⟩ := hv
  have C : jCx p s m ([jR G l0, vI l1, vI l2] : List Value).toArray meth c cX10_doesEnd 6 RX10 (Cond.code yX10_doesEnd cX10_doesEnd 6 (some .boolean)) (some .boolean) := ⟨B.exec, B.bytes, hml, findClass_of_methodNamed B.named, atoms_spec B.pre, B.returns, B.notSynchronized⟩
  have hO := hR0.ok
  have hl := lv_entry ([jR G l0, vI l1, vI l2]) (n := 6) (Nat.le_of_ble_eq_true rfl)
  rw [lg_entry_eq]
  generalize (lg_sl ([jR G l0, vI l1, vI l2]) ++ List.replicate (6 - (lg_sl ([jR G l0, vI l1, vI l2])).length) Slot.unset).toArray = ls at hl ⊢
  have hl : lv_has ls 6 [(0, jR G l0), (1, vI l1), (2, vI l2)] := hl
  exact w_X10_doesEnd C (Nat.le_refl _) (Nat.le_refl _) M l0 l1 l2 h0 h hO hl
set_option maxHeartbeats 4000000 in
theorem w_X10_firstEnd_31 {p : Program} {l : Launch} {e : Env} {R : Room} {s : State} {m : MethodId} {args : Array Value} {below : List Frame} {meth : Method} {c : Code} {H : Heap} {locs : List Loc} {ls : Array Slot} {G : jG}  (C : jCx p s m args meth c cX10_firstEnd 3 RX10 (Cond.code yX10_firstEnd cX10_firstEnd 3 (some .int)) (some .int)) (hRf : 3 ≤ R.frames) (hRl : 65 ≤ R.locals)  (M : jM) (l0 l1 l2 : Int) (h0 : jkd l0 = (10, 0)) {fin : Int} {rr : (Int) ⊕ (Unit ⊕ Int)} (hf : f_X10_firstEnd_31 M l0 l1 l2 = some rr) (kc : ∀ q : Int, rr = .inl q → ∀ (H : Heap) (locs : List Loc) (ls : Array Slot), jOk G M s H locs → lv_has ls 3 [(0, jR G l0), (1, vI l1), (2, vI q)] → W p l e R s m args below meth c H locs 0 0 (MQ below (jQ G (some (vI fin)) M) args s 0 0 (jA G)) (F0 m 2 ls [])) (kx0 : ∀ q : Unit, rr = .inr (.inl q) → ∀ (H : Heap) (locs : List Loc) (ls : Array Slot), jOk G M s H locs → lv_has ls 3 [] → W p l e R s m args below meth c H locs 0 0 (MQ below (jQ G (some (vI fin)) M) args s 0 0 (jA G)) (F0 m 37 ls [])) (kx1 : ∀ q : Int, rr = .inr (.inr q) → ∀ (H : Heap) (locs : List Loc) (ls : Array Slot), jOk G M s H locs → lv_has ls 3 [(2, vI q)] → W p l e R s m args below meth c H locs 0 0 (MQ below (jQ G (some (vI fin)) M) args s 0 0 (jA G)) (F0 m 29 ls [])) (hO : jOk G M s H locs) (hl : lv_has ls 3 [(0, jR G l0), (1, vI l1), (2, vI l2)]) : W p l e R s m args below meth c H locs 0 0 (MQ below (jQ G (some (vI fin)) M) args s 0 0 (jA G)) (F0 m 31 ls []) := by
  unfold f_X10_firstEnd_31 at hf
  refine lv_iinc (v := Int32.ofInt (l2 + 1)) (lv' := [(2, vI (l2 + 1)), (0, jR G l0), (1, vI l1)]) C.1 C.2.1 dX10_firstEnd_31 hl (k := 2) rfl (Int32.ofInt_add _ _).symm (by decide) rfl (fun ls hl => ?_)
  refine lv_goto (tgt := 2) C.1 C.2.1 dX10_firstEnd_34 (by decide) ?_
  exact kc _ (som_e hf).symm _ _ _ hO (lv_sub hl [1, 2, 0] rfl)
set_option maxHeartbeats 4000000 in
theorem w_X10_firstEnd_L2 {p : Program} {l : Launch} {e : Env} {R : Room} {s : State} {m : MethodId} {args : Array Value} {below : List Frame} {meth : Method} {c : Code} {H : Heap} {locs : List Loc} {ls : Array Slot} {G : jG}  (C : jCx p s m args meth c cX10_firstEnd 3 RX10 (Cond.code yX10_firstEnd cX10_firstEnd 3 (some .int)) (some .int)) (hRf : 3 ≤ R.frames) (hRl : 65 ≤ R.locals)  (M : jM) (l0 l1 : Int) (h0 : jkd l0 = (10, 0)) {fin : Int} (S : Int) {rr : (Int) ⊕ (Unit ⊕ Int)} (hf : f_X10_firstEnd_L2 M l0 l1 S = some rr) (kc : ∀ q : Int, rr = .inl q → ∀ (H : Heap) (locs : List Loc) (ls : Array Slot), jOk G M s H locs → lv_has ls 3 [(0, jR G l0), (1, vI l1), (2, vI q)] → W p l e R s m args below meth c H locs 0 0 (MQ below (jQ G (some (vI fin)) M) args s 0 0 (jA G)) (F0 m 2 ls [])) (kx0 : ∀ q : Unit, rr = .inr (.inl q) → ∀ (H : Heap) (locs : List Loc) (ls : Array Slot), jOk G M s H locs → lv_has ls 3 [] → W p l e R s m args below meth c H locs 0 0 (MQ below (jQ G (some (vI fin)) M) args s 0 0 (jA G)) (F0 m 37 ls [])) (kx1 : ∀ q : Int, rr = .inr (.inr q) → ∀ (H : Heap) (locs : List Loc) (ls : Array Slot), jOk G M s H locs → lv_has ls 3 [(2, vI q)] → W p l e R s m args below meth c H locs 0 0 (MQ below (jQ G (some (vI fin)) M) args s 0 0 (jA G)) (F0 m 29 ls [])) (hO : jOk G M s H locs) (hl : lv_has ls 3 [(0, jR G l0), (1, vI l1), (2, vI S)]) : W p l e R s m args below meth c H locs 0 0 (MQ below (jQ G (some (vI fin)) M) args s 0 0 (jA G)) (F0 m 2 ls []) := by
  unfold f_X10_firstEnd_L2 at hf
  refine lv_iload_n C.1 C.2.1 dX10_firstEnd_2 rfl (lv_at hl 2 rfl) ?_
  refine lv_aload_n C.1 C.2.1 dX10_firstEnd_3 rfl (lv_at hl 0 rfl) ?_
  refine j_get C hO (ci := 10) (k := 1) (v := jR G (jpt l0 1)) h0 rfl inlX10 (by decide) kF_5_23 rfl rfl dX10_firstEnd_4 ?_
  refine lv_iconst (v := Int32.ofInt 0) C.1 C.2.1 dX10_firstEnd_7 rfl ?_
  refine j_iald C hO (tp_10_1 h0) (w32_id (by decide) (by decide)) (by decide) (by decide) dX10_firstEnd_8 ?_
  refine j_icmp_ge (tgt := 37) C rfl rfl dX10_firstEnd_9 (by decide) (fun c1 => ?_) (fun c1 => ?_)
  · have hf := (if_pos c1).symm.trans hf
    exact kx0 _ (som_e hf).symm _ _ _ hO (lv_sub hl [] rfl)
  · have hf := (if_neg c1).symm.trans hf
    refine lv_aload_n C.1 C.2.1 dX10_firstEnd_12 rfl (lv_at hl 0 rfl) ?_
    refine lv_iload_n C.1 C.2.1 dX10_firstEnd_13 rfl (lv_at hl 2 rfl) ?_
    obtain ⟨r2, hr2, hf⟩ := bnd_e hf
    refine j_callV C hO (n := 1) (As := [vI S]) (st1 := [vI r2]) (c_X10_isLawful l G M l0 S h0 hr2) h0 rfl kC_23_3 kM_23_0 kI_23_1 kS_23_2 kN_1_5 ⟨by decide, by decide, by decide⟩ ⟨Nat.le_trans (by decide) hRf, Nat.le_trans (by decide) hRl⟩ rfl rfl rfl hl.1 rfl (Nat.le_of_ble_eq_true rfl) ⟨Nat.zero_le _, Nat.zero_le _⟩ dX10_firstEnd_14 rfl (fun H locs hO => ?_)
    refine j_if_eq (tgt := 31) C rfl dX10_firstEnd_17 (by decide) (fun c3 => ?_) (fun c3 => ?_)
    · have hf := (if_pos c3).symm.trans hf
      exact w_X10_firstEnd_31 C hRf hRl M l0 l1 S h0 hf kc kx0 kx1 hO (lv_sub hl [0, 1, 2] rfl)
    · have hf := (if_neg c3).symm.trans hf
      refine lv_aload_n C.1 C.2.1 dX10_firstEnd_20 rfl (lv_at hl 0 rfl) ?_
      refine lv_iload_n C.1 C.2.1 dX10_firstEnd_21 rfl (lv_at hl 1 rfl) ?_
      refine lv_iload_n C.1 C.2.1 dX10_firstEnd_22 rfl (lv_at hl 2 rfl) ?_
      obtain ⟨r4, hr4, hf⟩ := bnd_e hf
      refine j_callV C hO (n := 2) (As := [vI l1, vI S]) (st1 := [vI r4]) (c_X10_doesEnd l G M l0 l1 S h0 hr4) h0 rfl kC_36_19 kM_36_16 kI_36_17 kS_36_18 kN_1_5 ⟨by decide, by decide, by decide⟩ ⟨Nat.le_trans (by decide) hRf, Nat.le_trans (by decide) hRl⟩ rfl rfl rfl hl.1 rfl (Nat.le_of_ble_eq_true rfl) ⟨Nat.zero_le _, Nat.zero_le _⟩ dX10_firstEnd_23 rfl (fun H locs hO => ?_)
      refine j_if_eq (tgt := 31) C rfl dX10_firstEnd_26 (by decide) (fun c5 => ?_) (fun c5 => ?_)
      · have hf := (if_pos c5).symm.trans hf
        exact w_X10_firstEnd_31 C hRf hRl M l0 l1 S h0 hf kc kx0 kx1 hO (lv_sub hl [0, 1, 2] rfl)
      · have hf := (if_neg c5).symm.trans hf
        exact kx1 _ (som_e hf).symm _ _ _ hO (lv_sub hl [2] rfl)
set_option maxHeartbeats 4000000 in
theorem w_X10_firstEnd {p : Program} {l : Launch} {e : Env} {R : Room} {s : State} {m : MethodId} {args : Array Value} {below : List Frame} {meth : Method} {c : Code} {H : Heap} {locs : List Loc} {ls : Array Slot} {G : jG}  (C : jCx p s m args meth c cX10_firstEnd 3 RX10 (Cond.code yX10_firstEnd cX10_firstEnd 3 (some .int)) (some .int)) (hRf : 3 ≤ R.frames) (hRl : 65 ≤ R.locals)  (M : jM) (l0 l1 : Int) (h0 : jkd l0 = (10, 0)) {fin : Int} (hf : f_X10_firstEnd M l0 l1 = some fin) (hO : jOk G M s H locs) (hl : lv_has ls 3 [(0, jR G l0), (1, vI l1)]) : W p l e R s m args below meth c H locs 0 0 (MQ below (jQ G (some (vI fin)) M) args s 0 0 (jA G)) (F0 m 0 ls []) := by
  unfold f_X10_firstEnd at hf
  refine lv_iconst (v := Int32.ofInt 0) C.1 C.2.1 dX10_firstEnd_0 rfl ?_
  refine lv_istore_n (lv' := [(2, vI 0), (0, jR G l0), (1, vI l1)]) C.1 C.2.1 dX10_firstEnd_1 rfl hl (by decide) rfl (fun ls hl => ?_)
  obtain ⟨x6, hx6, hf⟩ := bnd_e hf
  refine iter_e (P := fun Z => ∀ (H : Heap) (locs : List Loc) (ls : Array Slot), jOk G M s H locs → lv_has ls 3 [(0, jR G l0), (1, vI l1), (2, vI Z)] → W p l e R s m args below meth c H locs 0 0 (MQ below (jQ G (some (vI fin)) M) args s 0 0 (jA G)) (F0 m 2 ls [])) (E := fun x => (∀ q : Unit, x = (.inl q) → ∀ (H : Heap) (locs : List Loc) (ls : Array Slot), jOk G M s H locs → lv_has ls 3 [] → W p l e R s m args below meth c H locs 0 0 (MQ below (jQ G (some (vI fin)) M) args s 0 0 (jA G)) (F0 m 37 ls [])) ∧ (∀ q : Int, x = (.inr q) → ∀ (H : Heap) (locs : List Loc) (ls : Array Slot), jOk G M s H locs → lv_has ls 3 [(2, vI q)] → W p l e R s m args below meth c H locs 0 0 (MQ below (jQ G (some (vI fin)) M) args s 0 0 (jA G)) (F0 m 29 ls []))) (fun Z rr hb kc kx H locs ls hO hl => w_X10_firstEnd_L2 C hRf hRl M l0 l1 h0 Z hb kc (fun q e => (kx _ e).1 q rfl) (fun q e => (kx _ e).2 q rfl) hO hl) 5000 0 x6 hx6 ?_ _ _ _ hO (lv_sub hl [1, 2, 0] rfl)
  clear hO hl
  refine ⟨?_, ?_⟩
  · intro q7 eq7 H locs ls hO hl
    subst eq7
    have hf := sel_l hf
    refine lv_iconst (v := Int32.ofInt (-1)) C.1 C.2.1 dX10_firstEnd_37 rfl ?_
    have hf := som_e hf
    subst hf
    exact j_iret C hO dX10_firstEnd_38
  · intro q8 eq8 H locs ls hO hl
    subst eq8
    have hf := sel_r hf
    refine lv_iload_n C.1 C.2.1 dX10_firstEnd_29 rfl (lv_at hl 0 rfl) ?_
    have hf := som_e hf
    subst hf
    exact j_iret C hO dX10_firstEnd_30
set_option maxHeartbeats 1000000 in
theorem c_X10_firstEnd (l : Launch) (G : jG)  (M : jM) (l0 l1 : Int) (h0 : jkd l0 = (10, 0)) {fin : Int} (h : f_X10_firstEnd M l0 l1 = some fin) : Met l yX10_firstEnd (Cond.code yX10_firstEnd cX10_firstEnd 3 (some .int) :: wsL_law) ({ frames := 3, cells := 0, slots := 0, locals := 65 } : Room) (va_Pc [jR G l0, vI l1] (fun U => jRep G M U)) (jQ G (some (vI fin)) M) 0 0 (jA G) := by
  refine Met.ofW (cc := cX10_firstEnd) (maxL := 3) (ret := (some .int)) (by decide) rfl ?_
  intro p e s m args below meth c s₁ B hml hv
  obtain ⟨rfl, hR0⟩ := hv
  have C : jCx p s m ([jR G l0, vI l1] : List Value).toArray meth c cX10_firstEnd 3 RX10 (Cond.code yX10_firstEnd cX10_firstEnd 3 (some .int)) (some .int) := ⟨B.exec, B.bytes, hml, findClass_of_methodNamed B.named, atoms_spec B.pre, B.returns, B.notSynchronized⟩
  have hO := hR0.ok
  have hl := lv_entry ([jR G l0, vI l1]) (n := 3) (Nat.le_of_ble_eq_true rfl)
  rw [lg_entry_eq]
  generalize (lg_sl ([jR G l0, vI l1]) ++ List.replicate (3 - (lg_sl ([jR G l0, vI l1])).length) Slot.unset).toArray = ls at hl ⊢
  have hl : lv_has ls 3 [(0, jR G l0), (1, vI l1)] := hl
  exact w_X10_firstEnd C (Nat.le_refl _) (Nat.le_refl _) M l0 l1 h0 h hO hl
