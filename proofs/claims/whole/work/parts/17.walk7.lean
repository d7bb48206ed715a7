set_option maxHeartbeats 4000000 in
theorem w_X9_worth {p : Program} {l : Launch} {e : Env} {R : Room} {s : State} {m : MethodId} {args : Array Value} {below : List Frame} {meth : Method} {c : Code} {H : Heap} {locs : List Loc} {ls : Array Slot} {G : jG}  (C : jCx p s m args meth c cX9_worth 6 RX9 (Cond.code yX9_worth cX9_worth 6 (some .long)) (some .long)) (hRf : 5 ≤ R.frames) (hRl : 113 ≤ R.locals)  (M : jM) (l0 l1 l2 l3 : Int) (h0 : jkd l0 = (9, 0)) {fin : Int × jM} (hf : f_X9_worth M l0 l1 l2 l3 = some fin) (hO : jOk G M s H locs) (hl : lv_has ls 6 [(0, jR G l0), (1, vI l1), (2, vI l2), (3, vI l3)]) : W p l e R s m args below meth c H locs 0 0 (MQ below (jQ G (some (vL fin.1)) fin.2) args s 0 0 (jA G)) (F0 m 0 ls []) := by
  unfold f_X9_worth at hf
  refine lv_iload_n C.1 C.2.1 dX9_worth_0 rfl (lv_at hl 3 rfl) ?_
  obtain ⟨r1, hr1, hf⟩ := bnd_e hf
  refine j_callS C hO (n := 1) (As := [vI l3]) (st1 := [vI r1]) (c_X9_isPart l G M l3  hr1) kC_21_16 kM_21_14 kT_21_15 kN_1_2 ⟨by decide, by decide, by decide⟩ ⟨Nat.le_trans (by decide) hRf, Nat.le_trans (by decide) hRl⟩ rfl rfl rfl hl.1 rfl (Nat.le_of_ble_eq_true rfl) ⟨Nat.zero_le _, Nat.zero_le _⟩ dX9_worth_1 rfl (fun H locs hO => ?_)
  refine j_if_eq (tgt := 16) C rfl dX9_worth_4 (by decide) (fun c2 => ?_) (fun c2 => ?_)
  · have hf := (if_pos c2).symm.trans hf
    refine j_ldc2 (x := (-9223372036854775808)) C kL_21_3 (by decide) dX9_worth_16 ?_
    have hf := som_e hf
    subst hf
    exact j_lret C hO dX9_worth_19
  · have hf := (if_neg c2).symm.trans hf
    refine lv_aload_n C.1 C.2.1 dX9_worth_7 rfl (lv_at hl 0 rfl) ?_
    refine lv_iload_n C.1 C.2.1 dX9_worth_8 rfl (lv_at hl 1 rfl) ?_
    refine lv_iload_n C.1 C.2.1 dX9_worth_9 rfl (lv_at hl 2 rfl) ?_
    obtain ⟨r3, hr3, hf⟩ := bnd_e hf
    refine j_callV C hO (n := 2) (As := [vI l1, vI l2]) (st1 := [vI r3.1]) (c_X9_measured l G M l0 l1 l2 h0 hr3) h0 rfl kC_24_11 kM_24_8 kI_24_9 kS_24_10 kN_1_2 ⟨by decide, by decide, by decide⟩ ⟨Nat.le_trans (by decide) hRf, Nat.le_trans (by decide) hRl⟩ rfl rfl rfl hl.1 rfl (Nat.le_of_ble_eq_true rfl) ⟨Nat.zero_le _, Nat.zero_le _⟩ dX9_worth_10 rfl (fun H locs hO => ?_)
    refine j_if_ne (tgt := 20) C rfl dX9_worth_13 (by decide) (fun c4 => ?_) (fun c4 => ?_)
    · have hf := (if_neg c4).symm.trans hf
      refine lv_aload_n C.1 C.2.1 dX9_worth_20 rfl (lv_at hl 0 rfl) ?_
      refine j_get C hO (ci := 9) (k := 0) (v := jR G (jpt l0 0)) h0 rfl inlX9 (by decide) kF_1_15 rfl rfl dX9_worth_21 ?_
      refine j_get C hO (ci := 8) (k := 2) (v := jR G (jpt (jpt l0 0) 2)) (tp_9_0 h0) rfl inlX8 (by decide) kF_7_8 rfl rfl dX9_worth_24 ?_
      refine j_get C hO (ci := 7) (k := 2) (v := vI (r3.2 (jpt (jpt l0 0) 2) 2)) (tp_8_2 (tp_9_0 h0)) rfl inlX7 (by decide) kF_15_7 rfl rfl dX9_worth_27 ?_
      refine j_i2l C dX9_worth_30 ?_
      refine lv_aload_n C.1 C.2.1 dX9_worth_31 rfl (lv_at hl 0 rfl) ?_
      refine j_get C hO (ci := 9) (k := 6) (v := jR G (jpt l0 6)) h0 rfl inlX9 (by decide) kF_2_9 rfl rfl dX9_worth_32 ?_
      refine j_get C hO (ci := 2) (k := 0) (v := vL (r3.2 (jpt l0 6) 0)) (tp_9_6 h0) rfl inlX2 (by decide) kF_24_6 rfl rfl dX9_worth_35 ?_
      refine j_lmul C dX9_worth_38 ?_
      refine lv_aload_n C.1 C.2.1 dX9_worth_39 rfl (lv_at hl 0 rfl) ?_
      refine j_get C hO (ci := 9) (k := 0) (v := jR G (jpt l0 0)) h0 rfl inlX9 (by decide) kF_1_15 rfl rfl dX9_worth_40 ?_
      refine j_get C hO (ci := 8) (k := 2) (v := jR G (jpt (jpt l0 0) 2)) (tp_9_0 h0) rfl inlX8 (by decide) kF_7_8 rfl rfl dX9_worth_43 ?_
      refine j_get C hO (ci := 7) (k := 1) (v := vI (r3.2 (jpt (jpt l0 0) 2) 1)) (tp_8_2 (tp_9_0 h0)) rfl inlX7 (by decide) kF_15_6 rfl rfl dX9_worth_46 ?_
      refine j_i2l C dX9_worth_49 ?_
      refine lv_aload_n C.1 C.2.1 dX9_worth_50 rfl (lv_at hl 0 rfl) ?_
      refine j_get C hO (ci := 9) (k := 6) (v := jR G (jpt l0 6)) h0 rfl inlX9 (by decide) kF_2_9 rfl rfl dX9_worth_51 ?_
      refine j_get C hO (ci := 2) (k := 3) (v := vL (r3.2 (jpt l0 6) 3)) (tp_9_6 h0) rfl inlX2 (by decide) kF_26_13 rfl rfl dX9_worth_54 ?_
      refine j_lmul C dX9_worth_57 ?_
      refine j_lsub C dX9_worth_58 ?_
      refine lv_lstore (lv' := [(4, vL (((w32 (r3.2 (jpt (jpt l0 0) 2) 2)) * (r3.2 (jpt l0 6) 0)) - ((w32 (r3.2 (jpt (jpt l0 0) 2) 1)) * (r3.2 (jpt l0 6) 3)))), (0, jR G l0), (1, vI l1), (2, vI l2), (3, vI l3)]) C.1 C.2.1 dX9_worth_59 hl (by decide) rfl (fun ls hl => ?_)
      refine lv_lload C.1 C.2.1 dX9_worth_61 (lv_at hl 0 rfl) ?_
      refine lv_aload_n C.1 C.2.1 dX9_worth_63 rfl (lv_at hl 1 rfl) ?_
      refine j_get C hO (ci := 9) (k := 6) (v := jR G (jpt l0 6)) h0 rfl inlX9 (by decide) kF_2_9 rfl rfl dX9_worth_64 ?_
      refine j_get C hO (ci := 2) (k := 2) (v := vL (r3.2 (jpt l0 6) 2)) (tp_9_6 h0) rfl inlX2 (by decide) kF_24_7 rfl rfl dX9_worth_67 ?_
      refine lv_iload_n C.1 C.2.1 dX9_worth_70 rfl (lv_at hl 4 rfl) ?_
      obtain ⟨r5, hr5, hf⟩ := bnd_e hf
      refine j_callS C hO (n := 3) (As := [vL (((w32 (r3.2 (jpt (jpt l0 0) 2) 2)) * (r3.2 (jpt l0 6) 0)) - ((w32 (r3.2 (jpt (jpt l0 0) 2) 1)) * (r3.2 (jpt l0 6) 3))), vL (r3.2 (jpt l0 6) 2), vI l3]) (st1 := [vL r5]) (c_X9_fraction l G r3.2 (((w32 (r3.2 (jpt (jpt l0 0) 2) 2)) * (r3.2 (jpt l0 6) 0)) - ((w32 (r3.2 (jpt (jpt l0 0) 2) 1)) * (r3.2 (jpt l0 6) 3))) (r3.2 (jpt l0 6) 2) l3  hr5) kC_22_12 kM_22_10 kT_22_11 kN_1_2 ⟨by decide, by decide, by decide⟩ ⟨Nat.le_trans (by decide) hRf, Nat.le_trans (by decide) hRl⟩ rfl rfl rfl hl.1 rfl (Nat.le_of_ble_eq_true rfl) ⟨Nat.zero_le _, Nat.zero_le _⟩ dX9_worth_71 rfl (fun H locs hO => ?_)
      have hf := som_e hf
      subst hf
      exact j_lret C hO dX9_worth_74
    · have hf := (if_pos c4).symm.trans hf
      refine j_ldc2 (x := (-9223372036854775808)) C kL_21_3 (by decide) dX9_worth_16 ?_
      have hf := som_e hf
      subst hf
      exact j_lret C hO dX9_worth_19
set_option maxHeartbeats 1000000 in
theorem c_X9_worth (l : Launch) (G : jG)  (M : jM) (l0 l1 l2 l3 : Int) (h0 : jkd l0 = (9, 0)) {fin : Int × jM} (h : f_X9_worth M l0 l1 l2 l3 = some fin) : Met l yX9_worth (Cond.code yX9_worth cX9_worth 6 (some .long) :: wsL_law) ({ frames := 5, cells := 0, slots := 0, locals := 113 } : Room) (va_Pc [jR G l0, vI l1, vI l2, vI l3] (fun U => jRep G M U)) (jQ G (some (vL fin.1)) fin.2) 0 0 (jA G) := by
  refine Met.ofW (cc := cX9_worth) (maxL := 6) (ret := (some .long)) (by decide) rfl ?_
  intro p e s m args below meth c s₁ B hml hv
  obtain ⟨rfl, hR0⟩ := hv
  have C : jCx p s m ([jR G l0, vI l1, vI l2, vI l3] : List Value).toArray meth c cX9_worth 6 RX9 (Cond.code yX9_worth cX9_worth 6 (some .long)) (some .long) := ⟨B.exec, B.bytes, hml, findClass_of_methodNamed B.named, atoms_spec B.pre, B.returns, B.notSynchronized⟩
  have hO := hR0.ok
  have hl := lv_entry ([jR G l0, vI l1, vI l2, vI l3]) (n := 6) (Nat.le_of_ble_eq_true rfl)
  rw [lg_entry_eq]
  generalize (lg_sl ([jR G l0, vI l1, vI l2, vI l3]) ++ List.replicate (6 - (lg_sl ([jR G l0, vI l1, vI l2, vI l3])).length) Slot.unset).toArray = ls at hl ⊢
  have hl : lv_has ls 6 [(0, jR G l0), (1, vI l1), (2, vI l2), (3, vI l3)] := hl
  exact w_X9_worth C (Nat.le_refl _) (Nat.le_refl _) M l0 l1 l2 l3 h0 h hO hl
set_option maxHeartbeats 4000000 in
theorem w_X9_best {p : Program} {l : Launch} {e : Env} {R : Room} {s : State} {m : MethodId} {args : Array Value} {below : List Frame} {meth : Method} {c : Code} {H : Heap} {locs : List Loc} {ls : Array Slot} {G : jG}  (C : jCx p s m args meth c cX9_best 5 RX9 (Cond.code yX9_best cX9_best 5 (some .int)) (some .int)) (hRf : 5 ≤ R.frames) (hRl : 112 ≤ R.locals)  (M : jM) (l0 l1 l2 l3 : Int) (h0 : jkd l0 = (9, 0)) {fin : Int × jM} (hf : f_X9_best M l0 l1 l2 l3 = some fin) (hO : jOk G M s H locs) (hl : lv_has ls 5 [(0, jR G l0), (1, vI l1), (2, vI l2), (3, vI l3)]) : W p l e R s m args below meth c H locs 0 0 (MQ below (jQ G (some (vI fin.1)) fin.2) args s 0 0 (jA G)) (F0 m 0 ls []) := by
  unfold f_X9_best at hf
  refine lv_aload_n C.1 C.2.1 dX9_best_0 rfl (lv_at hl 0 rfl) ?_
  refine j_get C hO (ci := 9) (k := 0) (v := jR G (jpt l0 0)) h0 rfl inlX9 (by decide) kF_1_15 rfl rfl dX9_best_1 ?_
  refine lv_iload_n C.1 C.2.1 dX9_best_4 rfl (lv_at hl 1 rfl) ?_
  obtain ⟨r1, hr1, hf⟩ := bnd_e hf
  obtain ⟨g2, hf⟩ := grd_e hf
  refine j_callV C hO (n := 1) (As := [vI l1]) (st1 := [jN G r1]) (c_X8_rowAt l G M (jpt l0 0) l1 (tp_9_0 h0) hr1) (tp_9_0 h0) rfl kC_18_22 kM_18_19 kI_18_20 kS_18_21 kN_1_14 ⟨by decide, by decide, by decide⟩ ⟨Nat.le_trans (by decide) hRf, Nat.le_trans (by decide) hRl⟩ rfl rfl rfl hl.1 rfl (Nat.le_of_ble_eq_true rfl) ⟨Nat.zero_le _, Nat.zero_le _⟩ dX9_best_5 rfl (fun H locs hO => ?_)
  refine j_astoreN (i := 4) (lv' := [(0, jR G l0), (1, vI l1), (2, vI l2), (3, vI l3)]) C dX9_best_8 hl (by decide) (fun _ _ => rfl) (fun ls hl => ?_)
  refine j_aloadN C dX9_best_10 (lv_at hl 0 rfl) ?_
  refine j_ifnull (tgt := 24) C dX9_best_12 (by decide) (fun c3 => ?_) (fun c3 => ?_)
  · have hf := (if_pos c3).symm.trans hf
    refine lv_iconst (v := Int32.ofInt (-1)) C.1 C.2.1 dX9_best_24 rfl ?_
    have hf := som_e hf
    subst hf
    exact j_iret C hO dX9_best_25
  · have hf := (if_neg c3).symm.trans hf
    rw [jN_p (Int.not_lt.mp c3)] at hl
    refine lv_iload_n C.1 C.2.1 dX9_best_15 rfl (lv_at hl 4 rfl) ?_
    refine j_if_lt (tgt := 24) C rfl dX9_best_16 (by decide) (fun c4 => ?_) (fun c4 => ?_)
    · have hf := (if_pos c4).symm.trans hf
      refine lv_iconst (v := Int32.ofInt (-1)) C.1 C.2.1 dX9_best_24 rfl ?_
      have hf := som_e hf
      subst hf
      exact j_iret C hO dX9_best_25
    · have hf := (if_neg c4).symm.trans hf
      refine lv_iload_n C.1 C.2.1 dX9_best_19 rfl (lv_at hl 4 rfl) ?_
      refine lv_iconst (v := Int32.ofInt 4) C.1 C.2.1 dX9_best_20 rfl ?_
      refine j_icmp_lt (tgt := 26) C rfl (w32_id (by decide) (by decide)) dX9_best_21 (by decide) (fun c5 => ?_) (fun c5 => ?_)
      · have hf := (if_pos c5).symm.trans hf
        refine lv_iload_n C.1 C.2.1 dX9_best_26 rfl (lv_at hl 3 rfl) ?_
        refine lv_iconst (v := Int32.ofInt 1) C.1 C.2.1 dX9_best_27 rfl ?_
        refine j_icmp_lt (tgt := 36) C rfl (w32_id (by decide) (by decide)) dX9_best_28 (by decide) (fun c6 => ?_) (fun c6 => ?_)
        · have hf := (if_pos c6).symm.trans hf
          refine lv_bipush (v := Int32.ofInt (-2)) C.1 C.2.1 dX9_best_36 (by decide) ?_
          have hf := som_e hf
          subst hf
          exact j_iret C hO dX9_best_38
        · have hf := (if_neg c6).symm.trans hf
          refine lv_iload_n C.1 C.2.1 dX9_best_31 rfl (lv_at hl 3 rfl) ?_
          refine lv_iconst (v := Int32.ofInt 4) C.1 C.2.1 dX9_best_32 rfl ?_
          refine j_icmp_le (tgt := 39) C rfl (w32_id (by decide) (by decide)) dX9_best_33 (by decide) (fun c7 => ?_) (fun c7 => ?_)
          · have hf := (if_pos c7).symm.trans hf
            refine lv_aload_n C.1 C.2.1 dX9_best_39 rfl (lv_at hl 1 rfl) ?_
            obtain ⟨r8, hr8, hf⟩ := bnd_e hf
            refine j_callV C hO (n := 0) (As := []) (st1 := []) (c_X9_weigh l G M l0 h0 hr8) h0 rfl kC_15_12 kM_15_9 kI_15_10 kS_15_11 kN_1_2 ⟨by decide, by decide, by decide⟩ ⟨Nat.le_trans (by decide) hRf, Nat.le_trans (by decide) hRl⟩ rfl rfl rfl hl.1 rfl (Nat.le_of_ble_eq_true rfl) ⟨Nat.zero_le _, Nat.zero_le _⟩ dX9_best_40 rfl (fun H locs hO => ?_)
            refine lv_aload_n C.1 C.2.1 dX9_best_43 rfl (lv_at hl 1 rfl) ?_
            refine j_get C hO (ci := 9) (k := 5) (v := jR G (jpt l0 5)) h0 rfl inlX9 (by decide) kF_2_5 rfl rfl dX9_best_44 ?_
            refine lv_aload C.1 C.2.1 dX9_best_47 (lv_at hl 0 rfl) ?_
            obtain ⟨r9, hr9, hf⟩ := bnd_e hf
            refine j_callV C hO (n := 1) (As := [jR G r1]) (st1 := [vI r9]) (c_X6_isLawful l G r8 (jpt l0 5) r1 (tp_9_5 h0) (g2.resolve_left c3) hr9) (tp_9_5 h0) rfl kC_21_11 kM_21_8 kI_21_9 kS_21_10 kN_2_4 ⟨by decide, by decide, by decide⟩ ⟨Nat.le_trans (by decide) hRf, Nat.le_trans (by decide) hRl⟩ rfl rfl rfl hl.1 rfl (Nat.le_of_ble_eq_true rfl) ⟨Nat.zero_le _, Nat.zero_le _⟩ dX9_best_49 rfl (fun H locs hO => ?_)
            refine j_if_ne (tgt := 58) C rfl dX9_best_52 (by decide) (fun c10 => ?_) (fun c10 => ?_)
            · have hf := (if_neg c10).symm.trans hf
              refine lv_aload_n C.1 C.2.1 dX9_best_58 rfl (lv_at hl 1 rfl) ?_
              refine j_get C hO (ci := 9) (k := 7) (v := jR G (jpt l0 7)) h0 rfl inlX9 (by decide) kF_2_13 rfl rfl dX9_best_59 ?_
              refine lv_aload_n C.1 C.2.1 dX9_best_62 rfl (lv_at hl 1 rfl) ?_
              refine j_get C hO (ci := 9) (k := 5) (v := jR G (jpt l0 5)) h0 rfl inlX9 (by decide) kF_2_5 rfl rfl dX9_best_63 ?_
              refine lv_aload_n C.1 C.2.1 dX9_best_66 rfl (lv_at hl 1 rfl) ?_
              refine j_get C hO (ci := 9) (k := 6) (v := jR G (jpt l0 6)) h0 rfl inlX9 (by decide) kF_2_9 rfl rfl dX9_best_67 ?_
              refine lv_aload C.1 C.2.1 dX9_best_70 (lv_at hl 0 rfl) ?_
              refine lv_iload_n C.1 C.2.1 dX9_best_72 rfl (lv_at hl 3 rfl) ?_
              obtain ⟨r11, hr11, hf⟩ := bnd_e hf
              refine j_callV C hO (n := 4) (As := [jR G (jpt l0 5), jR G (jpt l0 6), jR G r1, vI l2]) (st1 := [vI r11.1]) (c_X1_findBest l G r8 (jpt l0 7) (jpt l0 5) (jpt l0 6) r1 l2 (tp_9_7 h0) (tp_9_5 h0) (tp_9_6 h0) (g2.resolve_left c3) hr11) (tp_9_7 h0) rfl kC_28_7 kM_28_4 kI_28_5 kS_28_6 kN_2_12 ⟨by decide, by decide, by decide⟩ ⟨Nat.le_trans (by decide) hRf, Nat.le_trans (by decide) hRl⟩ rfl rfl rfl hl.1 rfl (Nat.le_of_ble_eq_true rfl) ⟨Nat.zero_le _, Nat.zero_le _⟩ dX9_best_73 rfl (fun H locs hO => ?_)
              refine j_if_eq (tgt := 93) C rfl dX9_best_76 (by decide) (fun c12 => ?_) (fun c12 => ?_)
              · have hf := (if_pos c12).symm.trans hf
                refine lv_iconst (v := Int32.ofInt (-1)) C.1 C.2.1 dX9_best_93 rfl ?_
                have hf := som_e hf
                subst hf
                exact j_iret C hO dX9_best_94
              · have hf := (if_neg c12).symm.trans hf
                refine lv_aload_n C.1 C.2.1 dX9_best_79 rfl (lv_at hl 1 rfl) ?_
                refine j_get C hO (ci := 9) (k := 7) (v := jR G (jpt l0 7)) h0 rfl inlX9 (by decide) kF_2_13 rfl rfl dX9_best_80 ?_
                refine j_get C hO (ci := 1) (k := 0) (v := jR G (jpt (jpt l0 7) 0)) (tp_9_7 h0) rfl inlX1 (by decide) kF_28_3 rfl rfl dX9_best_83 ?_
                refine lv_iload_n C.1 C.2.1 dX9_best_86 rfl (lv_at hl 4 rfl) ?_
                obtain ⟨r13, hr13, hf⟩ := bnd_e hf
                refine j_callV C hO (n := 1) (As := [vI l3]) (st1 := [vI r13]) (c_X3_signAt l G r11.2 (jpt (jpt l0 7) 0) l3 (tp_1_0 (tp_9_7 h0)) hr13) (tp_1_0 (tp_9_7 h0)) rfl kC_19_6 kM_19_3 kI_19_4 kS_19_5 kN_3_8 ⟨by decide, by decide, by decide⟩ ⟨Nat.le_trans (by decide) hRf, Nat.le_trans (by decide) hRl⟩ rfl rfl rfl hl.1 rfl (Nat.le_of_ble_eq_true rfl) ⟨Nat.zero_le _, Nat.zero_le _⟩ dX9_best_87 rfl (fun H locs hO => ?_)
                refine lv_goto (tgt := 94) C.1 C.2.1 dX9_best_90 (by decide) ?_
                have hf := som_e hf
                subst hf
                exact j_iret C hO dX9_best_94
            · have hf := (if_pos c10).symm.trans hf
              refine lv_bipush (v := Int32.ofInt (-3)) C.1 C.2.1 dX9_best_55 (by decide) ?_
              have hf := som_e hf
              subst hf
              exact j_iret C hO dX9_best_57
          · have hf := (if_neg c7).symm.trans hf
            refine lv_bipush (v := Int32.ofInt (-2)) C.1 C.2.1 dX9_best_36 (by decide) ?_
            have hf := som_e hf
            subst hf
            exact j_iret C hO dX9_best_38
      · have hf := (if_neg c5).symm.trans hf
        refine lv_iconst (v := Int32.ofInt (-1)) C.1 C.2.1 dX9_best_24 rfl ?_
        have hf := som_e hf
        subst hf
        exact j_iret C hO dX9_best_25
set_option maxHeartbeats 1000000 in
theorem c_X9_best (l : Launch) (G : jG)  (M : jM) (l0 l1 l2 l3 : Int) (h0 : jkd l0 = (9, 0)) {fin : Int × jM} (h : f_X9_best M l0 l1 l2 l3 = some fin) : Met l yX9_best (Cond.code yX9_best cX9_best 5 (some .int) :: wsL_law) ({ frames := 5, cells := 0, slots := 0, locals := 112 } : Room) (va_Pc [jR G l0, vI l1, vI l2, vI l3] (fun U => jRep G M U)) (jQ G (some (vI fin.1)) fin.2) 0 0 (jA G) := by
  refine Met.ofW (cc := cX9_best) (maxL := 5) (ret := (some .int)) (by decide) rfl ?_
  intro p e s m args below meth c s₁ B hml hv
  obtain ⟨rfl, hR0⟩ := hv
  have C : jCx p s m ([jR G l0, vI l1, vI l2, vI l3] : List Value).toArray meth c cX9_best 5 RX9 (Cond.code yX9_best cX9_best 5 (some .int)) (some .int) := ⟨B.exec, B.bytes, hml, findClass_of_methodNamed B.named, atoms_spec B.pre, B.returns, B.notSynchronized⟩
  have hO := hR0.ok
  have hl := lv_entry ([jR G l0, vI l1, vI l2, vI l3]) (n := 5) (Nat.le_of_ble_eq_true rfl)
  rw [lg_entry_eq]
  generalize (lg_sl ([jR G l0, vI l1, vI l2, vI l3]) ++ List.replicate (5 - (lg_sl ([jR G l0, vI l1, vI l2, vI l3])).length) Slot.unset).toArray = ls at hl ⊢
  have hl : lv_has ls 5 [(0, jR G l0), (1, vI l1), (2, vI l2), (3, vI l3)] := hl
  exact w_X9_best C (Nat.le_refl _) (Nat.le_refl _) M l0 l1 l2 l3 h0 h hO hl
set_option maxHeartbeats 4000000 in
theorem w_X9_beats {p : Program} {l : Launch} {e : Env} {R : Room} {s : State} {m : MethodId} {args : Array Value} {below : List Frame} {meth : Method} {c : Code} {H : Heap} {locs : List Loc} {ls : Array Slot} {G : jG}  (C : jCx p s m args meth c cX9_beats 3 RX9 (Cond.code yX9_beats cX9_beats 3 (some .boolean)) (some .boolean)) (hRf : 4 ≤ R.frames) (hRl : 86 ≤ R.locals)  (M : jM) (l0 l1 l2 : Int) (h0 : jkd l0 = (9, 0)) (h1 : jkd l1 = (3, 0)) (h2 : jkd l2 = (3, 0)) {fin : Int × jM} (hf : f_X9_beats M l0 l1 l2 = some fin) (hO : jOk G M s H locs) (hl : lv_has ls 3 [(0, jR G l0), (1, jR G l1), (2, jR G l2)]) : W p l e R s m args below meth c H locs 0 0 (MQ below (jQ G (some (vI fin.1)) fin.2) args s 0 0 (jA G)) (F0 m 0 ls []) := by
  unfold f_X9_beats at hf
  refine lv_aload_n C.1 C.2.1 dX9_beats_0 rfl (lv_at hl 1 rfl) ?_
  refine lv_aload_n C.1 C.2.1 dX9_beats_1 rfl (lv_at hl 2 rfl) ?_
  obtain ⟨r1, hr1, hf⟩ := bnd_e hf
  refine j_callV C hO (n := 1) (As := [jR G l2]) (st1 := [vI r1]) (c_X3_isApart l G M l1 l2 h1 h2 hr1) h1 rfl kC_24_15 kM_24_12 kI_24_13 kS_24_14 kN_3_8 ⟨by decide, by decide, by decide⟩ ⟨Nat.le_trans (by decide) hRf, Nat.le_trans (by decide) hRl⟩ rfl rfl rfl hl.1 rfl (Nat.le_of_ble_eq_true rfl) ⟨Nat.zero_le _, Nat.zero_le _⟩ dX9_beats_2 rfl (fun H locs hO => ?_)
  refine j_if_ne (tgt := 10) C rfl dX9_beats_5 (by decide) (fun c2 => ?_) (fun c2 => ?_)
  · have hf := (if_neg c2).symm.trans hf
    refine lv_aload_n C.1 C.2.1 dX9_beats_10 rfl (lv_at hl 0 rfl) ?_
    refine j_get C hO (ci := 9) (k := 6) (v := jR G (jpt l0 6)) h0 rfl inlX9 (by decide) kF_2_9 rfl rfl dX9_beats_11 ?_
    refine lv_aload_n C.1 C.2.1 dX9_beats_14 rfl (lv_at hl 0 rfl) ?_
    refine j_get C hO (ci := 9) (k := 5) (v := jR G (jpt l0 5)) h0 rfl inlX9 (by decide) kF_2_5 rfl rfl dX9_beats_15 ?_
    refine lv_aload_n C.1 C.2.1 dX9_beats_18 rfl (lv_at hl 1 rfl) ?_
    refine lv_aload_n C.1 C.2.1 dX9_beats_19 rfl (lv_at hl 2 rfl) ?_
    obtain ⟨r3, hr3, hf⟩ := bnd_e hf
    refine j_callV C hO (n := 3) (As := [jR G (jpt l0 5), jR G l1, jR G l2]) (st1 := []) (c_X2_measure l G M (jpt l0 6) (jpt l0 5) l1 l2 (tp_9_6 h0) (tp_9_5 h0) h1 h2 hr3) (tp_9_6 h0) rfl kC_25_4 kM_25_1 kI_25_2 kS_25_3 kN_2_8 ⟨by decide, by decide, by decide⟩ ⟨Nat.le_trans (by decide) hRf, Nat.le_trans (by decide) hRl⟩ rfl rfl rfl hl.1 rfl (Nat.le_of_ble_eq_true rfl) ⟨Nat.zero_le _, Nat.zero_le _⟩ dX9_beats_20 rfl (fun H locs hO => ?_)
    refine lv_aload_n C.1 C.2.1 dX9_beats_23 rfl (lv_at hl 0 rfl) ?_
    refine j_get C hO (ci := 9) (k := 6) (v := jR G (jpt l0 6)) h0 rfl inlX9 (by decide) kF_2_9 rfl rfl dX9_beats_24 ?_
    refine j_get C hO (ci := 2) (k := 0) (v := vL (r3 (jpt l0 6) 0)) (tp_9_6 h0) rfl inlX2 (by decide) kF_24_6 rfl rfl dX9_beats_27 ?_
    refine lv_aload_n C.1 C.2.1 dX9_beats_30 rfl (lv_at hl 0 rfl) ?_
    refine j_get C hO (ci := 9) (k := 6) (v := jR G (jpt l0 6)) h0 rfl inlX9 (by decide) kF_2_9 rfl rfl dX9_beats_31 ?_
    refine j_get C hO (ci := 2) (k := 1) (v := vL (r3 (jpt l0 6) 1)) (tp_9_6 h0) rfl inlX2 (by decide) kF_30_20 rfl rfl dX9_beats_34 ?_
    refine j_lcmp_le (tgt := 45) C rfl rfl dX9_beats_37 dX9_beats_38 (by decide) (fun c4 => ?_) (fun c4 => ?_)
    · have hf := (if_pos c4).symm.trans hf
      refine lv_iconst (v := Int32.ofInt 0) C.1 C.2.1 dX9_beats_45 rfl ?_
      have hf := som_e hf
      subst hf
      exact j_zret C hO (Or.inl rfl) dX9_beats_46
    · have hf := (if_neg c4).symm.trans hf
      refine lv_iconst (v := Int32.ofInt 1) C.1 C.2.1 dX9_beats_41 rfl ?_
      refine lv_goto (tgt := 46) C.1 C.2.1 dX9_beats_42 (by decide) ?_
      have hf := som_e hf
      subst hf
      exact j_zret C hO (Or.inr rfl) dX9_beats_46
  · have hf := (if_pos c2).symm.trans hf
    refine lv_iconst (v := Int32.ofInt 0) C.1 C.2.1 dX9_beats_8 rfl ?_
    have hf := som_e hf
    subst hf
    exact j_zret C hO (Or.inl rfl) dX9_beats_9
set_option maxHeartbeats 1000000 in
theorem c_X9_beats (l : Launch) (G : jG)  (M : jM) (l0 l1 l2 : Int) (h0 : jkd l0 = (9, 0)) (h1 : jkd l1 = (3, 0)) (h2 : jkd l2 = (3, 0)) {fin : Int × jM} (h : f_X9_beats M l0 l1 l2 = some fin) : Met l yX9_beats (Cond.code yX9_beats cX9_beats 3 (some .boolean) :: wsL_law) ({ frames := 4, cells := 0, slots := 0, locals := 86 } : Room) (va_Pc [jR G l0, jR G l1, jR G l2] (fun U => jRep G M U)) (jQ G (some (vI fin.1)) fin.2) 0 0 (jA G) := by
  refine Met.ofW (cc := cX9_beats) (maxL := 3) (ret := (some .boolean)) (by decide) rfl ?_
  intro p e s m args below meth c s₁ B hml hv
  obtain ⟨rfl, hR0⟩ := hv
  have C : jCx p s m ([jR G l0, jR G l1, jR G l2] : List Value).toArray meth c cX9_beats 3 RX9 (Cond.code yX9_beats cX9_beats 3 (some .boolean)) (some .boolean) := ⟨B.exec, B.bytes, hml, findClass_of_methodNamed B.named, atoms_spec B.pre, B.returns, B.notSynchronized⟩
  have hO := hR0.ok
  have hl := lv_entry ([jR G l0, jR G l1, jR G l2]) (n := 3) (Nat.le_of_ble_eq_true rfl)
  rw [lg_entry_eq]
  generalize (lg_sl ([jR G l0, jR G l1, jR G l2]) ++ List.replicate (3 - (lg_sl ([jR G l0, jR G l1, jR G l2])).length) Slot.unset).toArray = ls at hl ⊢
  have hl : lv_has ls 3 [(0, jR G l0), (1, jR G l1), (2, jR G l2)] := hl
  exact w_X9_beats C (Nat.le_refl _) (Nat.le_refl _) M l0 l1 l2 h0 h1 h2 h hO hl
set_option maxHeartbeats 4000000 in
theorem w_X9_ring {p : Program} {l : Launch} {e : Env} {R : Room} {s : State} {m : MethodId} {args : Array Value} {below : List Frame} {meth : Method} {c : Code} {H : Heap} {locs : List Loc} {ls : Array Slot} {G : jG}  (C : jCx p s m args meth c cX9_ring 7 RX9 (Cond.code yX9_ring cX9_ring 7 (some .int)) (some .int)) (hRf : 5 ≤ R.frames) (hRl : 108 ≤ R.locals)  (M : jM) (l0 l1 l2 l3 : Int) (h0 : jkd l0 = (9, 0)) {fin : Int × jM} (hf : f_X9_ring M l0 l1 l2 l3 = some fin) (hO : jOk G M s H locs) (hl : lv_has ls 7 [(0, jR G l0), (1, vI l1), (2, vI l2), (3, vI l3)]) : W p l e R s m args below meth c H locs 0 0 (MQ below (jQ G (some (vI fin.1)) fin.2) args s 0 0 (jA G)) (F0 m 0 ls []) := by
  unfold f_X9_ring at hf
  refine lv_aload_n C.1 C.2.1 dX9_ring_0 rfl (lv_at hl 0 rfl) ?_
  refine j_get C hO (ci := 9) (k := 0) (v := jR G (jpt l0 0)) h0 rfl inlX9 (by decide) kF_1_15 rfl rfl dX9_ring_1 ?_
  refine lv_iload_n C.1 C.2.1 dX9_ring_4 rfl (lv_at hl 1 rfl) ?_
  obtain ⟨r1, hr1, hf⟩ := bnd_e hf
  obtain ⟨g2, hf⟩ := grd_e hf
  refine j_callV C hO (n := 1) (As := [vI l1]) (st1 := [jN G r1]) (c_X8_rowAt l G M (jpt l0 0) l1 (tp_9_0 h0) hr1) (tp_9_0 h0) rfl kC_18_22 kM_18_19 kI_18_20 kS_18_21 kN_1_14 ⟨by decide, by decide, by decide⟩ ⟨Nat.le_trans (by decide) hRf, Nat.le_trans (by decide) hRl⟩ rfl rfl rfl hl.1 rfl (Nat.le_of_ble_eq_true rfl) ⟨Nat.zero_le _, Nat.zero_le _⟩ dX9_ring_5 rfl (fun H locs hO => ?_)
  refine j_astoreN (i := 4) (lv' := [(0, jR G l0), (1, vI l1), (2, vI l2), (3, vI l3)]) C dX9_ring_8 hl (by decide) (fun _ _ => rfl) (fun ls hl => ?_)
  refine lv_aload_n C.1 C.2.1 dX9_ring_10 rfl (lv_at hl 1 rfl) ?_
  refine j_get C hO (ci := 9) (k := 0) (v := jR G (jpt l0 0)) h0 rfl inlX9 (by decide) kF_1_15 rfl rfl dX9_ring_11 ?_
  refine lv_iload_n C.1 C.2.1 dX9_ring_14 rfl (lv_at hl 3 rfl) ?_
  obtain ⟨r3, hr3, hf⟩ := bnd_e hf
  obtain ⟨g4, hf⟩ := grd_e hf
  refine j_callV C hO (n := 1) (As := [vI l2]) (st1 := [jN G r3]) (c_X8_rowAt l G M (jpt l0 0) l2 (tp_9_0 h0) hr3) (tp_9_0 h0) rfl kC_18_22 kM_18_19 kI_18_20 kS_18_21 kN_1_14 ⟨by decide, by decide, by decide⟩ ⟨Nat.le_trans (by decide) hRf, Nat.le_trans (by decide) hRl⟩ rfl rfl rfl hl.1 rfl (Nat.le_of_ble_eq_true rfl) ⟨Nat.zero_le _, Nat.zero_le _⟩ dX9_ring_15 rfl (fun H locs hO => ?_)
  refine j_astoreN (i := 5) (lv' := [(4, jN G r1), (0, jR G l0), (1, vI l1), (2, vI l2), (3, vI l3)]) C dX9_ring_18 hl (by decide) (fun _ _ => by simp [List.filter, jN_cat]) (fun ls hl => ?_)
  refine lv_aload_n C.1 C.2.1 dX9_ring_20 rfl (lv_at hl 2 rfl) ?_
  refine j_get C hO (ci := 9) (k := 0) (v := jR G (jpt l0 0)) h0 rfl inlX9 (by decide) kF_1_15 rfl rfl dX9_ring_21 ?_
  refine lv_iload_n C.1 C.2.1 dX9_ring_24 rfl (lv_at hl 5 rfl) ?_
  obtain ⟨r5, hr5, hf⟩ := bnd_e hf
  obtain ⟨g6, hf⟩ := grd_e hf
  refine j_callV C hO (n := 1) (As := [vI l3]) (st1 := [jN G r5]) (c_X8_rowAt l G M (jpt l0 0) l3 (tp_9_0 h0) hr5) (tp_9_0 h0) rfl kC_18_22 kM_18_19 kI_18_20 kS_18_21 kN_1_14 ⟨by decide, by decide, by decide⟩ ⟨Nat.le_trans (by decide) hRf, Nat.le_trans (by decide) hRl⟩ rfl rfl rfl hl.1 rfl (Nat.le_of_ble_eq_true rfl) ⟨Nat.zero_le _, Nat.zero_le _⟩ dX9_ring_25 rfl (fun H locs hO => ?_)
  refine j_astoreN (i := 6) (lv' := [(5, jN G r3), (4, jN G r1), (0, jR G l0), (1, vI l1), (2, vI l2), (3, vI l3)]) C dX9_ring_28 hl (by decide) (fun _ _ => by simp [List.filter, jN_cat]) (fun ls hl => ?_)
  refine j_aloadN C dX9_ring_30 (lv_at hl 2 rfl) ?_
  refine j_ifnull (tgt := 45) C dX9_ring_32 (by decide) (fun c7 => ?_) (fun c7 => ?_)
  · have hf := (if_pos c7).symm.trans hf
    refine lv_iconst (v := Int32.ofInt (-1)) C.1 C.2.1 dX9_ring_45 rfl ?_
    have hf := som_e hf
    subst hf
    exact j_iret C hO dX9_ring_46
  · have hf := (if_neg c7).symm.trans hf
    rw [jN_p (Int.not_lt.mp c7)] at hl
    refine j_aloadN C dX9_ring_35 (lv_at hl 1 rfl) ?_
    refine j_ifnull (tgt := 45) C dX9_ring_37 (by decide) (fun c8 => ?_) (fun c8 => ?_)
    · have hf := (if_pos c8).symm.trans hf
      refine lv_iconst (v := Int32.ofInt (-1)) C.1 C.2.1 dX9_ring_45 rfl ?_
      have hf := som_e hf
      subst hf
      exact j_iret C hO dX9_ring_46
    · have hf := (if_neg c8).symm.trans hf
      rw [jN_p (Int.not_lt.mp c8)] at hl
      refine j_aloadN C dX9_ring_40 (lv_at hl 0 rfl) ?_
      refine j_ifnonnull (tgt := 47) C dX9_ring_42 (by decide) (fun c9 => ?_) (fun c9 => ?_)
      · have hf := (if_neg c9).symm.trans hf
        rw [jN_p (Int.not_lt.mp c9)] at hl
        refine lv_aload_n C.1 C.2.1 dX9_ring_47 rfl (lv_at hl 3 rfl) ?_
        obtain ⟨r10, hr10, hf⟩ := bnd_e hf
        refine j_callV C hO (n := 0) (As := []) (st1 := []) (c_X9_weigh l G M l0 h0 hr10) h0 rfl kC_15_12 kM_15_9 kI_15_10 kS_15_11 kN_1_2 ⟨by decide, by decide, by decide⟩ ⟨Nat.le_trans (by decide) hRf, Nat.le_trans (by decide) hRl⟩ rfl rfl rfl hl.1 rfl (Nat.le_of_ble_eq_true rfl) ⟨Nat.zero_le _, Nat.zero_le _⟩ dX9_ring_48 rfl (fun H locs hO => ?_)
        refine lv_aload_n C.1 C.2.1 dX9_ring_51 rfl (lv_at hl 3 rfl) ?_
        refine j_get C hO (ci := 9) (k := 5) (v := jR G (jpt l0 5)) h0 rfl inlX9 (by decide) kF_2_5 rfl rfl dX9_ring_52 ?_
        refine lv_aload C.1 C.2.1 dX9_ring_55 (lv_at hl 2 rfl) ?_
        obtain ⟨r11, hr11, hf⟩ := bnd_e hf
        refine j_callV C hO (n := 1) (As := [jR G r1]) (st1 := [vI r11]) (c_X6_isLawful l G r10 (jpt l0 5) r1 (tp_9_5 h0) (g2.resolve_left c7) hr11) (tp_9_5 h0) rfl kC_21_11 kM_21_8 kI_21_9 kS_21_10 kN_2_4 ⟨by decide, by decide, by decide⟩ ⟨Nat.le_trans (by decide) hRf, Nat.le_trans (by decide) hRl⟩ rfl rfl rfl hl.1 rfl (Nat.le_of_ble_eq_true rfl) ⟨Nat.zero_le _, Nat.zero_le _⟩ dX9_ring_57 rfl (fun H locs hO => ?_)
        refine j_if_eq (tgt := 87) C rfl dX9_ring_60 (by decide) (fun c12 => ?_) (fun c12 => ?_)
        · have hf := (if_pos c12).symm.trans hf
          refine lv_bipush (v := Int32.ofInt (-3)) C.1 C.2.1 dX9_ring_87 (by decide) ?_
          have hf := som_e hf
          subst hf
          exact j_iret C hO dX9_ring_89
        · have hf := (if_neg c12).symm.trans hf
          refine lv_aload_n C.1 C.2.1 dX9_ring_63 rfl (lv_at hl 3 rfl) ?_
          refine j_get C hO (ci := 9) (k := 5) (v := jR G (jpt l0 5)) h0 rfl inlX9 (by decide) kF_2_5 rfl rfl dX9_ring_64 ?_
          refine lv_aload C.1 C.2.1 dX9_ring_67 (lv_at hl 1 rfl) ?_
          obtain ⟨r13, hr13, hf⟩ := bnd_e hf
          refine j_callV C hO (n := 1) (As := [jR G r3]) (st1 := [vI r13]) (c_X6_isLawful l G r10 (jpt l0 5) r3 (tp_9_5 h0) (g4.resolve_left c8) hr13) (tp_9_5 h0) rfl kC_21_11 kM_21_8 kI_21_9 kS_21_10 kN_2_4 ⟨by decide, by decide, by decide⟩ ⟨Nat.le_trans (by decide) hRf, Nat.le_trans (by decide) hRl⟩ rfl rfl rfl hl.1 rfl (Nat.le_of_ble_eq_true rfl) ⟨Nat.zero_le _, Nat.zero_le _⟩ dX9_ring_69 rfl (fun H locs hO => ?_)
          refine j_if_eq (tgt := 87) C rfl dX9_ring_72 (by decide) (fun c14 => ?_) (fun c14 => ?_)
          · have hf := (if_pos c14).symm.trans hf
            refine lv_bipush (v := Int32.ofInt (-3)) C.1 C.2.1 dX9_ring_87 (by decide) ?_
            have hf := som_e hf
            subst hf
            exact j_iret C hO dX9_ring_89
          · have hf := (if_neg c14).symm.trans hf
            refine lv_aload_n C.1 C.2.1 dX9_ring_75 rfl (lv_at hl 3 rfl) ?_
            refine j_get C hO (ci := 9) (k := 5) (v := jR G (jpt l0 5)) h0 rfl inlX9 (by decide) kF_2_5 rfl rfl dX9_ring_76 ?_
            refine lv_aload C.1 C.2.1 dX9_ring_79 (lv_at hl 0 rfl) ?_
            obtain ⟨r15, hr15, hf⟩ := bnd_e hf
            refine j_callV C hO (n := 1) (As := [jR G r5]) (st1 := [vI r15]) (c_X6_isLawful l G r10 (jpt l0 5) r5 (tp_9_5 h0) (g6.resolve_left c9) hr15) (tp_9_5 h0) rfl kC_21_11 kM_21_8 kI_21_9 kS_21_10 kN_2_4 ⟨by decide, by decide, by decide⟩ ⟨Nat.le_trans (by decide) hRf, Nat.le_trans (by decide) hRl⟩ rfl rfl rfl hl.1 rfl (Nat.le_of_ble_eq_true rfl) ⟨Nat.zero_le _, Nat.zero_le _⟩ dX9_ring_81 rfl (fun H locs hO => ?_)
            refine j_if_ne (tgt := 90) C rfl dX9_ring_84 (by decide) (fun c16 => ?_) (fun c16 => ?_)
            · have hf := (if_neg c16).symm.trans hf
              refine lv_aload_n C.1 C.2.1 dX9_ring_90 rfl (lv_at hl 3 rfl) ?_
              refine lv_aload C.1 C.2.1 dX9_ring_91 (lv_at hl 2 rfl) ?_
              refine lv_aload C.1 C.2.1 dX9_ring_93 (lv_at hl 1 rfl) ?_
              obtain ⟨r17, hr17, hf⟩ := bnd_e hf
              refine j_callV C hO (n := 2) (As := [jR G r1, jR G r3]) (st1 := [vI r17.1]) (c_X9_beats l G r10 l0 r1 r3 h0 (g2.resolve_left c7) (g4.resolve_left c8) hr17) h0 rfl kC_30_19 kM_30_16 kI_30_17 kS_30_18 kN_1_2 ⟨by decide, by decide, by decide⟩ ⟨Nat.le_trans (by decide) hRf, Nat.le_trans (by decide) hRl⟩ rfl rfl rfl hl.1 rfl (Nat.le_of_ble_eq_true rfl) ⟨Nat.zero_le _, Nat.zero_le _⟩ dX9_ring_95 rfl (fun H locs hO => ?_)
              refine j_if_eq (tgt := 127) C rfl dX9_ring_98 (by decide) (fun c18 => ?_) (fun c18 => ?_)
              · have hf := (if_pos c18).symm.trans hf
                refine lv_iconst (v := Int32.ofInt 0) C.1 C.2.1 dX9_ring_127 rfl ?_
                have hf := som_e hf
                subst hf
                exact j_iret C hO dX9_ring_128
              · have hf := (if_neg c18).symm.trans hf
                refine lv_aload_n C.1 C.2.1 dX9_ring_101 rfl (lv_at hl 3 rfl) ?_
                refine lv_aload C.1 C.2.1 dX9_ring_102 (lv_at hl 1 rfl) ?_
                refine lv_aload C.1 C.2.1 dX9_ring_104 (lv_at hl 0 rfl) ?_
                obtain ⟨r19, hr19, hf⟩ := bnd_e hf
                refine j_callV C hO (n := 2) (As := [jR G r3, jR G r5]) (st1 := [vI r19.1]) (c_X9_beats l G r17.2 l0 r3 r5 h0 (g4.resolve_left c8) (g6.resolve_left c9) hr19) h0 rfl kC_30_19 kM_30_16 kI_30_17 kS_30_18 kN_1_2 ⟨by decide, by decide, by decide⟩ ⟨Nat.le_trans (by decide) hRf, Nat.le_trans (by decide) hRl⟩ rfl rfl rfl hl.1 rfl (Nat.le_of_ble_eq_true rfl) ⟨Nat.zero_le _, Nat.zero_le _⟩ dX9_ring_106 rfl (fun H locs hO => ?_)
                refine j_if_eq (tgt := 127) C rfl dX9_ring_109 (by decide) (fun c20 => ?_) (fun c20 => ?_)
                · have hf := (if_pos c20).symm.trans hf
                  refine lv_iconst (v := Int32.ofInt 0) C.1 C.2.1 dX9_ring_127 rfl ?_
                  have hf := som_e hf
                  subst hf
                  exact j_iret C hO dX9_ring_128
                · have hf := (if_neg c20).symm.trans hf
                  refine lv_aload_n C.1 C.2.1 dX9_ring_112 rfl (lv_at hl 3 rfl) ?_
                  refine lv_aload C.1 C.2.1 dX9_ring_113 (lv_at hl 0 rfl) ?_
                  refine lv_aload C.1 C.2.1 dX9_ring_115 (lv_at hl 2 rfl) ?_
                  obtain ⟨r21, hr21, hf⟩ := bnd_e hf
                  refine j_callV C hO (n := 2) (As := [jR G r5, jR G r1]) (st1 := [vI r21.1]) (c_X9_beats l G r19.2 l0 r5 r1 h0 (g6.resolve_left c9) (g2.resolve_left c7) hr21) h0 rfl kC_30_19 kM_30_16 kI_30_17 kS_30_18 kN_1_2 ⟨by decide, by decide, by decide⟩ ⟨Nat.le_trans (by decide) hRf, Nat.le_trans (by decide) hRl⟩ rfl rfl rfl hl.1 rfl (Nat.le_of_ble_eq_true rfl) ⟨Nat.zero_le _, Nat.zero_le _⟩ dX9_ring_117 rfl (fun H locs hO => ?_)
                  refine j_if_eq (tgt := 127) C rfl dX9_ring_120 (by decide) (fun c22 => ?_) (fun c22 => ?_)
                  · have hf := (if_pos c22).symm.trans hf
                    refine lv_iconst (v := Int32.ofInt 0) C.1 C.2.1 dX9_ring_127 rfl ?_
                    have hf := som_e hf
                    subst hf
                    exact j_iret C hO dX9_ring_128
                  · have hf := (if_neg c22).symm.trans hf
                    refine lv_iconst (v := Int32.ofInt 1) C.1 C.2.1 dX9_ring_123 rfl ?_
                    refine lv_goto (tgt := 128) C.1 C.2.1 dX9_ring_124 (by decide) ?_
                    have hf := som_e hf
                    subst hf
                    exact j_iret C hO dX9_ring_128
            · have hf := (if_pos c16).symm.trans hf
              refine lv_bipush (v := Int32.ofInt (-3)) C.1 C.2.1 dX9_ring_87 (by decide) ?_
              have hf := som_e hf
              subst hf
              exact j_iret C hO dX9_ring_89
      · have hf := (if_pos c9).symm.trans hf
        refine lv_iconst (v := Int32.ofInt (-1)) C.1 C.2.1 dX9_ring_45 rfl ?_
        have hf := som_e hf
        subst hf
        exact j_iret C hO dX9_ring_46
set_option maxHeartbeats 1000000 in
theorem c_X9_ring (l : Launch) (G : jG)  (M : jM) (l0 l1 l2 l3 : Int) (h0 : jkd l0 = (9, 0)) {fin : Int × jM} (h : f_X9_ring M l0 l1 l2 l3 = some fin) : Met l yX9_ring (Cond.code yX9_ring cX9_ring 7 (some .int) :: wsL_law) ({ frames := 5, cells := 0, slots := 0, locals := 108 } : Room) (va_Pc [jR G l0, vI l1, vI l2, vI l3] (fun U => jRep G M U)) (jQ G (some (vI fin.1)) fin.2) 0 0 (jA G) := by
  refine Met.ofW (cc := cX9_ring) (maxL := 7) (ret := (some .int)) (by decide) rfl ?_
  intro p e s m args below meth c s₁ B hml hv
  obtain ⟨rfl, hR0⟩ := hv
  have C : jCx p s m ([jR G l0, vI l1, vI l2, vI l3] : List Value).toArray meth c cX9_ring 7 RX9 (Cond.code yX9_ring cX9_ring 7 (some .int)) (some .int) := ⟨B.exec, B.bytes, hml, findClass_of_methodNamed B.named, atoms_spec B.pre, B.returns, B.notSynchronized⟩
  have hO := hR0.ok
  have hl := lv_entry ([jR G l0, vI l1, vI l2, vI l3]) (n := 7) (Nat.le_of_ble_eq_true rfl)
  rw [lg_entry_eq]
  generalize (lg_sl ([jR G l0, vI l1, vI l2, vI l3]) ++ List.replicate (7 - (lg_sl ([jR G l0, vI l1, vI l2, vI l3])).length) Slot.unset).toArray = ls at hl ⊢
  have hl : lv_has ls 7 [(0, jR G l0), (1, vI l1), (2, vI l2), (3, vI l3)] := hl
  exact w_X9_ring C (Nat.le_refl _) (Nat.le_refl _) M l0 l1 l2 l3 h0 h hO hl
set_option maxHeartbeats 4000000 in
theorem w_X9_pickedBy {p : Program} {l : Launch} {e : Env} {R : Room} {s : State} {m : MethodId} {args : Array Value} {below : List Frame} {meth : Method} {c : Code} {H : Heap} {locs : List Loc} {ls : Array Slot} {G : jG}  (C : jCx p s m args meth c cX9_pickedBy 4 RX9 (Cond.code yX9_pickedBy cX9_pickedBy 4 (some (.object "RowFirst$Line"))) (some (.object "RowFirst$Line"))) (hRf : 5 ≤ R.frames) (hRl : 118 ≤ R.locals)  (M : jM) (l0 l1 l2 : Int) (h0 : jkd l0 = (9, 0)) (h2 : jkd l2 = (3, 0)) {fin : Int × jM} (hf : f_X9_pickedBy M l0 l1 l2 = some fin) (hO : jOk G M s H locs) (hl : lv_has ls 4 [(0, jR G l0), (1, vI l1), (2, jR G l2)]) : W p l e R s m args below meth c H locs 0 0 (MQ below (jQ G (some (jN G fin.1)) fin.2) args s 0 0 (jA G)) (F0 m 0 ls []) := by
  unfold f_X9_pickedBy at hf
  refine lv_aload_n C.1 C.2.1 dX9_pickedBy_0 rfl (lv_at hl 0 rfl) ?_
  refine j_get C hO (ci := 9) (k := 0) (v := jR G (jpt l0 0)) h0 rfl inlX9 (by decide) kF_1_15 rfl rfl dX9_pickedBy_1 ?_
  refine j_get C hO (ci := 8) (k := 9) (v := jR G (jpt (jpt l0 0) 9)) (tp_9_0 h0) rfl inlX8 (by decide) kF_31_13 rfl rfl dX9_pickedBy_4 ?_
  refine lv_iload_n C.1 C.2.1 dX9_pickedBy_7 rfl (lv_at hl 1 rfl) ?_
  obtain ⟨g1, hf⟩ := grd_e hf
  refine j_iald C hO (tp_8_9 (tp_9_0 h0)) rfl g1.1 g1.2 dX9_pickedBy_8 ?_
  refine lv_iconst (v := Int32.ofInt 4) C.1 C.2.1 dX9_pickedBy_9 rfl ?_
  obtain ⟨g2, hf⟩ := grd_e hf
  refine j_irem C g2 dX9_pickedBy_10 ?_
  refine lv_iconst (v := Int32.ofInt 1) C.1 C.2.1 dX9_pickedBy_11 rfl ?_
  refine j_iadd C dX9_pickedBy_12 ?_
  refine lv_istore_n (lv' := [(3, vI (((w32 (M (jpt (jpt l0 0) 9) (w32 l1))).tmod (w32 4)) + 1)), (0, jR G l0), (1, vI l1), (2, jR G l2)]) C.1 C.2.1 dX9_pickedBy_13 rfl hl (by decide) rfl (fun ls hl => ?_)
  refine lv_aload_n C.1 C.2.1 dX9_pickedBy_14 rfl (lv_at hl 1 rfl) ?_
  refine j_get C hO (ci := 9) (k := 0) (v := jR G (jpt l0 0)) h0 rfl inlX9 (by decide) kF_1_15 rfl rfl dX9_pickedBy_15 ?_
  refine j_get C hO (ci := 8) (k := 8) (v := jR G (jpt (jpt l0 0) 8)) (tp_9_0 h0) rfl inlX8 (by decide) kF_20_9 rfl rfl dX9_pickedBy_18 ?_
  refine lv_iload_n C.1 C.2.1 dX9_pickedBy_21 rfl (lv_at hl 2 rfl) ?_
  obtain ⟨g3, hf⟩ := grd_e hf
  refine j_iald C hO (tp_8_8 (tp_9_0 h0)) rfl g3.1 g3.2 dX9_pickedBy_22 ?_
  by_cases c4 : w32 (M (jpt (jpt l0 0) 8) (w32 l1)) = 1
  · have hf := (if_pos c4).symm.trans hf
    refine j_tsw (tgt := 60) C c4 dX9_pickedBy_23 (by decide) (by decide) rfl (by decide) ?_
    refine lv_aload_n C.1 C.2.1 dX9_pickedBy_60 rfl (lv_at hl 1 rfl) ?_
    refine j_get C hO (ci := 9) (k := 7) (v := jR G (jpt l0 7)) h0 rfl inlX9 (by decide) kF_2_13 rfl rfl dX9_pickedBy_61 ?_
    refine lv_aload_n C.1 C.2.1 dX9_pickedBy_64 rfl (lv_at hl 1 rfl) ?_
    refine j_get C hO (ci := 9) (k := 5) (v := jR G (jpt l0 5)) h0 rfl inlX9 (by decide) kF_2_5 rfl rfl dX9_pickedBy_65 ?_
    refine lv_iload_n C.1 C.2.1 dX9_pickedBy_68 rfl (lv_at hl 0 rfl) ?_
    refine lv_iconst (v := Int32.ofInt 0) C.1 C.2.1 dX9_pickedBy_69 rfl ?_
    obtain ⟨r5, hr5, hf⟩ := bnd_e hf
    refine j_callV C hO (n := 3) (As := [jR G (jpt l0 5), vI (((w32 (M (jpt (jpt l0 0) 9) (w32 l1))).tmod (w32 4)) + 1), vI 0]) (st1 := []) (c_X1_findByWait l G M (jpt l0 7) (jpt l0 5) (((w32 (M (jpt (jpt l0 0) 9) (w32 l1))).tmod (w32 4)) + 1) 0 (tp_9_7 h0) (tp_9_5 h0) hr5) (tp_9_7 h0) rfl kC_31_17 kM_31_14 kI_31_15 kS_31_16 kN_2_12 ⟨by decide, by decide, by decide⟩ ⟨Nat.le_trans (by decide) hRf, Nat.le_trans (by decide) hRl⟩ rfl rfl rfl hl.1 rfl (Nat.le_of_ble_eq_true rfl) ⟨Nat.zero_le _, Nat.zero_le _⟩ dX9_pickedBy_70 rfl (fun H locs hO => ?_)
    refine lv_goto (tgt := 230) C.1 C.2.1 dX9_pickedBy_73 (by decide) ?_
    refine lv_aload_n C.1 C.2.1 dX9_pickedBy_230 rfl (lv_at hl 1 rfl) ?_
    refine j_get C hO (ci := 9) (k := 7) (v := jR G (jpt l0 7)) h0 rfl inlX9 (by decide) kF_2_13 rfl rfl dX9_pickedBy_231 ?_
    refine j_get C hO (ci := 1) (k := 0) (v := jR G (jpt (jpt l0 7) 0)) (tp_9_7 h0) rfl inlX1 (by decide) kF_28_3 rfl rfl dX9_pickedBy_234 ?_
    have hf := som_e hf
    subst hf
    exact j_aretR C hO (jkd_in (tp_1_0 (tp_9_7 h0)) (by decide)).1 dX9_pickedBy_237
  have hf := (if_neg c4).symm.trans hf
  by_cases c6 : w32 (M (jpt (jpt l0 0) 8) (w32 l1)) = 2
  · have hf := (if_pos c6).symm.trans hf
    refine j_tsw (tgt := 76) C c6 dX9_pickedBy_23 (by decide) (by decide) rfl (by decide) ?_
    refine lv_aload_n C.1 C.2.1 dX9_pickedBy_76 rfl (lv_at hl 1 rfl) ?_
    refine j_get C hO (ci := 9) (k := 7) (v := jR G (jpt l0 7)) h0 rfl inlX9 (by decide) kF_2_13 rfl rfl dX9_pickedBy_77 ?_
    refine lv_aload_n C.1 C.2.1 dX9_pickedBy_80 rfl (lv_at hl 1 rfl) ?_
    refine j_get C hO (ci := 9) (k := 5) (v := jR G (jpt l0 5)) h0 rfl inlX9 (by decide) kF_2_5 rfl rfl dX9_pickedBy_81 ?_
    refine lv_iload_n C.1 C.2.1 dX9_pickedBy_84 rfl (lv_at hl 0 rfl) ?_
    refine lv_iconst (v := Int32.ofInt 1) C.1 C.2.1 dX9_pickedBy_85 rfl ?_
    obtain ⟨r7, hr7, hf⟩ := bnd_e hf
    refine j_callV C hO (n := 3) (As := [jR G (jpt l0 5), vI (((w32 (M (jpt (jpt l0 0) 9) (w32 l1))).tmod (w32 4)) + 1), vI 1]) (st1 := []) (c_X1_findByWait l G M (jpt l0 7) (jpt l0 5) (((w32 (M (jpt (jpt l0 0) 9) (w32 l1))).tmod (w32 4)) + 1) 1 (tp_9_7 h0) (tp_9_5 h0) hr7) (tp_9_7 h0) rfl kC_31_17 kM_31_14 kI_31_15 kS_31_16 kN_2_12 ⟨by decide, by decide, by decide⟩ ⟨Nat.le_trans (by decide) hRf, Nat.le_trans (by decide) hRl⟩ rfl rfl rfl hl.1 rfl (Nat.le_of_ble_eq_true rfl) ⟨Nat.zero_le _, Nat.zero_le _⟩ dX9_pickedBy_86 rfl (fun H locs hO => ?_)
    refine lv_goto (tgt := 230) C.1 C.2.1 dX9_pickedBy_89 (by decide) ?_
    refine lv_aload_n C.1 C.2.1 dX9_pickedBy_230 rfl (lv_at hl 1 rfl) ?_
    refine j_get C hO (ci := 9) (k := 7) (v := jR G (jpt l0 7)) h0 rfl inlX9 (by decide) kF_2_13 rfl rfl dX9_pickedBy_231 ?_
    refine j_get C hO (ci := 1) (k := 0) (v := jR G (jpt (jpt l0 7) 0)) (tp_9_7 h0) rfl inlX1 (by decide) kF_28_3 rfl rfl dX9_pickedBy_234 ?_
    have hf := som_e hf
    subst hf
    exact j_aretR C hO (jkd_in (tp_1_0 (tp_9_7 h0)) (by decide)).1 dX9_pickedBy_237
  have hf := (if_neg c6).symm.trans hf
  by_cases c8 : w32 (M (jpt (jpt l0 0) 8) (w32 l1)) = 3
  · have hf := (if_pos c8).symm.trans hf
    refine j_tsw (tgt := 92) C c8 dX9_pickedBy_23 (by decide) (by decide) rfl (by decide) ?_
    refine lv_aload_n C.1 C.2.1 dX9_pickedBy_92 rfl (lv_at hl 1 rfl) ?_
    refine j_get C hO (ci := 9) (k := 7) (v := jR G (jpt l0 7)) h0 rfl inlX9 (by decide) kF_2_13 rfl rfl dX9_pickedBy_93 ?_
    refine lv_aload_n C.1 C.2.1 dX9_pickedBy_96 rfl (lv_at hl 1 rfl) ?_
    refine j_get C hO (ci := 9) (k := 5) (v := jR G (jpt l0 5)) h0 rfl inlX9 (by decide) kF_2_5 rfl rfl dX9_pickedBy_97 ?_
    refine lv_aload_n C.1 C.2.1 dX9_pickedBy_100 rfl (lv_at hl 3 rfl) ?_
    obtain ⟨r9, hr9, hf⟩ := bnd_e hf
    refine j_callV C hO (n := 2) (As := [jR G (jpt l0 5), jR G l2]) (st1 := []) (c_X1_findBeside l G M (jpt l0 7) (jpt l0 5) l2 (tp_9_7 h0) (tp_9_5 h0) h2 hr9) (tp_9_7 h0) rfl kC_32_3 kM_32_0 kI_32_1 kS_32_2 kN_2_12 ⟨by decide, by decide, by decide⟩ ⟨Nat.le_trans (by decide) hRf, Nat.le_trans (by decide) hRl⟩ rfl rfl rfl hl.1 rfl (Nat.le_of_ble_eq_true rfl) ⟨Nat.zero_le _, Nat.zero_le _⟩ dX9_pickedBy_101 rfl (fun H locs hO => ?_)
    refine lv_goto (tgt := 230) C.1 C.2.1 dX9_pickedBy_104 (by decide) ?_
    refine lv_aload_n C.1 C.2.1 dX9_pickedBy_230 rfl (lv_at hl 1 rfl) ?_
    refine j_get C hO (ci := 9) (k := 7) (v := jR G (jpt l0 7)) h0 rfl inlX9 (by decide) kF_2_13 rfl rfl dX9_pickedBy_231 ?_
    refine j_get C hO (ci := 1) (k := 0) (v := jR G (jpt (jpt l0 7) 0)) (tp_9_7 h0) rfl inlX1 (by decide) kF_28_3 rfl rfl dX9_pickedBy_234 ?_
    have hf := som_e hf
    subst hf
    exact j_aretR C hO (jkd_in (tp_1_0 (tp_9_7 h0)) (by decide)).1 dX9_pickedBy_237
  have hf := (if_neg c8).symm.trans hf
  by_cases c10 : w32 (M (jpt (jpt l0 0) 8) (w32 l1)) = 4
  · have hf := (if_pos c10).symm.trans hf
    refine j_tsw (tgt := 107) C c10 dX9_pickedBy_23 (by decide) (by decide) rfl (by decide) ?_
    refine lv_aload_n C.1 C.2.1 dX9_pickedBy_107 rfl (lv_at hl 1 rfl) ?_
    refine j_get C hO (ci := 9) (k := 7) (v := jR G (jpt l0 7)) h0 rfl inlX9 (by decide) kF_2_13 rfl rfl dX9_pickedBy_108 ?_
    refine lv_aload_n C.1 C.2.1 dX9_pickedBy_111 rfl (lv_at hl 1 rfl) ?_
    refine j_get C hO (ci := 9) (k := 5) (v := jR G (jpt l0 5)) h0 rfl inlX9 (by decide) kF_2_5 rfl rfl dX9_pickedBy_112 ?_
    refine lv_aload_n C.1 C.2.1 dX9_pickedBy_115 rfl (lv_at hl 1 rfl) ?_
    refine j_get C hO (ci := 9) (k := 6) (v := jR G (jpt l0 6)) h0 rfl inlX9 (by decide) kF_2_9 rfl rfl dX9_pickedBy_116 ?_
    refine lv_aload_n C.1 C.2.1 dX9_pickedBy_119 rfl (lv_at hl 3 rfl) ?_
    refine lv_iload_n C.1 C.2.1 dX9_pickedBy_120 rfl (lv_at hl 0 rfl) ?_
    obtain ⟨r11, hr11, hf⟩ := bnd_e hf
    refine j_callV C hO (n := 4) (As := [jR G (jpt l0 5), jR G (jpt l0 6), jR G l2, vI (((w32 (M (jpt (jpt l0 0) 9) (w32 l1))).tmod (w32 4)) + 1)]) (st1 := [vI r11.1]) (c_X1_findBest l G M (jpt l0 7) (jpt l0 5) (jpt l0 6) l2 (((w32 (M (jpt (jpt l0 0) 9) (w32 l1))).tmod (w32 4)) + 1) (tp_9_7 h0) (tp_9_5 h0) (tp_9_6 h0) h2 hr11) (tp_9_7 h0) rfl kC_28_7 kM_28_4 kI_28_5 kS_28_6 kN_2_12 ⟨by decide, by decide, by decide⟩ ⟨Nat.le_trans (by decide) hRf, Nat.le_trans (by decide) hRl⟩ rfl rfl rfl hl.1 rfl (Nat.le_of_ble_eq_true rfl) ⟨Nat.zero_le _, Nat.zero_le _⟩ dX9_pickedBy_121 rfl (fun H locs hO => ?_)
    refine j_if_ne (tgt := 230) C rfl dX9_pickedBy_124 (by decide) (fun c12 => ?_) (fun c12 => ?_)
    · have hf := (if_neg c12).symm.trans hf
      refine lv_aload_n C.1 C.2.1 dX9_pickedBy_230 rfl (lv_at hl 1 rfl) ?_
      refine j_get C hO (ci := 9) (k := 7) (v := jR G (jpt l0 7)) h0 rfl inlX9 (by decide) kF_2_13 rfl rfl dX9_pickedBy_231 ?_
      refine j_get C hO (ci := 1) (k := 0) (v := jR G (jpt (jpt l0 7) 0)) (tp_9_7 h0) rfl inlX1 (by decide) kF_28_3 rfl rfl dX9_pickedBy_234 ?_
      have hf := som_e hf
      subst hf
      exact j_aretR C hO (jkd_in (tp_1_0 (tp_9_7 h0)) (by decide)).1 dX9_pickedBy_237
    · have hf := (if_pos c12).symm.trans hf
      refine lv_aload_n C.1 C.2.1 dX9_pickedBy_127 rfl (lv_at hl 1 rfl) ?_
      refine j_get C hO (ci := 9) (k := 7) (v := jR G (jpt l0 7)) h0 rfl inlX9 (by decide) kF_2_13 rfl rfl dX9_pickedBy_128 ?_
      refine lv_aload_n C.1 C.2.1 dX9_pickedBy_131 rfl (lv_at hl 1 rfl) ?_
      refine j_get C hO (ci := 9) (k := 5) (v := jR G (jpt l0 5)) h0 rfl inlX9 (by decide) kF_2_5 rfl rfl dX9_pickedBy_132 ?_
      refine lv_iload_n C.1 C.2.1 dX9_pickedBy_135 rfl (lv_at hl 0 rfl) ?_
      refine lv_iconst (v := Int32.ofInt 0) C.1 C.2.1 dX9_pickedBy_136 rfl ?_
      obtain ⟨r13, hr13, hf⟩ := bnd_e hf
      refine j_callV C hO (n := 3) (As := [jR G (jpt l0 5), vI (((w32 (M (jpt (jpt l0 0) 9) (w32 l1))).tmod (w32 4)) + 1), vI 0]) (st1 := []) (c_X1_findByWait l G r11.2 (jpt l0 7) (jpt l0 5) (((w32 (M (jpt (jpt l0 0) 9) (w32 l1))).tmod (w32 4)) + 1) 0 (tp_9_7 h0) (tp_9_5 h0) hr13) (tp_9_7 h0) rfl kC_31_17 kM_31_14 kI_31_15 kS_31_16 kN_2_12 ⟨by decide, by decide, by decide⟩ ⟨Nat.le_trans (by decide) hRf, Nat.le_trans (by decide) hRl⟩ rfl rfl rfl hl.1 rfl (Nat.le_of_ble_eq_true rfl) ⟨Nat.zero_le _, Nat.zero_le _⟩ dX9_pickedBy_137 rfl (fun H locs hO => ?_)
      refine lv_goto (tgt := 230) C.1 C.2.1 dX9_pickedBy_140 (by decide) ?_
      refine lv_aload_n C.1 C.2.1 dX9_pickedBy_230 rfl (lv_at hl 1 rfl) ?_
      refine j_get C hO (ci := 9) (k := 7) (v := jR G (jpt l0 7)) h0 rfl inlX9 (by decide) kF_2_13 rfl rfl dX9_pickedBy_231 ?_
      refine j_get C hO (ci := 1) (k := 0) (v := jR G (jpt (jpt l0 7) 0)) (tp_9_7 h0) rfl inlX1 (by decide) kF_28_3 rfl rfl dX9_pickedBy_234 ?_
      have hf := som_e hf
      subst hf
      exact j_aretR C hO (jkd_in (tp_1_0 (tp_9_7 h0)) (by decide)).1 dX9_pickedBy_237
  have hf := (if_neg c10).symm.trans hf
  by_cases c14 : w32 (M (jpt (jpt l0 0) 8) (w32 l1)) = 5
  · have hf := (if_pos c14).symm.trans hf
    refine j_tsw (tgt := 143) C c14 dX9_pickedBy_23 (by decide) (by decide) rfl (by decide) ?_
    refine lv_aload_n C.1 C.2.1 dX9_pickedBy_143 rfl (lv_at hl 1 rfl) ?_
    refine j_get C hO (ci := 9) (k := 7) (v := jR G (jpt l0 7)) h0 rfl inlX9 (by decide) kF_2_13 rfl rfl dX9_pickedBy_144 ?_
    refine lv_aload_n C.1 C.2.1 dX9_pickedBy_147 rfl (lv_at hl 1 rfl) ?_
    refine j_get C hO (ci := 9) (k := 5) (v := jR G (jpt l0 5)) h0 rfl inlX9 (by decide) kF_2_5 rfl rfl dX9_pickedBy_148 ?_
    refine lv_aload_n C.1 C.2.1 dX9_pickedBy_151 rfl (lv_at hl 1 rfl) ?_
    refine j_get C hO (ci := 9) (k := 6) (v := jR G (jpt l0 6)) h0 rfl inlX9 (by decide) kF_2_9 rfl rfl dX9_pickedBy_152 ?_
    refine lv_aload_n C.1 C.2.1 dX9_pickedBy_155 rfl (lv_at hl 3 rfl) ?_
    refine lv_iload_n C.1 C.2.1 dX9_pickedBy_156 rfl (lv_at hl 0 rfl) ?_
    obtain ⟨r15, hr15, hf⟩ := bnd_e hf
    refine j_callV C hO (n := 4) (As := [jR G (jpt l0 5), jR G (jpt l0 6), jR G l2, vI (((w32 (M (jpt (jpt l0 0) 9) (w32 l1))).tmod (w32 4)) + 1)]) (st1 := [vI r15.1]) (c_X1_findSlowBest l G M (jpt l0 7) (jpt l0 5) (jpt l0 6) l2 (((w32 (M (jpt (jpt l0 0) 9) (w32 l1))).tmod (w32 4)) + 1) (tp_9_7 h0) (tp_9_5 h0) (tp_9_6 h0) h2 hr15) (tp_9_7 h0) rfl kC_32_14 kM_32_11 kI_32_12 kS_32_13 kN_2_12 ⟨by decide, by decide, by decide⟩ ⟨Nat.le_trans (by decide) hRf, Nat.le_trans (by decide) hRl⟩ rfl rfl rfl hl.1 rfl (Nat.le_of_ble_eq_true rfl) ⟨Nat.zero_le _, Nat.zero_le _⟩ dX9_pickedBy_157 rfl (fun H locs hO => ?_)
    refine j_if_ne (tgt := 230) C rfl dX9_pickedBy_160 (by decide) (fun c16 => ?_) (fun c16 => ?_)
    · have hf := (if_neg c16).symm.trans hf
      refine lv_aload_n C.1 C.2.1 dX9_pickedBy_230 rfl (lv_at hl 1 rfl) ?_
      refine j_get C hO (ci := 9) (k := 7) (v := jR G (jpt l0 7)) h0 rfl inlX9 (by decide) kF_2_13 rfl rfl dX9_pickedBy_231 ?_
      refine j_get C hO (ci := 1) (k := 0) (v := jR G (jpt (jpt l0 7) 0)) (tp_9_7 h0) rfl inlX1 (by decide) kF_28_3 rfl rfl dX9_pickedBy_234 ?_
      have hf := som_e hf
      subst hf
      exact j_aretR C hO (jkd_in (tp_1_0 (tp_9_7 h0)) (by decide)).1 dX9_pickedBy_237
    · have hf := (if_pos c16).symm.trans hf
      refine lv_aload_n C.1 C.2.1 dX9_pickedBy_163 rfl (lv_at hl 1 rfl) ?_
      refine j_get C hO (ci := 9) (k := 7) (v := jR G (jpt l0 7)) h0 rfl inlX9 (by decide) kF_2_13 rfl rfl dX9_pickedBy_164 ?_
      refine lv_aload_n C.1 C.2.1 dX9_pickedBy_167 rfl (lv_at hl 1 rfl) ?_
      refine j_get C hO (ci := 9) (k := 5) (v := jR G (jpt l0 5)) h0 rfl inlX9 (by decide) kF_2_5 rfl rfl dX9_pickedBy_168 ?_
      refine lv_iload_n C.1 C.2.1 dX9_pickedBy_171 rfl (lv_at hl 0 rfl) ?_
      refine lv_iconst (v := Int32.ofInt 1) C.1 C.2.1 dX9_pickedBy_172 rfl ?_
      obtain ⟨r17, hr17, hf⟩ := bnd_e hf
      refine j_callV C hO (n := 3) (As := [jR G (jpt l0 5), vI (((w32 (M (jpt (jpt l0 0) 9) (w32 l1))).tmod (w32 4)) + 1), vI 1]) (st1 := []) (c_X1_findByWait l G r15.2 (jpt l0 7) (jpt l0 5) (((w32 (M (jpt (jpt l0 0) 9) (w32 l1))).tmod (w32 4)) + 1) 1 (tp_9_7 h0) (tp_9_5 h0) hr17) (tp_9_7 h0) rfl kC_31_17 kM_31_14 kI_31_15 kS_31_16 kN_2_12 ⟨by decide, by decide, by decide⟩ ⟨Nat.le_trans (by decide) hRf, Nat.le_trans (by decide) hRl⟩ rfl rfl rfl hl.1 rfl (Nat.le_of_ble_eq_true rfl) ⟨Nat.zero_le _, Nat.zero_le _⟩ dX9_pickedBy_173 rfl (fun H locs hO => ?_)
      refine lv_goto (tgt := 230) C.1 C.2.1 dX9_pickedBy_176 (by decide) ?_
      refine lv_aload_n C.1 C.2.1 dX9_pickedBy_230 rfl (lv_at hl 1 rfl) ?_
      refine j_get C hO (ci := 9) (k := 7) (v := jR G (jpt l0 7)) h0 rfl inlX9 (by decide) kF_2_13 rfl rfl dX9_pickedBy_231 ?_
      refine j_get C hO (ci := 1) (k := 0) (v := jR G (jpt (jpt l0 7) 0)) (tp_9_7 h0) rfl inlX1 (by decide) kF_28_3 rfl rfl dX9_pickedBy_234 ?_
      have hf := som_e hf
      subst hf
      exact j_aretR C hO (jkd_in (tp_1_0 (tp_9_7 h0)) (by decide)).1 dX9_pickedBy_237
  have hf := (if_neg c14).symm.trans hf
  by_cases c18 : w32 (M (jpt (jpt l0 0) 8) (w32 l1)) = 6
  · have hf := (if_pos c18).symm.trans hf
    refine j_tsw (tgt := 179) C c18 dX9_pickedBy_23 (by decide) (by decide) rfl (by decide) ?_
    refine lv_aload_n C.1 C.2.1 dX9_pickedBy_179 rfl (lv_at hl 1 rfl) ?_
    refine j_get C hO (ci := 9) (k := 0) (v := jR G (jpt l0 0)) h0 rfl inlX9 (by decide) kF_1_15 rfl rfl dX9_pickedBy_180 ?_
    refine j_get C hO (ci := 8) (k := 10) (v := jR G (jpt (jpt l0 0) 10)) (tp_9_0 h0) rfl inlX8 (by decide) kF_20_10 rfl rfl dX9_pickedBy_183 ?_
    refine lv_iload_n C.1 C.2.1 dX9_pickedBy_186 rfl (lv_at hl 2 rfl) ?_
    obtain ⟨g19, hf⟩ := grd_e hf
    refine j_aald C hO (tp_8_10 (tp_9_0 h0)) rfl g19.1 g19.2 dX9_pickedBy_187 ?_
    refine j_get C hO (ci := 3) (k := 0) (v := vI (M (jpt (jpt (jpt l0 0) 10) (w32 l1)) 0)) (tpo_4 (tp_8_10 (tp_9_0 h0)) g19.1 g19.2) rfl inlX3 (by decide) kF_17_10 rfl rfl dX9_pickedBy_188 ?_
    refine j_if_le (tgt := 204) C rfl dX9_pickedBy_191 (by decide) (fun c20 => ?_) (fun c20 => ?_)
    · have hf := (if_pos c20).symm.trans hf
      refine lv_aload_n C.1 C.2.1 dX9_pickedBy_204 rfl (lv_at hl 1 rfl) ?_
      refine j_get C hO (ci := 9) (k := 7) (v := jR G (jpt l0 7)) h0 rfl inlX9 (by decide) kF_2_13 rfl rfl dX9_pickedBy_205 ?_
      refine lv_aload_n C.1 C.2.1 dX9_pickedBy_208 rfl (lv_at hl 1 rfl) ?_
      refine j_get C hO (ci := 9) (k := 5) (v := jR G (jpt l0 5)) h0 rfl inlX9 (by decide) kF_2_5 rfl rfl dX9_pickedBy_209 ?_
      refine lv_aload_n C.1 C.2.1 dX9_pickedBy_212 rfl (lv_at hl 3 rfl) ?_
      obtain ⟨r21, hr21, hf⟩ := bnd_e hf
      refine j_callV C hO (n := 2) (As := [jR G (jpt l0 5), jR G l2]) (st1 := []) (c_X1_findBeside l G M (jpt l0 7) (jpt l0 5) l2 (tp_9_7 h0) (tp_9_5 h0) h2 hr21) (tp_9_7 h0) rfl kC_32_3 kM_32_0 kI_32_1 kS_32_2 kN_2_12 ⟨by decide, by decide, by decide⟩ ⟨Nat.le_trans (by decide) hRf, Nat.le_trans (by decide) hRl⟩ rfl rfl rfl hl.1 rfl (Nat.le_of_ble_eq_true rfl) ⟨Nat.zero_le _, Nat.zero_le _⟩ dX9_pickedBy_213 rfl (fun H locs hO => ?_)
      refine lv_goto (tgt := 230) C.1 C.2.1 dX9_pickedBy_216 (by decide) ?_
      refine lv_aload_n C.1 C.2.1 dX9_pickedBy_230 rfl (lv_at hl 1 rfl) ?_
      refine j_get C hO (ci := 9) (k := 7) (v := jR G (jpt l0 7)) h0 rfl inlX9 (by decide) kF_2_13 rfl rfl dX9_pickedBy_231 ?_
      refine j_get C hO (ci := 1) (k := 0) (v := jR G (jpt (jpt l0 7) 0)) (tp_9_7 h0) rfl inlX1 (by decide) kF_28_3 rfl rfl dX9_pickedBy_234 ?_
      have hf := som_e hf
      subst hf
      exact j_aretR C hO (jkd_in (tp_1_0 (tp_9_7 h0)) (by decide)).1 dX9_pickedBy_237
    · have hf := (if_neg c20).symm.trans hf
      refine lv_aload_n C.1 C.2.1 dX9_pickedBy_194 rfl (lv_at hl 1 rfl) ?_
      refine j_get C hO (ci := 9) (k := 0) (v := jR G (jpt l0 0)) h0 rfl inlX9 (by decide) kF_1_15 rfl rfl dX9_pickedBy_195 ?_
      refine j_get C hO (ci := 8) (k := 10) (v := jR G (jpt (jpt l0 0) 10)) (tp_9_0 h0) rfl inlX8 (by decide) kF_20_10 rfl rfl dX9_pickedBy_198 ?_
      refine lv_iload_n C.1 C.2.1 dX9_pickedBy_201 rfl (lv_at hl 2 rfl) ?_
      obtain ⟨g22, hf⟩ := grd_e hf
      refine j_aald C hO (tp_8_10 (tp_9_0 h0)) rfl g22.1 g22.2 dX9_pickedBy_202 ?_
      have hf := som_e hf
      subst hf
      exact j_aretR C hO (jkd_in (tpo_4 (tp_8_10 (tp_9_0 h0)) g22.1 g22.2) (by decide)).1 dX9_pickedBy_203
  have hf := (if_neg c18).symm.trans hf
  refine j_tsd (tgt := 219) C dX9_pickedBy_23 (by omega) (by decide) ?_
  refine lv_aload_n C.1 C.2.1 dX9_pickedBy_219 rfl (lv_at hl 1 rfl) ?_
  refine j_get C hO (ci := 9) (k := 7) (v := jR G (jpt l0 7)) h0 rfl inlX9 (by decide) kF_2_13 rfl rfl dX9_pickedBy_220 ?_
  refine j_get C hO (ci := 1) (k := 0) (v := jR G (jpt (jpt l0 7) 0)) (tp_9_7 h0) rfl inlX1 (by decide) kF_28_3 rfl rfl dX9_pickedBy_223 ?_
  refine lv_iload_n C.1 C.2.1 dX9_pickedBy_226 rfl (lv_at hl 0 rfl) ?_
  obtain ⟨r23, hr23, hf⟩ := bnd_e hf
  refine j_callV C hO (n := 1) (As := [vI (((w32 (M (jpt (jpt l0 0) 9) (w32 l1))).tmod (w32 4)) + 1)]) (st1 := []) (c_X3_zeros l G M (jpt (jpt l0 7) 0) (((w32 (M (jpt (jpt l0 0) 9) (w32 l1))).tmod (w32 4)) + 1) (tp_1_0 (tp_9_7 h0)) hr23) (tp_1_0 (tp_9_7 h0)) rfl kC_17_14 kM_17_11 kI_17_12 kS_17_13 kN_3_8 ⟨by decide, by decide, by decide⟩ ⟨Nat.le_trans (by decide) hRf, Nat.le_trans (by decide) hRl⟩ rfl rfl rfl hl.1 rfl (Nat.le_of_ble_eq_true rfl) ⟨Nat.zero_le _, Nat.zero_le _⟩ dX9_pickedBy_227 rfl (fun H locs hO => ?_)
  refine lv_aload_n C.1 C.2.1 dX9_pickedBy_230 rfl (lv_at hl 1 rfl) ?_
  refine j_get C hO (ci := 9) (k := 7) (v := jR G (jpt l0 7)) h0 rfl inlX9 (by decide) kF_2_13 rfl rfl dX9_pickedBy_231 ?_
  refine j_get C hO (ci := 1) (k := 0) (v := jR G (jpt (jpt l0 7) 0)) (tp_9_7 h0) rfl inlX1 (by decide) kF_28_3 rfl rfl dX9_pickedBy_234 ?_
  have hf := som_e hf
  subst hf
  exact j_aretR C hO (jkd_in (tp_1_0 (tp_9_7 h0)) (by decide)).1 dX9_pickedBy_237
set_option maxHeartbeats 1000000 in
theorem c_X9_pickedBy (l : Launch) (G : jG)  (M : jM) (l0 l1 l2 : Int) (h0 : jkd l0 = (9, 0)) (h2 : jkd l2 = (3, 0)) {fin : Int × jM} (h : f_X9_pickedBy M l0 l1 l2 = some fin) : Met l yX9_pickedBy (Cond.code yX9_pickedBy cX9_pickedBy 4 (some (.object "RowFirst$Line")) :: wsL_law) ({ frames := 5, cells := 0, slots := 0, locals := 118 } : Room) (va_Pc [jR G l0, vI l1, jR G l2] (fun U => jRep G M U)) (jQ G (some (jN G fin.1)) fin.2) 0 0 (jA G) := by
  refine Met.ofW (cc := cX9_pickedBy) (maxL := 4) (ret := (some (.object "RowFirst$Line"))) (by decide) rfl ?_
  intro p e s m args below meth c s₁ B hml hv
  obtain ⟨rfl, hR0⟩ := hv
  have C : jCx p s m ([jR G l0, vI l1, jR G l2] : List Value).toArray meth c cX9_pickedBy 4 RX9 (Cond.code yX9_pickedBy cX9_pickedBy 4 (some (.object "RowFirst$Line"))) (some (.object "RowFirst$Line")) := ⟨B.exec, B.bytes, hml, findClass_of_methodNamed B.named, atoms_spec B.pre, B.returns, B.notSynchronized⟩
  have hO := hR0.ok
  have hl := lv_entry ([jR G l0, vI l1, jR G l2]) (n := 4) (Nat.le_of_ble_eq_true rfl)
  rw [lg_entry_eq]
  generalize (lg_sl ([jR G l0, vI l1, jR G l2]) ++ List.replicate (4 - (lg_sl ([jR G l0, vI l1, jR G l2])).length) Slot.unset).toArray = ls at hl ⊢
  have hl : lv_has ls 4 [(0, jR G l0), (1, vI l1), (2, jR G l2)] := hl
  exact w_X9_pickedBy C (Nat.le_refl _) (Nat.le_refl _) M l0 l1 l2 h0 h2 h hO hl
set_option maxHeartbeats 4000000 in
theorem w_X9_pick {p : Program} {l : Launch} {e : Env} {R : Room} {s : State} {m : MethodId} {args : Array Value} {below : List Frame} {meth : Method} {c : Code} {H : Heap} {locs : List Loc} {ls : Array Slot} {G : jG}  (C : jCx p s m args meth c cX9_pick 5 RX9 (Cond.code yX9_pick cX9_pick 5 (some .int)) (some .int)) (hRf : 6 ≤ R.frames) (hRl : 141 ≤ R.locals)  (M : jM) (l0 l1 l2 l3 : Int) (h0 : jkd l0 = (9, 0)) {fin : Int × jM} (hf : f_X9_pick M l0 l1 l2 l3 = some fin) (hO : jOk G M s H locs) (hl : lv_has ls 5 [(0, jR G l0), (1, vI l1), (2, vI l2), (3, vI l3)]) : W p l e R s m args below meth c H locs 0 0 (MQ below (jQ G (some (vI fin.1)) fin.2) args s 0 0 (jA G)) (F0 m 0 ls []) := by
  unfold f_X9_pick at hf
  refine lv_aload_n C.1 C.2.1 dX9_pick_0 rfl (lv_at hl 0 rfl) ?_
  refine j_get C hO (ci := 9) (k := 0) (v := jR G (jpt l0 0)) h0 rfl inlX9 (by decide) kF_1_15 rfl rfl dX9_pick_1 ?_
  refine lv_iload_n C.1 C.2.1 dX9_pick_4 rfl (lv_at hl 2 rfl) ?_
  obtain ⟨r1, hr1, hf⟩ := bnd_e hf
  obtain ⟨g2, hf⟩ := grd_e hf
  refine j_callV C hO (n := 1) (As := [vI l2]) (st1 := [jN G r1]) (c_X8_rowAt l G M (jpt l0 0) l2 (tp_9_0 h0) hr1) (tp_9_0 h0) rfl kC_18_22 kM_18_19 kI_18_20 kS_18_21 kN_1_14 ⟨by decide, by decide, by decide⟩ ⟨Nat.le_trans (by decide) hRf, Nat.le_trans (by decide) hRl⟩ rfl rfl rfl hl.1 rfl (Nat.le_of_ble_eq_true rfl) ⟨Nat.zero_le _, Nat.zero_le _⟩ dX9_pick_5 rfl (fun H locs hO => ?_)
  refine j_astoreN (i := 4) (lv' := [(0, jR G l0), (1, vI l1), (2, vI l2), (3, vI l3)]) C dX9_pick_8 hl (by decide) (fun _ _ => rfl) (fun ls hl => ?_)
  refine lv_aload_n C.1 C.2.1 dX9_pick_10 rfl (lv_at hl 1 rfl) ?_
  refine j_get C hO (ci := 9) (k := 0) (v := jR G (jpt l0 0)) h0 rfl inlX9 (by decide) kF_1_15 rfl rfl dX9_pick_11 ?_
  refine lv_iload_n C.1 C.2.1 dX9_pick_14 rfl (lv_at hl 2 rfl) ?_
  obtain ⟨r3, hr3, hf⟩ := bnd_e hf
  refine j_callV C hO (n := 1) (As := [vI l1]) (st1 := [vI r3]) (c_X8_hasPlayer l G M (jpt l0 0) l1 (tp_9_0 h0) hr3) (tp_9_0 h0) rfl kC_20_14 kM_20_11 kI_20_12 kS_20_13 kN_1_14 ⟨by decide, by decide, by decide⟩ ⟨Nat.le_trans (by decide) hRf, Nat.le_trans (by decide) hRl⟩ rfl rfl rfl hl.1 rfl (Nat.le_of_ble_eq_true rfl) ⟨Nat.zero_le _, Nat.zero_le _⟩ dX9_pick_15 rfl (fun H locs hO => ?_)
  refine j_if_eq (tgt := 37) C rfl dX9_pick_18 (by decide) (fun c4 => ?_) (fun c4 => ?_)
  · have hf := (if_pos c4).symm.trans hf
    refine lv_iconst (v := Int32.ofInt (-1)) C.1 C.2.1 dX9_pick_37 rfl ?_
    have hf := som_e hf
    subst hf
    exact j_iret C hO dX9_pick_38
  · have hf := (if_neg c4).symm.trans hf
    refine j_aloadN C dX9_pick_21 (lv_at hl 0 rfl) ?_
    refine j_ifnull (tgt := 37) C dX9_pick_23 (by decide) (fun c5 => ?_) (fun c5 => ?_)
    · have hf := (if_pos c5).symm.trans hf
      refine lv_iconst (v := Int32.ofInt (-1)) C.1 C.2.1 dX9_pick_37 rfl ?_
      have hf := som_e hf
      subst hf
      exact j_iret C hO dX9_pick_38
    · have hf := (if_neg c5).symm.trans hf
      rw [jN_p (Int.not_lt.mp c5)] at hl
      refine lv_iload_n C.1 C.2.1 dX9_pick_26 rfl (lv_at hl 4 rfl) ?_
      refine lv_iconst (v := Int32.ofInt (-1)) C.1 C.2.1 dX9_pick_27 rfl ?_
      refine j_icmp_lt (tgt := 37) C rfl (w32_id (by decide) (by decide)) dX9_pick_28 (by decide) (fun c6 => ?_) (fun c6 => ?_)
      · have hf := (if_pos c6).symm.trans hf
        refine lv_iconst (v := Int32.ofInt (-1)) C.1 C.2.1 dX9_pick_37 rfl ?_
        have hf := som_e hf
        subst hf
        exact j_iret C hO dX9_pick_38
      · have hf := (if_neg c6).symm.trans hf
        refine lv_iload_n C.1 C.2.1 dX9_pick_31 rfl (lv_at hl 4 rfl) ?_
        refine lv_bipush (v := Int32.ofInt 6) C.1 C.2.1 dX9_pick_32 (by decide) ?_
        refine j_icmp_lt (tgt := 39) C rfl (w32_id (by decide) (by decide)) dX9_pick_34 (by decide) (fun c7 => ?_) (fun c7 => ?_)
        · have hf := (if_pos c7).symm.trans hf
          refine lv_aload_n C.1 C.2.1 dX9_pick_39 rfl (lv_at hl 1 rfl) ?_
          obtain ⟨r8, hr8, hf⟩ := bnd_e hf
          refine j_callV C hO (n := 0) (As := []) (st1 := []) (c_X9_weigh l G M l0 h0 hr8) h0 rfl kC_15_12 kM_15_9 kI_15_10 kS_15_11 kN_1_2 ⟨by decide, by decide, by decide⟩ ⟨Nat.le_trans (by decide) hRf, Nat.le_trans (by decide) hRl⟩ rfl rfl rfl hl.1 rfl (Nat.le_of_ble_eq_true rfl) ⟨Nat.zero_le _, Nat.zero_le _⟩ dX9_pick_40 rfl (fun H locs hO => ?_)
          refine lv_aload_n C.1 C.2.1 dX9_pick_43 rfl (lv_at hl 1 rfl) ?_
          refine j_get C hO (ci := 9) (k := 5) (v := jR G (jpt l0 5)) h0 rfl inlX9 (by decide) kF_2_5 rfl rfl dX9_pick_44 ?_
          refine lv_aload C.1 C.2.1 dX9_pick_47 (lv_at hl 0 rfl) ?_
          obtain ⟨r9, hr9, hf⟩ := bnd_e hf
          refine j_callV C hO (n := 1) (As := [jR G r1]) (st1 := [vI r9]) (c_X6_isLawful l G r8 (jpt l0 5) r1 (tp_9_5 h0) (g2.resolve_left c5) hr9) (tp_9_5 h0) rfl kC_21_11 kM_21_8 kI_21_9 kS_21_10 kN_2_4 ⟨by decide, by decide, by decide⟩ ⟨Nat.le_trans (by decide) hRf, Nat.le_trans (by decide) hRl⟩ rfl rfl rfl hl.1 rfl (Nat.le_of_ble_eq_true rfl) ⟨Nat.zero_le _, Nat.zero_le _⟩ dX9_pick_49 rfl (fun H locs hO => ?_)
          refine j_if_ne (tgt := 58) C rfl dX9_pick_52 (by decide) (fun c10 => ?_) (fun c10 => ?_)
          · have hf := (if_neg c10).symm.trans hf
            refine lv_aload_n C.1 C.2.1 dX9_pick_58 rfl (lv_at hl 1 rfl) ?_
            refine lv_iload_n C.1 C.2.1 dX9_pick_59 rfl (lv_at hl 2 rfl) ?_
            refine lv_aload C.1 C.2.1 dX9_pick_60 (lv_at hl 0 rfl) ?_
            obtain ⟨r11, hr11, hf⟩ := bnd_e hf
            obtain ⟨g12, hf⟩ := grd_e hf
            refine j_callV C hO (n := 2) (As := [vI l1, jR G r1]) (st1 := [jN G r11.1]) (c_X9_pickedBy l G r8 l0 l1 r1 h0 (g2.resolve_left c5) hr11) h0 rfl kC_31_12 kM_31_9 kI_31_10 kS_31_11 kN_1_2 ⟨by decide, by decide, by decide⟩ ⟨Nat.le_trans (by decide) hRf, Nat.le_trans (by decide) hRl⟩ rfl rfl rfl hl.1 rfl (Nat.le_of_ble_eq_true rfl) ⟨Nat.zero_le _, Nat.zero_le _⟩ dX9_pick_62 rfl (fun H locs hO => ?_)
            refine lv_iload_n C.1 C.2.1 dX9_pick_65 rfl (lv_at hl 4 rfl) ?_
            obtain ⟨r13, hr13, hf⟩ := bnd_e hf
            refine j_callS C hO (n := 2) (As := [jN G r11.1, vI l3]) (st1 := [vI r13]) (c_X9_partOfRow l G r11.2 r11.1 l3 g12 hr13) kC_19_2 kM_19_0 kT_19_1 kN_1_2 ⟨by decide, by decide, by decide⟩ ⟨Nat.le_trans (by decide) hRf, Nat.le_trans (by decide) hRl⟩ rfl rfl rfl hl.1 rfl (Nat.le_of_ble_eq_true rfl) ⟨Nat.zero_le _, Nat.zero_le _⟩ dX9_pick_66 rfl (fun H locs hO => ?_)
            have hf := som_e hf
            subst hf
            exact j_iret C hO dX9_pick_69
          · have hf := (if_pos c10).symm.trans hf
            refine lv_bipush (v := Int32.ofInt (-3)) C.1 C.2.1 dX9_pick_55 (by decide) ?_
            have hf := som_e hf
            subst hf
            exact j_iret C hO dX9_pick_57
        · have hf := (if_neg c7).symm.trans hf
          refine lv_iconst (v := Int32.ofInt (-1)) C.1 C.2.1 dX9_pick_37 rfl ?_
          have hf := som_e hf
          subst hf
          exact j_iret C hO dX9_pick_38
set_option maxHeartbeats 1000000 in
theorem c_X9_pick (l : Launch) (G : jG)  (M : jM) (l0 l1 l2 l3 : Int) (h0 : jkd l0 = (9, 0)) {fin : Int × jM} (h : f_X9_pick M l0 l1 l2 l3 = some fin) : Met l yX9_pick (Cond.code yX9_pick cX9_pick 5 (some .int) :: wsL_law) ({ frames := 6, cells := 0, slots := 0, locals := 141 } : Room) (va_Pc [jR G l0, vI l1, vI l2, vI l3] (fun U => jRep G M U)) (jQ G (some (vI fin.1)) fin.2) 0 0 (jA G) := by
  refine Met.ofW (cc := cX9_pick) (maxL := 5) (ret := (some .int)) (by decide) rfl ?_
  intro p e s m args below meth c s₁ B hml hv
  obtain ⟨rfl, hR0⟩ := hv
  have C : jCx p s m ([jR G l0, vI l1, vI l2, vI l3] : List Value).toArray meth c cX9_pick 5 RX9 (Cond.code yX9_pick cX9_pick 5 (some .int)) (some .int) := ⟨B.exec, B.bytes, hml, findClass_of_methodNamed B.named, atoms_spec B.pre, B.returns, B.notSynchronized⟩
  have hO := hR0.ok
  have hl := lv_entry ([jR G l0, vI l1, vI l2, vI l3]) (n := 5) (Nat.le_of_ble_eq_true rfl)
  rw [lg_entry_eq]
  generalize (lg_sl ([jR G l0, vI l1, vI l2, vI l3]) ++ List.replicate (5 - (lg_sl ([jR G l0, vI l1, vI l2, vI l3])).length) Slot.unset).toArray = ls at hl ⊢
  have hl : lv_has ls 5 [(0, jR G l0), (1, vI l1), (2, vI l2), (3, vI l3)] := hl
  exact w_X9_pick C (Nat.le_refl _) (Nat.le_refl _) M l0 l1 l2 l3 h0 h hO hl
set_option maxHeartbeats 4000000 in
theorem w_X9_fairest_99 {p : Program} {l : Launch} {e : Env} {R : Room} {s : State} {m : MethodId} {args : Array Value} {below : List Frame} {meth : Method} {c : Code} {H : Heap} {locs : List Loc} {ls : Array Slot} {G : jG}  (C : jCx p s m args meth c cX9_fairest 11 RX9 (Cond.code yX9_fairest cX9_fairest 11 (some .int)) (some .int)) (hRf : 3 ≤ R.frames) (hRl : 83 ≤ R.locals)  (M : jM) (l0 l1 l2 l3 l4 l6 l8 : Int) (h0 : jkd l0 = (9, 0)) (h1 : jkd l1 = (3, 0)) (h2 : jkd l2 = (3, 0)) {fin : Int × jM} {rr : (jM × Int × Int × Int × Int) ⊕ ((jM × Int))} (hf : f_X9_fairest_99 M l0 l1 l2 l3 l4 l6 l8 = some rr) (kc : ∀ q : jM × Int × Int × Int × Int, rr = .inl q → ∀ (H : Heap) (locs : List Loc) (ls : Array Slot), jOk G q.1 s H locs → lv_has ls 11 [(0, jR G l0), (1, jR G l1), (2, jR G l2), (3, vI q.2.1), (4, vL q.2.2.1), (6, vL q.2.2.2.1), (8, vI q.2.2.2.2)] → W p l e R s m args below meth c H locs 0 0 (MQ below (jQ G (some (vI fin.1)) fin.2) args s 0 0 (jA G)) (F0 m 11 ls [])) (kx0 : ∀ q : jM × Int, rr = .inr q → ∀ (H : Heap) (locs : List Loc) (ls : Array Slot), jOk G q.1 s H locs → lv_has ls 11 [(3, vI q.2)] → W p l e R s m args below meth c H locs 0 0 (MQ below (jQ G (some (vI fin.1)) fin.2) args s 0 0 (jA G)) (F0 m 105 ls [])) (hO : jOk G M s H locs) (hl : lv_has ls 11 [(0, jR G l0), (1, jR G l1), (2, jR G l2), (3, vI l3), (4, vL l4), (6, vL l6), (8, vI l8)]) : W p l e R s m args below meth c H locs 0 0 (MQ below (jQ G (some (vI fin.1)) fin.2) args s 0 0 (jA G)) (F0 m 99 ls []) := by
  unfold f_X9_fairest_99 at hf
  refine lv_iinc (v := Int32.ofInt (l8 + 1)) (lv' := [(8, vI (l8 + 1)), (0, jR G l0), (1, jR G l1), (2, jR G l2), (3, vI l3), (4, vL l4), (6, vL l6)]) C.1 C.2.1 dX9_fairest_99 hl (k := 6) rfl (Int32.ofInt_add _ _).symm (by decide) rfl (fun ls hl => ?_)
  refine lv_goto (tgt := 11) C.1 C.2.1 dX9_fairest_102 (by decide) ?_
  exact kc _ (som_e hf).symm _ _ _ hO (lv_sub hl [1, 2, 3, 4, 5, 6, 0] rfl)
set_option maxHeartbeats 4000000 in
theorem w_X9_fairest_83 {p : Program} {l : Launch} {e : Env} {R : Room} {s : State} {m : MethodId} {args : Array Value} {below : List Frame} {meth : Method} {c : Code} {H : Heap} {locs : List Loc} {ls : Array Slot} {G : jG}  (C : jCx p s m args meth c cX9_fairest 11 RX9 (Cond.code yX9_fairest cX9_fairest 11 (some .int)) (some .int)) (hRf : 3 ≤ R.frames) (hRl : 83 ≤ R.locals)  (M : jM) (l0 l1 l2 l8 l9 : Int) (h0 : jkd l0 = (9, 0)) (h1 : jkd l1 = (3, 0)) (h2 : jkd l2 = (3, 0)) {fin : Int × jM} {rr : (jM × Int × Int × Int × Int) ⊕ ((jM × Int))} (hf : f_X9_fairest_83 M l0 l1 l2 l8 l9 = some rr) (kc : ∀ q : jM × Int × Int × Int × Int, rr = .inl q → ∀ (H : Heap) (locs : List Loc) (ls : Array Slot), jOk G q.1 s H locs → lv_has ls 11 [(0, jR G l0), (1, jR G l1), (2, jR G l2), (3, vI q.2.1), (4, vL q.2.2.1), (6, vL q.2.2.2.1), (8, vI q.2.2.2.2)] → W p l e R s m args below meth c H locs 0 0 (MQ below (jQ G (some (vI fin.1)) fin.2) args s 0 0 (jA G)) (F0 m 11 ls [])) (kx0 : ∀ q : jM × Int, rr = .inr q → ∀ (H : Heap) (locs : List Loc) (ls : Array Slot), jOk G q.1 s H locs → lv_has ls 11 [(3, vI q.2)] → W p l e R s m args below meth c H locs 0 0 (MQ below (jQ G (some (vI fin.1)) fin.2) args s 0 0 (jA G)) (F0 m 105 ls [])) (hO : jOk G M s H locs) (hl : lv_has ls 11 [(0, jR G l0), (1, jR G l1), (2, jR G l2), (8, vI l8), (9, vL l9)]) : W p l e R s m args below meth c H locs 0 0 (MQ below (jQ G (some (vI fin.1)) fin.2) args s 0 0 (jA G)) (F0 m 83 ls []) := by
  unfold f_X9_fairest_83 at hf
  refine lv_iload C.1 C.2.1 dX9_fairest_83 (lv_at hl 3 rfl) ?_
  refine lv_istore_n (lv' := [(3, vI l8), (0, jR G l0), (1, jR G l1), (2, jR G l2), (8, vI l8), (9, vL l9)]) C.1 C.2.1 dX9_fairest_85 rfl hl (by decide) rfl (fun ls hl => ?_)
  refine lv_lload C.1 C.2.1 dX9_fairest_86 (lv_at hl 5 rfl) ?_
  refine lv_lstore (lv' := [(4, vL l9), (3, vI l8), (0, jR G l0), (1, jR G l1), (2, jR G l2), (8, vI l8), (9, vL l9)]) C.1 C.2.1 dX9_fairest_88 hl (by decide) rfl (fun ls hl => ?_)
  refine lv_aload_n C.1 C.2.1 dX9_fairest_90 rfl (lv_at hl 2 rfl) ?_
  refine j_get C hO (ci := 9) (k := 6) (v := jR G (jpt l0 6)) h0 rfl inlX9 (by decide) kF_2_9 rfl rfl dX9_fairest_91 ?_
  refine j_get C hO (ci := 2) (k := 2) (v := vL (M (jpt l0 6) 2)) (tp_9_6 h0) rfl inlX2 (by decide) kF_24_7 rfl rfl dX9_fairest_94 ?_
  refine lv_lstore (lv' := [(6, vL (M (jpt l0 6) 2)), (4, vL l9), (3, vI l8), (0, jR G l0), (1, jR G l1), (2, jR G l2), (8, vI l8), (9, vL l9)]) C.1 C.2.1 dX9_fairest_97 hl (by decide) rfl (fun ls hl => ?_)
  exact w_X9_fairest_99 C hRf hRl M l0 l1 l2 l8 l9 (M (jpt l0 6) 2) l8 h0 h1 h2 hf kc kx0 hO (lv_sub hl [3, 4, 5, 2, 1, 0, 6] rfl)
set_option maxHeartbeats 4000000 in
theorem w_X9_fairest_L11 {p : Program} {l : Launch} {e : Env} {R : Room} {s : State} {m : MethodId} {args : Array Value} {below : List Frame} {meth : Method} {c : Code} {H : Heap} {locs : List Loc} {ls : Array Slot} {G : jG}  (C : jCx p s m args meth c cX9_fairest 11 RX9 (Cond.code yX9_fairest cX9_fairest 11 (some .int)) (some .int)) (hRf : 3 ≤ R.frames) (hRl : 83 ≤ R.locals)  (M : jM) (l0 l1 l2 : Int) (h0 : jkd l0 = (9, 0)) (h1 : jkd l1 = (3, 0)) (h2 : jkd l2 = (3, 0)) {fin : Int × jM} (S : jM × Int × Int × Int × Int) {rr : (jM × Int × Int × Int × Int) ⊕ ((jM × Int))} (hf : f_X9_fairest_L11 M l0 l1 l2 S = some rr) (kc : ∀ q : jM × Int × Int × Int × Int, rr = .inl q → ∀ (H : Heap) (locs : List Loc) (ls : Array Slot), jOk G q.1 s H locs → lv_has ls 11 [(0, jR G l0), (1, jR G l1), (2, jR G l2), (3, vI q.2.1), (4, vL q.2.2.1), (6, vL q.2.2.2.1), (8, vI q.2.2.2.2)] → W p l e R s m args below meth c H locs 0 0 (MQ below (jQ G (some (vI fin.1)) fin.2) args s 0 0 (jA G)) (F0 m 11 ls [])) (kx0 : ∀ q : jM × Int, rr = .inr q → ∀ (H : Heap) (locs : List Loc) (ls : Array Slot), jOk G q.1 s H locs → lv_has ls 11 [(3, vI q.2)] → W p l e R s m args below meth c H locs 0 0 (MQ below (jQ G (some (vI fin.1)) fin.2) args s 0 0 (jA G)) (F0 m 105 ls [])) (hO : jOk G S.1 s H locs) (hl : lv_has ls 11 [(0, jR G l0), (1, jR G l1), (2, jR G l2), (3, vI S.2.1), (4, vL S.2.2.1), (6, vL S.2.2.2.1), (8, vI S.2.2.2.2)]) : W p l e R s m args below meth c H locs 0 0 (MQ below (jQ G (some (vI fin.1)) fin.2) args s 0 0 (jA G)) (F0 m 11 ls []) := by
  unfold f_X9_fairest_L11 at hf
  refine lv_iload C.1 C.2.1 dX9_fairest_11 (lv_at hl 6 rfl) ?_
  refine lv_bipush (v := Int32.ofInt 9) C.1 C.2.1 dX9_fairest_13 (by decide) ?_
  refine j_icmp_gt (tgt := 105) C rfl (w32_id (by decide) (by decide)) dX9_fairest_15 (by decide) (fun c1 => ?_) (fun c1 => ?_)
  · have hf := (if_pos c1).symm.trans hf
    exact kx0 _ (som_e hf).symm _ _ _ hO (lv_sub hl [3] rfl)
  · have hf := (if_neg c1).symm.trans hf
    refine lv_aload_n C.1 C.2.1 dX9_fairest_18 rfl (lv_at hl 0 rfl) ?_
    refine j_get C hO (ci := 9) (k := 5) (v := jR G (jpt l0 5)) h0 rfl inlX9 (by decide) kF_2_5 rfl rfl dX9_fairest_19 ?_
    refine lv_iload C.1 C.2.1 dX9_fairest_22 (lv_at hl 6 rfl) ?_
    obtain ⟨r2, hr2, hf⟩ := bnd_e hf
    refine j_callV C hO (n := 1) (As := [vI S.2.2.2.2]) (st1 := []) (c_X6_putFirst l G S.1 (jpt l0 5) S.2.2.2.2 (tp_9_5 h0) hr2) (tp_9_5 h0) rfl kC_33_19 kM_33_16 kI_33_17 kS_33_18 kN_2_4 ⟨by decide, by decide, by decide⟩ ⟨Nat.le_trans (by decide) hRf, Nat.le_trans (by decide) hRl⟩ rfl rfl rfl hl.1 rfl (Nat.le_of_ble_eq_true rfl) ⟨Nat.zero_le _, Nat.zero_le _⟩ dX9_fairest_24 rfl (fun H locs hO => ?_)
    refine lv_aload_n C.1 C.2.1 dX9_fairest_27 rfl (lv_at hl 0 rfl) ?_
    refine j_get C hO (ci := 9) (k := 6) (v := jR G (jpt l0 6)) h0 rfl inlX9 (by decide) kF_2_9 rfl rfl dX9_fairest_28 ?_
    refine lv_aload_n C.1 C.2.1 dX9_fairest_31 rfl (lv_at hl 0 rfl) ?_
    refine j_get C hO (ci := 9) (k := 5) (v := jR G (jpt l0 5)) h0 rfl inlX9 (by decide) kF_2_5 rfl rfl dX9_fairest_32 ?_
    refine lv_aload_n C.1 C.2.1 dX9_fairest_35 rfl (lv_at hl 1 rfl) ?_
    refine lv_aload_n C.1 C.2.1 dX9_fairest_36 rfl (lv_at hl 2 rfl) ?_
    obtain ⟨r3, hr3, hf⟩ := bnd_e hf
    refine j_callV C hO (n := 3) (As := [jR G (jpt l0 5), jR G l1, jR G l2]) (st1 := []) (c_X2_measure l G r2 (jpt l0 6) (jpt l0 5) l1 l2 (tp_9_6 h0) (tp_9_5 h0) h1 h2 hr3) (tp_9_6 h0) rfl kC_25_4 kM_25_1 kI_25_2 kS_25_3 kN_2_8 ⟨by decide, by decide, by decide⟩ ⟨Nat.le_trans (by decide) hRf, Nat.le_trans (by decide) hRl⟩ rfl rfl rfl hl.1 rfl (Nat.le_of_ble_eq_true rfl) ⟨Nat.zero_le _, Nat.zero_le _⟩ dX9_fairest_37 rfl (fun H locs hO => ?_)
    refine lv_aload_n C.1 C.2.1 dX9_fairest_40 rfl (lv_at hl 0 rfl) ?_
    refine j_get C hO (ci := 9) (k := 6) (v := jR G (jpt l0 6)) h0 rfl inlX9 (by decide) kF_2_9 rfl rfl dX9_fairest_41 ?_
    refine j_get C hO (ci := 2) (k := 0) (v := vL (r3 (jpt l0 6) 0)) (tp_9_6 h0) rfl inlX2 (by decide) kF_24_6 rfl rfl dX9_fairest_44 ?_
    refine lv_aload_n C.1 C.2.1 dX9_fairest_47 rfl (lv_at hl 0 rfl) ?_
    refine j_get C hO (ci := 9) (k := 6) (v := jR G (jpt l0 6)) h0 rfl inlX9 (by decide) kF_2_9 rfl rfl dX9_fairest_48 ?_
    refine j_get C hO (ci := 2) (k := 1) (v := vL (r3 (jpt l0 6) 1)) (tp_9_6 h0) rfl inlX2 (by decide) kF_30_20 rfl rfl dX9_fairest_51 ?_
    refine j_lsub C dX9_fairest_54 ?_
    refine j_mabs C kM_22_13 kT_22_14 kN_7_16 kC_22_15 hl.1 (Nat.le_trans (by decide) hRf) (Nat.le_trans (by decide) hRl) ⟨Nat.zero_le _, Nat.zero_le _⟩ (Nat.le_of_ble_eq_true rfl) dX9_fairest_55 ?_
    refine lv_lstore (lv' := [(9, vL (if 0 < w64 ((r3 (jpt l0 6) 0) - (r3 (jpt l0 6) 1)) then ((r3 (jpt l0 6) 0) - (r3 (jpt l0 6) 1)) else -((r3 (jpt l0 6) 0) - (r3 (jpt l0 6) 1)))), (0, jR G l0), (1, jR G l1), (2, jR G l2), (3, vI S.2.1), (4, vL S.2.2.1), (6, vL S.2.2.2.1), (8, vI S.2.2.2.2)]) C.1 C.2.1 dX9_fairest_58 hl (by decide) rfl (fun ls hl => ?_)
    refine lv_iload_n C.1 C.2.1 dX9_fairest_60 rfl (lv_at hl 4 rfl) ?_
    refine j_if_eq (tgt := 83) C rfl dX9_fairest_61 (by decide) (fun c4 => ?_) (fun c4 => ?_)
    · have hf := (if_pos c4).symm.trans hf
      exact w_X9_fairest_83 C hRf hRl r3 l0 l1 l2 S.2.2.2.2 (if 0 < w64 ((r3 (jpt l0 6) 0) - (r3 (jpt l0 6) 1)) then ((r3 (jpt l0 6) 0) - (r3 (jpt l0 6) 1)) else -((r3 (jpt l0 6) 0) - (r3 (jpt l0 6) 1))) h0 h1 h2 hf kc kx0 hO (lv_sub hl [1, 2, 3, 7, 0] rfl)
    · have hf := (if_neg c4).symm.trans hf
      refine lv_lload C.1 C.2.1 dX9_fairest_64 (lv_at hl 0 rfl) ?_
      refine lv_aload_n C.1 C.2.1 dX9_fairest_66 rfl (lv_at hl 1 rfl) ?_
      refine j_get C hO (ci := 9) (k := 6) (v := jR G (jpt l0 6)) h0 rfl inlX9 (by decide) kF_2_9 rfl rfl dX9_fairest_67 ?_
      refine j_get C hO (ci := 2) (k := 2) (v := vL (r3 (jpt l0 6) 2)) (tp_9_6 h0) rfl inlX2 (by decide) kF_24_7 rfl rfl dX9_fairest_70 ?_
      refine lv_lload C.1 C.2.1 dX9_fairest_73 (lv_at hl 5 rfl) ?_
      refine lv_lload C.1 C.2.1 dX9_fairest_75 (lv_at hl 6 rfl) ?_
      obtain ⟨r5, hr5, hf⟩ := bnd_e hf
      refine j_callS C hO (n := 4) (As := [vL (if 0 < w64 ((r3 (jpt l0 6) 0) - (r3 (jpt l0 6) 1)) then ((r3 (jpt l0 6) 0) - (r3 (jpt l0 6) 1)) else -((r3 (jpt l0 6) 0) - (r3 (jpt l0 6) 1))), vL (r3 (jpt l0 6) 2), vL S.2.2.1, vL S.2.2.2.1]) (st1 := [vI r5]) (c_X9_compare l G r3 (if 0 < w64 ((r3 (jpt l0 6) 0) - (r3 (jpt l0 6) 1)) then ((r3 (jpt l0 6) 0) - (r3 (jpt l0 6) 1)) else -((r3 (jpt l0 6) 0) - (r3 (jpt l0 6) 1))) (r3 (jpt l0 6) 2) S.2.2.1 S.2.2.2.1  hr5) kC_29_2 kM_33_20 kT_29_1 kN_1_2 ⟨by decide, by decide, by decide⟩ ⟨Nat.le_trans (by decide) hRf, Nat.le_trans (by decide) hRl⟩ rfl rfl rfl hl.1 rfl (Nat.le_of_ble_eq_true rfl) ⟨Nat.zero_le _, Nat.zero_le _⟩ dX9_fairest_77 rfl (fun H locs hO => ?_)
      refine j_if_ge (tgt := 99) C rfl dX9_fairest_80 (by decide) (fun c6 => ?_) (fun c6 => ?_)
      · have hf := (if_pos c6).symm.trans hf
        exact w_X9_fairest_99 C hRf hRl r3 l0 l1 l2 S.2.1 S.2.2.1 S.2.2.2.1 S.2.2.2.2 h0 h1 h2 hf kc kx0 hO (lv_sub hl [1, 2, 3, 4, 5, 6, 7] rfl)
      · have hf := (if_neg c6).symm.trans hf
        exact w_X9_fairest_83 C hRf hRl r3 l0 l1 l2 S.2.2.2.2 (if 0 < w64 ((r3 (jpt l0 6) 0) - (r3 (jpt l0 6) 1)) then ((r3 (jpt l0 6) 0) - (r3 (jpt l0 6) 1)) else -((r3 (jpt l0 6) 0) - (r3 (jpt l0 6) 1))) h0 h1 h2 hf kc kx0 hO (lv_sub hl [1, 2, 3, 7, 0] rfl)
set_option maxHeartbeats 4000000 in
theorem w_X9_fairest {p : Program} {l : Launch} {e : Env} {R : Room} {s : State} {m : MethodId} {args : Array Value} {below : List Frame} {meth : Method} {c : Code} {H : Heap} {locs : List Loc} {ls : Array Slot} {G : jG}  (C : jCx p s m args meth c cX9_fairest 11 RX9 (Cond.code yX9_fairest cX9_fairest 11 (some .int)) (some .int)) (hRf : 3 ≤ R.frames) (hRl : 83 ≤ R.locals)  (M : jM) (l0 l1 l2 : Int) (h0 : jkd l0 = (9, 0)) (h1 : jkd l1 = (3, 0)) (h2 : jkd l2 = (3, 0)) {fin : Int × jM} (hf : f_X9_fairest M l0 l1 l2 = some fin) (hO : jOk G M s H locs) (hl : lv_has ls 11 [(0, jR G l0), (1, jR G l1), (2, jR G l2)]) : W p l e R s m args below meth c H locs 0 0 (MQ below (jQ G (some (vI fin.1)) fin.2) args s 0 0 (jA G)) (F0 m 0 ls []) := by
  unfold f_X9_fairest at hf
  refine lv_iconst (v := Int32.ofInt 0) C.1 C.2.1 dX9_fairest_0 rfl ?_
  refine lv_istore_n (lv' := [(3, vI 0), (0, jR G l0), (1, jR G l1), (2, jR G l2)]) C.1 C.2.1 dX9_fairest_1 rfl hl (by decide) rfl (fun ls hl => ?_)
  refine lv_lconst (v := Int64.ofInt 0) C.1 C.2.1 dX9_fairest_2 (by decide) ?_
  refine lv_lstore (lv' := [(4, vL 0), (3, vI 0), (0, jR G l0), (1, jR G l1), (2, jR G l2)]) C.1 C.2.1 dX9_fairest_3 hl (by decide) rfl (fun ls hl => ?_)
  refine lv_lconst (v := Int64.ofInt 1) C.1 C.2.1 dX9_fairest_5 (by decide) ?_
  refine lv_lstore (lv' := [(6, vL 1), (4, vL 0), (3, vI 0), (0, jR G l0), (1, jR G l1), (2, jR G l2)]) C.1 C.2.1 dX9_fairest_6 hl (by decide) rfl (fun ls hl => ?_)
  refine lv_iconst (v := Int32.ofInt 1) C.1 C.2.1 dX9_fairest_8 rfl ?_
  refine lv_istore (lv' := [(8, vI 1), (6, vL 1), (4, vL 0), (3, vI 0), (0, jR G l0), (1, jR G l1), (2, jR G l2)]) C.1 C.2.1 dX9_fairest_9 hl (by decide) rfl (fun ls hl => ?_)
  obtain ⟨x7, hx7, hf⟩ := bnd_e hf
  refine iter_e (P := fun Z => ∀ (H : Heap) (locs : List Loc) (ls : Array Slot), jOk G Z.1 s H locs → lv_has ls 11 [(0, jR G l0), (1, jR G l1), (2, jR G l2), (3, vI Z.2.1), (4, vL Z.2.2.1), (6, vL Z.2.2.2.1), (8, vI Z.2.2.2.2)] → W p l e R s m args below meth c H locs 0 0 (MQ below (jQ G (some (vI fin.1)) fin.2) args s 0 0 (jA G)) (F0 m 11 ls [])) (E := fun q => ∀ (H : Heap) (locs : List Loc) (ls : Array Slot), jOk G q.1 s H locs → lv_has ls 11 [(3, vI q.2)] → W p l e R s m args below meth c H locs 0 0 (MQ below (jQ G (some (vI fin.1)) fin.2) args s 0 0 (jA G)) (F0 m 105 ls [])) (fun Z rr hb kc kx H locs ls hO hl => w_X9_fairest_L11 C hRf hRl M l0 l1 l2 h0 h1 h2 Z hb kc (fun q e => kx q e) hO hl) 5000 (M, 0, 0, 1, 1) x7 hx7 ?_ _ _ _ hO (lv_sub hl [4, 5, 6, 3, 2, 1, 0] rfl)
  clear hO hl
  intro H locs ls hO hl
  refine lv_iload_n C.1 C.2.1 dX9_fairest_105 rfl (lv_at hl 0 rfl) ?_
  have hf := som_e hf
  subst hf
  exact j_iret C hO dX9_fairest_106
set_option maxHeartbeats 1000000 in
theorem c_X9_fairest (l : Launch) (G : jG)  (M : jM) (l0 l1 l2 : Int) (h0 : jkd l0 = (9, 0)) (h1 : jkd l1 = (3, 0)) (h2 : jkd l2 = (3, 0)) {fin : Int × jM} (h : f_X9_fairest M l0 l1 l2 = some fin) : Met l yX9_fairest (Cond.code yX9_fairest cX9_fairest 11 (some .int) :: wsL_law) ({ frames := 3, cells := 0, slots := 0, locals := 83 } : Room) (va_Pc [jR G l0, jR G l1, jR G l2] (fun U => jRep G M U)) (jQ G (some (vI fin.1)) fin.2) 0 0 (jA G) := by
  refine Met.ofW (cc := cX9_fairest) (maxL := 11) (ret := (some .int)) (by decide) rfl ?_
  intro p e s m args below meth c s₁ B hml hv
  obtain ⟨rfl, hR0⟩ := hv
  have C : jCx p s m ([jR G l0, jR G l1, jR G l2] : List Value).toArray meth c cX9_fairest 11 RX9 (Cond.code yX9_fairest cX9_fairest 11 (some .int)) (some .int) := ⟨B.exec, B.bytes, hml, findClass_of_methodNamed B.named, atoms_spec B.pre, B.returns, B.notSynchronized⟩
  have hO := hR0.ok
  have hl := lv_entry ([jR G l0, jR G l1, jR G l2]) (n := 11) (Nat.le_of_ble_eq_true rfl)
  rw [lg_entry_eq]
  generalize (lg_sl ([jR G l0, jR G l1, jR G l2]) ++ List.replicate (11 - (lg_sl ([jR G l0, jR G l1, jR G l2])).length) Slot.unset).toArray = ls at hl ⊢
  have hl : lv_has ls 11 [(0, jR G l0), (1, jR G l1), (2, jR G l2)] := hl
  exact w_X9_fairest C (Nat.le_refl _) (Nat.le_refl _) M l0 l1 l2 h0 h1 h2 h hO hl
set_option maxHeartbeats 4000000 in
theorem w_X9_fair {p : Program} {l : Launch} {e : Env} {R : Room} {s : State} {m : MethodId} {args : Array Value} {below : List Frame} {meth : Method} {c : Code} {H : Heap} {locs : List Loc} {ls : Array Slot} {G : jG}  (C : jCx p s m args meth c cX9_fair 5 RX9 (Cond.code yX9_fair cX9_fair 5 (some .int)) (some .int)) (hRf : 4 ≤ R.frames) (hRl : 113 ≤ R.locals)  (M : jM) (l0 l1 l2 : Int) (h0 : jkd l0 = (9, 0)) {fin : Int × jM} (hf : f_X9_fair M l0 l1 l2 = some fin) (hO : jOk G M s H locs) (hl : lv_has ls 5 [(0, jR G l0), (1, vI l1), (2, vI l2)]) : W p l e R s m args below meth c H locs 0 0 (MQ below (jQ G (some (vI fin.1)) fin.2) args s 0 0 (jA G)) (F0 m 0 ls []) := by
  unfold f_X9_fair at hf
  refine lv_aload_n C.1 C.2.1 dX9_fair_0 rfl (lv_at hl 0 rfl) ?_
  refine j_get C hO (ci := 9) (k := 0) (v := jR G (jpt l0 0)) h0 rfl inlX9 (by decide) kF_1_15 rfl rfl dX9_fair_1 ?_
  refine lv_iload_n C.1 C.2.1 dX9_fair_4 rfl (lv_at hl 1 rfl) ?_
  obtain ⟨r1, hr1, hf⟩ := bnd_e hf
  obtain ⟨g2, hf⟩ := grd_e hf
  refine j_callV C hO (n := 1) (As := [vI l1]) (st1 := [jN G r1]) (c_X8_rowAt l G M (jpt l0 0) l1 (tp_9_0 h0) hr1) (tp_9_0 h0) rfl kC_18_22 kM_18_19 kI_18_20 kS_18_21 kN_1_14 ⟨by decide, by decide, by decide⟩ ⟨Nat.le_trans (by decide) hRf, Nat.le_trans (by decide) hRl⟩ rfl rfl rfl hl.1 rfl (Nat.le_of_ble_eq_true rfl) ⟨Nat.zero_le _, Nat.zero_le _⟩ dX9_fair_5 rfl (fun H locs hO => ?_)
  refine j_astoreN_n (i := 3) (lv' := [(0, jR G l0), (1, vI l1), (2, vI l2)]) C dX9_fair_8 rfl hl (by decide) (fun _ _ => rfl) (fun ls hl => ?_)
  refine lv_aload_n C.1 C.2.1 dX9_fair_9 rfl (lv_at hl 1 rfl) ?_
  refine j_get C hO (ci := 9) (k := 0) (v := jR G (jpt l0 0)) h0 rfl inlX9 (by decide) kF_1_15 rfl rfl dX9_fair_10 ?_
  refine lv_iload_n C.1 C.2.1 dX9_fair_13 rfl (lv_at hl 3 rfl) ?_
  obtain ⟨r3, hr3, hf⟩ := bnd_e hf
  obtain ⟨g4, hf⟩ := grd_e hf
  refine j_callV C hO (n := 1) (As := [vI l2]) (st1 := [jN G r3]) (c_X8_rowAt l G M (jpt l0 0) l2 (tp_9_0 h0) hr3) (tp_9_0 h0) rfl kC_18_22 kM_18_19 kI_18_20 kS_18_21 kN_1_14 ⟨by decide, by decide, by decide⟩ ⟨Nat.le_trans (by decide) hRf, Nat.le_trans (by decide) hRl⟩ rfl rfl rfl hl.1 rfl (Nat.le_of_ble_eq_true rfl) ⟨Nat.zero_le _, Nat.zero_le _⟩ dX9_fair_14 rfl (fun H locs hO => ?_)
  refine j_astoreN (i := 4) (lv' := [(3, jN G r1), (0, jR G l0), (1, vI l1), (2, vI l2)]) C dX9_fair_17 hl (by decide) (fun _ _ => by simp [List.filter, jN_cat]) (fun ls hl => ?_)
  refine j_aloadN_n C dX9_fair_19 rfl (lv_at hl 1 rfl) ?_
  refine j_ifnull (tgt := 28) C dX9_fair_20 (by decide) (fun c5 => ?_) (fun c5 => ?_)
  · have hf := (if_pos c5).symm.trans hf
    refine lv_iconst (v := Int32.ofInt (-1)) C.1 C.2.1 dX9_fair_28 rfl ?_
    have hf := som_e hf
    subst hf
    exact j_iret C hO dX9_fair_29
  · have hf := (if_neg c5).symm.trans hf
    rw [jN_p (Int.not_lt.mp c5)] at hl
    refine j_aloadN C dX9_fair_23 (lv_at hl 0 rfl) ?_
    refine j_ifnonnull (tgt := 30) C dX9_fair_25 (by decide) (fun c6 => ?_) (fun c6 => ?_)
    · have hf := (if_neg c6).symm.trans hf
      rw [jN_p (Int.not_lt.mp c6)] at hl
      refine lv_aload_n C.1 C.2.1 dX9_fair_30 rfl (lv_at hl 2 rfl) ?_
      obtain ⟨r7, hr7, hf⟩ := bnd_e hf
      refine j_callV C hO (n := 0) (As := []) (st1 := []) (c_X9_weigh l G M l0 h0 hr7) h0 rfl kC_15_12 kM_15_9 kI_15_10 kS_15_11 kN_1_2 ⟨by decide, by decide, by decide⟩ ⟨Nat.le_trans (by decide) hRf, Nat.le_trans (by decide) hRl⟩ rfl rfl rfl hl.1 rfl (Nat.le_of_ble_eq_true rfl) ⟨Nat.zero_le _, Nat.zero_le _⟩ dX9_fair_31 rfl (fun H locs hO => ?_)
      refine lv_aload_n C.1 C.2.1 dX9_fair_34 rfl (lv_at hl 2 rfl) ?_
      refine j_get C hO (ci := 9) (k := 5) (v := jR G (jpt l0 5)) h0 rfl inlX9 (by decide) kF_2_5 rfl rfl dX9_fair_35 ?_
      refine lv_aload_n C.1 C.2.1 dX9_fair_38 rfl (lv_at hl 1 rfl) ?_
      obtain ⟨r8, hr8, hf⟩ := bnd_e hf
      refine j_callV C hO (n := 1) (As := [jR G r1]) (st1 := [vI r8]) (c_X6_isLawful l G r7 (jpt l0 5) r1 (tp_9_5 h0) (g2.resolve_left c5) hr8) (tp_9_5 h0) rfl kC_21_11 kM_21_8 kI_21_9 kS_21_10 kN_2_4 ⟨by decide, by decide, by decide⟩ ⟨Nat.le_trans (by decide) hRf, Nat.le_trans (by decide) hRl⟩ rfl rfl rfl hl.1 rfl (Nat.le_of_ble_eq_true rfl) ⟨Nat.zero_le _, Nat.zero_le _⟩ dX9_fair_39 rfl (fun H locs hO => ?_)
      refine j_if_eq (tgt := 66) C rfl dX9_fair_42 (by decide) (fun c9 => ?_) (fun c9 => ?_)
      · have hf := (if_pos c9).symm.trans hf
        refine lv_bipush (v := Int32.ofInt (-3)) C.1 C.2.1 dX9_fair_66 (by decide) ?_
        have hf := som_e hf
        subst hf
        exact j_iret C hO dX9_fair_68
      · have hf := (if_neg c9).symm.trans hf
        refine lv_aload_n C.1 C.2.1 dX9_fair_45 rfl (lv_at hl 2 rfl) ?_
        refine j_get C hO (ci := 9) (k := 5) (v := jR G (jpt l0 5)) h0 rfl inlX9 (by decide) kF_2_5 rfl rfl dX9_fair_46 ?_
        refine lv_aload C.1 C.2.1 dX9_fair_49 (lv_at hl 0 rfl) ?_
        obtain ⟨r10, hr10, hf⟩ := bnd_e hf
        refine j_callV C hO (n := 1) (As := [jR G r3]) (st1 := [vI r10]) (c_X6_isLawful l G r7 (jpt l0 5) r3 (tp_9_5 h0) (g4.resolve_left c6) hr10) (tp_9_5 h0) rfl kC_21_11 kM_21_8 kI_21_9 kS_21_10 kN_2_4 ⟨by decide, by decide, by decide⟩ ⟨Nat.le_trans (by decide) hRf, Nat.le_trans (by decide) hRl⟩ rfl rfl rfl hl.1 rfl (Nat.le_of_ble_eq_true rfl) ⟨Nat.zero_le _, Nat.zero_le _⟩ dX9_fair_51 rfl (fun H locs hO => ?_)
        refine j_if_eq (tgt := 66) C rfl dX9_fair_54 (by decide) (fun c11 => ?_) (fun c11 => ?_)
        · have hf := (if_pos c11).symm.trans hf
          refine lv_bipush (v := Int32.ofInt (-3)) C.1 C.2.1 dX9_fair_66 (by decide) ?_
          have hf := som_e hf
          subst hf
          exact j_iret C hO dX9_fair_68
        · have hf := (if_neg c11).symm.trans hf
          refine lv_aload_n C.1 C.2.1 dX9_fair_57 rfl (lv_at hl 1 rfl) ?_
          refine lv_aload C.1 C.2.1 dX9_fair_58 (lv_at hl 0 rfl) ?_
          obtain ⟨r12, hr12, hf⟩ := bnd_e hf
          refine j_callV C hO (n := 1) (As := [jR G r3]) (st1 := [vI r12]) (c_X3_isApart l G r7 r1 r3 (g2.resolve_left c5) (g4.resolve_left c6) hr12) (g2.resolve_left c5) rfl kC_24_15 kM_24_12 kI_24_13 kS_24_14 kN_3_8 ⟨by decide, by decide, by decide⟩ ⟨Nat.le_trans (by decide) hRf, Nat.le_trans (by decide) hRl⟩ rfl rfl rfl hl.1 rfl (Nat.le_of_ble_eq_true rfl) ⟨Nat.zero_le _, Nat.zero_le _⟩ dX9_fair_60 rfl (fun H locs hO => ?_)
          refine j_if_ne (tgt := 69) C rfl dX9_fair_63 (by decide) (fun c13 => ?_) (fun c13 => ?_)
          · have hf := (if_neg c13).symm.trans hf
            refine lv_aload_n C.1 C.2.1 dX9_fair_69 rfl (lv_at hl 2 rfl) ?_
            refine lv_aload_n C.1 C.2.1 dX9_fair_70 rfl (lv_at hl 1 rfl) ?_
            refine lv_aload C.1 C.2.1 dX9_fair_71 (lv_at hl 0 rfl) ?_
            obtain ⟨r14, hr14, hf⟩ := bnd_e hf
            refine j_callV C hO (n := 2) (As := [jR G r1, jR G r3]) (st1 := [vI r14.1]) (c_X9_fairest l G r7 l0 r1 r3 h0 (g2.resolve_left c5) (g4.resolve_left c6) hr14) h0 rfl kC_33_15 kM_33_12 kI_33_13 kS_33_14 kN_1_2 ⟨by decide, by decide, by decide⟩ ⟨Nat.le_trans (by decide) hRf, Nat.le_trans (by decide) hRl⟩ rfl rfl rfl hl.1 rfl (Nat.le_of_ble_eq_true rfl) ⟨Nat.zero_le _, Nat.zero_le _⟩ dX9_fair_73 rfl (fun H locs hO => ?_)
            have hf := som_e hf
            subst hf
            exact j_iret C hO dX9_fair_76
          · have hf := (if_pos c13).symm.trans hf
            refine lv_bipush (v := Int32.ofInt (-3)) C.1 C.2.1 dX9_fair_66 (by decide) ?_
            have hf := som_e hf
            subst hf
            exact j_iret C hO dX9_fair_68
    · have hf := (if_pos c6).symm.trans hf
      refine lv_iconst (v := Int32.ofInt (-1)) C.1 C.2.1 dX9_fair_28 rfl ?_
      have hf := som_e hf
      subst hf
      exact j_iret C hO dX9_fair_29
set_option maxHeartbeats 1000000 in
theorem c_X9_fair (l : Launch) (G : jG)  (M : jM) (l0 l1 l2 : Int) (h0 : jkd l0 = (9, 0)) {fin : Int × jM} (h : f_X9_fair M l0 l1 l2 = some fin) : Met l yX9_fair (Cond.code yX9_fair cX9_fair 5 (some .int) :: wsL_law) ({ frames := 4, cells := 0, slots := 0, locals := 113 } : Room) (va_Pc [jR G l0, vI l1, vI l2] (fun U => jRep G M U)) (jQ G (some (vI fin.1)) fin.2) 0 0 (jA G) := by
  refine Met.ofW (cc := cX9_fair) (maxL := 5) (ret := (some .int)) (by decide) rfl ?_
  intro p e s m args below meth c s₁ B hml hv
  obtain ⟨rfl, hR0⟩ := hv
  have C : jCx p s m ([jR G l0, vI l1, vI l2] : List Value).toArray meth c cX9_fair 5 RX9 (Cond.code yX9_fair cX9_fair 5 (some .int)) (some .int) := ⟨B.exec, B.bytes, hml, findClass_of_methodNamed B.named, atoms_spec B.pre, B.returns, B.notSynchronized⟩
  have hO := hR0.ok
  have hl := lv_entry ([jR G l0, vI l1, vI l2]) (n := 5) (Nat.le_of_ble_eq_true rfl)
  rw [lg_entry_eq]
  generalize (lg_sl ([jR G l0, vI l1, vI l2]) ++ List.replicate (5 - (lg_sl ([jR G l0, vI l1, vI l2])).length) Slot.unset).toArray = ls at hl ⊢
  have hl : lv_has ls 5 [(0, jR G l0), (1, vI l1), (2, vI l2)] := hl
  exact w_X9_fair C (Nat.le_refl _) (Nat.le_refl _) M l0 l1 l2 h0 h hO hl
set_option maxHeartbeats 4000000 in
theorem w_X9_power_L5 {p : Program} {l : Launch} {e : Env} {R : Room} {s : State} {m : MethodId} {args : Array Value} {below : List Frame} {meth : Method} {c : Code} {H : Heap} {locs : List Loc} {ls : Array Slot} {G : jG}  (C : jCx p s m args meth c cX9_power 6 RX9 (Cond.code yX9_power cX9_power 6 (some .long)) (some .long)) (hRf : 0 ≤ R.frames) (hRl : 0 ≤ R.locals)  (M : jM) (l0 l2 : Int) {fin : Int} (S : Int × Int) {rr : (Int × Int) ⊕ Int} (hf : f_X9_power_L5 M l0 l2 S = some rr) (kc : ∀ q : Int × Int, rr = .inl q → ∀ (H : Heap) (locs : List Loc) (ls : Array Slot), jOk G M s H locs → lv_has ls 6 [(0, vL l0), (2, vI l2), (3, vL q.1), (5, vI q.2)] → W p l e R s m args below meth c H locs 0 0 (MQ below (jQ G (some (vL fin)) M) args s 0 0 (jA G)) (F0 m 5 ls [])) (kx0 : ∀ q : Int, rr = .inr q → ∀ (H : Heap) (locs : List Loc) (ls : Array Slot), jOk G M s H locs → lv_has ls 6 [(3, vL q)] → W p l e R s m args below meth c H locs 0 0 (MQ below (jQ G (some (vL fin)) M) args s 0 0 (jA G)) (F0 m 21 ls [])) (hO : jOk G M s H locs) (hl : lv_has ls 6 [(0, vL l0), (2, vI l2), (3, vL S.1), (5, vI S.2)]) : W p l e R s m args below meth c H locs 0 0 (MQ below (jQ G (some (vL fin)) M) args s 0 0 (jA G)) (F0 m 5 ls []) := by
  unfold f_X9_power_L5 at hf
  refine lv_iload C.1 C.2.1 dX9_power_5 (lv_at hl 3 rfl) ?_
  refine lv_iload_n C.1 C.2.1 dX9_power_7 rfl (lv_at hl 1 rfl) ?_
  refine j_icmp_ge (tgt := 21) C rfl rfl dX9_power_8 (by decide) (fun c1 => ?_) (fun c1 => ?_)
  · have hf := (if_pos c1).symm.trans hf
    exact kx0 _ (som_e hf).symm _ _ _ hO (lv_sub hl [2] rfl)
  · have hf := (if_neg c1).symm.trans hf
    refine lv_lload_n C.1 C.2.1 dX9_power_11 rfl (lv_at hl 2 rfl) ?_
    refine lv_lload_n C.1 C.2.1 dX9_power_12 rfl (lv_at hl 0 rfl) ?_
    refine j_lmul C dX9_power_13 ?_
    refine lv_lstore_n (lv' := [(3, vL (S.1 * l0)), (0, vL l0), (2, vI l2), (5, vI S.2)]) C.1 C.2.1 dX9_power_14 rfl hl (by decide) rfl (fun ls hl => ?_)
    refine lv_iinc (v := Int32.ofInt (S.2 + 1)) (lv' := [(5, vI (S.2 + 1)), (3, vL (S.1 * l0)), (0, vL l0), (2, vI l2)]) C.1 C.2.1 dX9_power_15 hl (k := 3) rfl (Int32.ofInt_add _ _).symm (by decide) rfl (fun ls hl => ?_)
    refine lv_goto (tgt := 5) C.1 C.2.1 dX9_power_18 (by decide) ?_
    exact kc _ (som_e hf).symm _ _ _ hO (lv_sub hl [2, 3, 1, 0] rfl)
set_option maxHeartbeats 4000000 in
theorem w_X9_power {p : Program} {l : Launch} {e : Env} {R : Room} {s : State} {m : MethodId} {args : Array Value} {below : List Frame} {meth : Method} {c : Code} {H : Heap} {locs : List Loc} {ls : Array Slot} {G : jG}  (C : jCx p s m args meth c cX9_power 6 RX9 (Cond.code yX9_power cX9_power 6 (some .long)) (some .long)) (hRf : 0 ≤ R.frames) (hRl : 0 ≤ R.locals)  (M : jM) (l0 l2 : Int) {fin : Int} (hf : f_X9_power M l0 l2 = some fin) (hO : jOk G M s H locs) (hl : lv_has ls 6 [(0, vL l0), (2, vI l2)]) : W p l e R s m args below meth c H locs 0 0 (MQ below (jQ G (some (vL fin)) M) args s 0 0 (jA G)) (F0 m 0 ls []) := by
  unfold f_X9_power at hf
  refine lv_lconst (v := Int64.ofInt 1) C.1 C.2.1 dX9_power_0 (by decide) ?_
  refine lv_lstore_n (lv' := [(3, vL 1), (0, vL l0), (2, vI l2)]) C.1 C.2.1 dX9_power_1 rfl hl (by decide) rfl (fun ls hl => ?_)
  refine lv_iconst (v := Int32.ofInt 0) C.1 C.2.1 dX9_power_2 rfl ?_
  refine lv_istore (lv' := [(5, vI 0), (3, vL 1), (0, vL l0), (2, vI l2)]) C.1 C.2.1 dX9_power_3 hl (by decide) rfl (fun ls hl => ?_)
  obtain ⟨x2, hx2, hf⟩ := bnd_e hf
  refine iter_e (P := fun Z => ∀ (H : Heap) (locs : List Loc) (ls : Array Slot), jOk G M s H locs → lv_has ls 6 [(0, vL l0), (2, vI l2), (3, vL Z.1), (5, vI Z.2)] → W p l e R s m args below meth c H locs 0 0 (MQ below (jQ G (some (vL fin)) M) args s 0 0 (jA G)) (F0 m 5 ls [])) (E := fun q => ∀ (H : Heap) (locs : List Loc) (ls : Array Slot), jOk G M s H locs → lv_has ls 6 [(3, vL q)] → W p l e R s m args below meth c H locs 0 0 (MQ below (jQ G (some (vL fin)) M) args s 0 0 (jA G)) (F0 m 21 ls [])) (fun Z rr hb kc kx H locs ls hO hl => w_X9_power_L5 C hRf hRl M l0 l2  Z hb kc (fun q e => kx q e) hO hl) 5000 (1, 0) x2 hx2 ?_ _ _ _ hO (lv_sub hl [2, 3, 1, 0] rfl)
  clear hO hl
  intro H locs ls hO hl
  refine lv_lload_n C.1 C.2.1 dX9_power_21 rfl (lv_at hl 0 rfl) ?_
  have hf := som_e hf
  subst hf
  exact j_lret C hO dX9_power_22
set_option maxHeartbeats 1000000 in
theorem c_X9_power (l : Launch) (G : jG)  (M : jM) (l0 l2 : Int) {fin : Int} (h : f_X9_power M l0 l2 = some fin) : Met l yX9_power (Cond.code yX9_power cX9_power 6 (some .long) :: wsL_law) ({ frames := 0, cells := 0, slots := 0, locals := 0 } : Room) (va_Pc [vL l0, vI l2] (fun U => jRep G M U)) (jQ G (some (vL fin)) M) 0 0 (jA G) := by
  refine Met.ofW (cc := cX9_power) (maxL := 6) (ret := (some .long)) (by decide) rfl ?_
  intro p e s m args below meth c s₁ B hml hv
  obtain ⟨rfl, hR0⟩ := hv
  have C : jCx p s m ([vL l0, vI l2] : List Value).toArray meth c cX9_power 6 RX9 (Cond.code yX9_power cX9_power 6 (some .long)) (some .long) := ⟨B.exec, B.bytes, hml, findClass_of_methodNamed B.named, atoms_spec B.pre, B.returns, B.notSynchronized⟩
  have hO := hR0.ok
  have hl := lv_entry ([vL l0, vI l2]) (n := 6) (Nat.le_of_ble_eq_true rfl)
  rw [lg_entry_eq]
  generalize (lg_sl ([vL l0, vI l2]) ++ List.replicate (6 - (lg_sl ([vL l0, vI l2])).length) Slot.unset).toArray = ls at hl ⊢
  have hl : lv_has ls 6 [(0, vL l0), (2, vI l2)] := hl
  exact w_X9_power C (Nat.le_refl _) (Nat.le_refl _) M l0 l2  h hO hl
