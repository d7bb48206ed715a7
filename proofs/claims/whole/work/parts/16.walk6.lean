set_option maxHeartbeats 4000000 in
theorem w_X9_row {p : Program} {l : Launch} {e : Env} {R : Room} {s : State} {m : MethodId} {args : Array Value} {below : List Frame} {meth : Method} {c : Code} {H : Heap} {locs : List Loc} {ls : Array Slot} {G : jG}  (C : jCx p s m args meth c cX9_row 1 RX9 (Cond.code yX9_row cX9_row 1 (some .int)) (some .int)) (hRf : 1 ≤ R.frames) (hRl : 21 ≤ R.locals)  (M : jM) (l0 : Int) (h0 : jkd l0 = (9, 0)) {fin : Int × jM} (hf : f_X9_row M l0 = some fin) (hO : jOk G M s H locs) (hl : lv_has ls 1 [(0, jR G l0)]) : W p l e R s m args below meth c H locs 0 0 (MQ below (jQ G (some (vI fin.1)) fin.2) args s 0 0 (jA G)) (F0 m 0 ls []) := by
  unfold f_X9_row at hf
  refine lv_aload_n C.1 C.2.1 dX9_row_0 rfl (lv_at hl 0 rfl) ?_
  refine j_get C hO (ci := 9) (k := 0) (v := jR G (jpt l0 0)) h0 rfl inlX9 (by decide) kF_1_15 rfl rfl dX9_row_1 ?_
  refine j_get C hO (ci := 8) (k := 5) (v := jR G (jpt (jpt l0 0) 5)) (tp_9_0 h0) rfl inlX8 (by decide) kF_17_6 rfl rfl dX9_row_4 ?_
  refine j_get C hO (ci := 3) (k := 0) (v := vI (M (jpt (jpt l0 0) 5) 0)) (tp_8_5 (tp_9_0 h0)) rfl inlX3 (by decide) kF_17_10 rfl rfl dX9_row_7 ?_
  refine j_if_ne (tgt := 16) C rfl dX9_row_10 (by decide) (fun c1 => ?_) (fun c1 => ?_)
  · have hf := (if_neg c1).symm.trans hf
    refine lv_aload_n C.1 C.2.1 dX9_row_16 rfl (lv_at hl 0 rfl) ?_
    refine j_get C hO (ci := 9) (k := 0) (v := jR G (jpt l0 0)) h0 rfl inlX9 (by decide) kF_1_15 rfl rfl dX9_row_17 ?_
    refine j_get C hO (ci := 8) (k := 7) (v := vI (M (jpt l0 0) 7)) (tp_9_0 h0) rfl inlX8 (by decide) kF_18_5 rfl rfl dX9_row_20 ?_
    refine lv_bipush (v := Int32.ofInt 6) C.1 C.2.1 dX9_row_23 (by decide) ?_
    refine j_icmp_lt (tgt := 31) C rfl (w32_id (by decide) (by decide)) dX9_row_25 (by decide) (fun c2 => ?_) (fun c2 => ?_)
    · have hf := (if_pos c2).symm.trans hf
      refine lv_aload_n C.1 C.2.1 dX9_row_31 rfl (lv_at hl 0 rfl) ?_
      refine j_get C hO (ci := 9) (k := 0) (v := jR G (jpt l0 0)) h0 rfl inlX9 (by decide) kF_1_15 rfl rfl dX9_row_32 ?_
      refine j_get C hO (ci := 8) (k := 6) (v := jR G (jpt (jpt l0 0) 6)) (tp_9_0 h0) rfl inlX8 (by decide) kF_18_6 rfl rfl dX9_row_35 ?_
      refine lv_aload_n C.1 C.2.1 dX9_row_38 rfl (lv_at hl 0 rfl) ?_
      refine j_get C hO (ci := 9) (k := 0) (v := jR G (jpt l0 0)) h0 rfl inlX9 (by decide) kF_1_15 rfl rfl dX9_row_39 ?_
      refine j_get C hO (ci := 8) (k := 7) (v := vI (M (jpt l0 0) 7)) (tp_9_0 h0) rfl inlX8 (by decide) kF_18_5 rfl rfl dX9_row_42 ?_
      obtain ⟨g3, hf⟩ := grd_e hf
      refine j_aald C hO (tp_8_6 (tp_9_0 h0)) rfl g3.1 g3.2 dX9_row_45 ?_
      refine lv_aload_n C.1 C.2.1 dX9_row_46 rfl (lv_at hl 0 rfl) ?_
      refine j_get C hO (ci := 9) (k := 0) (v := jR G (jpt l0 0)) h0 rfl inlX9 (by decide) kF_1_15 rfl rfl dX9_row_47 ?_
      refine j_get C hO (ci := 8) (k := 5) (v := jR G (jpt (jpt l0 0) 5)) (tp_9_0 h0) rfl inlX8 (by decide) kF_17_6 rfl rfl dX9_row_50 ?_
      obtain ⟨r4, hr4, hf⟩ := bnd_e hf
      refine j_callV C hO (n := 1) (As := [jR G (jpt (jpt l0 0) 5)]) (st1 := []) (c_X3_copy l G M (jpt (jpt (jpt l0 0) 6) (w32 (M (jpt l0 0) 7))) (jpt (jpt l0 0) 5) (tpo_6 (tp_8_6 (tp_9_0 h0)) g3.1 g3.2) (tp_8_5 (tp_9_0 h0)) hr4) (tpo_6 (tp_8_6 (tp_9_0 h0)) g3.1 g3.2) rfl kC_18_10 kM_18_7 kI_18_8 kS_18_9 kN_3_8 ⟨by decide, by decide, by decide⟩ ⟨Nat.le_trans (by decide) hRf, Nat.le_trans (by decide) hRl⟩ rfl rfl rfl hl.1 rfl (Nat.le_of_ble_eq_true rfl) ⟨Nat.zero_le _, Nat.zero_le _⟩ dX9_row_53 rfl (fun H locs hO => ?_)
      refine lv_aload_n C.1 C.2.1 dX9_row_56 rfl (lv_at hl 0 rfl) ?_
      refine j_get C hO (ci := 9) (k := 0) (v := jR G (jpt l0 0)) h0 rfl inlX9 (by decide) kF_1_15 rfl rfl dX9_row_57 ?_
      refine j_get C hO (ci := 8) (k := 5) (v := jR G (jpt (jpt l0 0) 5)) (tp_9_0 h0) rfl inlX8 (by decide) kF_17_6 rfl rfl dX9_row_60 ?_
      refine lv_iconst (v := Int32.ofInt 0) C.1 C.2.1 dX9_row_63 rfl ?_
      obtain ⟨r5, hr5, hf⟩ := bnd_e hf
      refine j_callV C hO (n := 1) (As := [vI 0]) (st1 := []) (c_X3_zeros l G r4 (jpt (jpt l0 0) 5) 0 (tp_8_5 (tp_9_0 h0)) hr5) (tp_8_5 (tp_9_0 h0)) rfl kC_17_14 kM_17_11 kI_17_12 kS_17_13 kN_3_8 ⟨by decide, by decide, by decide⟩ ⟨Nat.le_trans (by decide) hRf, Nat.le_trans (by decide) hRl⟩ rfl rfl rfl hl.1 rfl (Nat.le_of_ble_eq_true rfl) ⟨Nat.zero_le _, Nat.zero_le _⟩ dX9_row_64 rfl (fun H locs hO => ?_)
      refine lv_aload_n C.1 C.2.1 dX9_row_67 rfl (lv_at hl 0 rfl) ?_
      refine j_get C hO (ci := 9) (k := 0) (v := jR G (jpt l0 0)) h0 rfl inlX9 (by decide) kF_1_15 rfl rfl dX9_row_68 ?_
      refine lv_dup C.1 C.2.1 dX9_row_71 rfl ?_
      refine j_get C hO (ci := 8) (k := 7) (v := vI (r5 (jpt l0 0) 7)) (tp_9_0 h0) rfl inlX8 (by decide) kF_18_5 rfl rfl dX9_row_72 ?_
      refine lv_iconst (v := Int32.ofInt 1) C.1 C.2.1 dX9_row_75 rfl ?_
      refine j_iadd C dX9_row_76 ?_
      obtain ⟨M6, hM6, hf⟩ := lt1_e hf
      refine j_put C hO (ci := 8) (k := 7) (x := (r5 (jpt l0 0) 7) + 1) (tp_9_0 h0) rfl inlX8 tyX8_ok nmX8 (by decide) kF_18_5 rfl rfl rfl rfl (by simp [jfl]) (fs_8_7) dX9_row_77 (fun H locs hO => ?_)
      rw [← hM6] at hO
      refine lv_aload_n C.1 C.2.1 dX9_row_80 rfl (lv_at hl 0 rfl) ?_
      refine j_get C hO (ci := 9) (k := 0) (v := jR G (jpt l0 0)) h0 rfl inlX9 (by decide) kF_1_15 rfl rfl dX9_row_81 ?_
      refine j_get C hO (ci := 8) (k := 7) (v := vI (M6 (jpt l0 0) 7)) (tp_9_0 h0) rfl inlX8 (by decide) kF_18_5 rfl rfl dX9_row_84 ?_
      refine lv_iconst (v := Int32.ofInt 1) C.1 C.2.1 dX9_row_87 rfl ?_
      refine j_isub C dX9_row_88 ?_
      have hf := som_e hf
      subst hf
      exact j_iret C hO dX9_row_89
    · have hf := (if_neg c2).symm.trans hf
      refine lv_bipush (v := Int32.ofInt (-4)) C.1 C.2.1 dX9_row_28 (by decide) ?_
      have hf := som_e hf
      subst hf
      exact j_iret C hO dX9_row_30
  · have hf := (if_pos c1).symm.trans hf
    refine lv_bipush (v := Int32.ofInt (-3)) C.1 C.2.1 dX9_row_13 (by decide) ?_
    have hf := som_e hf
    subst hf
    exact j_iret C hO dX9_row_15
set_option maxHeartbeats 1000000 in
theorem c_X9_row (l : Launch) (G : jG)  (M : jM) (l0 : Int) (h0 : jkd l0 = (9, 0)) {fin : Int × jM} (h : f_X9_row M l0 = some fin) : Met l yX9_row (Cond.code yX9_row cX9_row 1 (some .int) :: wsL_law) ({ frames := 1, cells := 0, slots := 0, locals := 21 } : Room) (va_Pc [jR G l0] (fun U => jRep G M U)) (jQ G (some (vI fin.1)) fin.2) 0 0 (jA G) := by
  refine Met.ofW (cc := cX9_row) (maxL := 1) (ret := (some .int)) (by decide) rfl ?_
  intro p e s m args below meth c s₁ B hml hv
  obtain ⟨rfl, hR0⟩ := hv
  have C : jCx p s m ([jR G l0] : List Value).toArray meth c cX9_row 1 RX9 (Cond.code yX9_row cX9_row 1 (some .int)) (some .int) := ⟨B.exec, B.bytes, hml, findClass_of_methodNamed B.named, atoms_spec B.pre, B.returns, B.notSynchronized⟩
  have hO := hR0.ok
  have hl := lv_entry ([jR G l0]) (n := 1) (Nat.le_of_ble_eq_true rfl)
  rw [lg_entry_eq]
  generalize (lg_sl ([jR G l0]) ++ List.replicate (1 - (lg_sl ([jR G l0])).length) Slot.unset).toArray = ls at hl ⊢
  have hl : lv_has ls 1 [(0, jR G l0)] := hl
  exact w_X9_row C (Nat.le_refl _) (Nat.le_refl _) M l0 h0 h hO hl
set_option maxHeartbeats 4000000 in
theorem w_X9_partOfRow {p : Program} {l : Launch} {e : Env} {R : Room} {s : State} {m : MethodId} {args : Array Value} {below : List Frame} {meth : Method} {c : Code} {H : Heap} {locs : List Loc} {ls : Array Slot} {G : jG}  (C : jCx p s m args meth c cX9_partOfRow 2 RX9 (Cond.code yX9_partOfRow cX9_partOfRow 2 (some .int)) (some .int)) (hRf : 1 ≤ R.frames) (hRl : 21 ≤ R.locals)  (M : jM) (l0 l1 : Int) (h0 : l0 < 0 ∨ jkd l0 = (3, 0)) {fin : Int} (hf : f_X9_partOfRow M l0 l1 = some fin) (hO : jOk G M s H locs) (hl : lv_has ls 2 [(0, jN G l0), (1, vI l1)]) : W p l e R s m args below meth c H locs 0 0 (MQ below (jQ G (some (vI fin)) M) args s 0 0 (jA G)) (F0 m 0 ls []) := by
  unfold f_X9_partOfRow at hf
  refine j_aloadN_n C dX9_partOfRow_0 rfl (lv_at hl 0 rfl) ?_
  refine j_ifnonnull (tgt := 6) C dX9_partOfRow_1 (by decide) (fun c1 => ?_) (fun c1 => ?_)
  · have hf := (if_neg c1).symm.trans hf
    rw [jN_p (Int.not_lt.mp c1)] at hl
    refine lv_iload_n C.1 C.2.1 dX9_partOfRow_6 rfl (lv_at hl 1 rfl) ?_
    refine lv_iconst (v := Int32.ofInt (-1)) C.1 C.2.1 dX9_partOfRow_7 rfl ?_
    refine j_icmp_ne (tgt := 18) C rfl (w32_id (by decide) (by decide)) dX9_partOfRow_8 (by decide) (fun c2 => ?_) (fun c2 => ?_)
    · have hf := (if_neg c2).symm.trans hf
      refine lv_aload_n C.1 C.2.1 dX9_partOfRow_18 rfl (lv_at hl 0 rfl) ?_
      refine lv_iload_n C.1 C.2.1 dX9_partOfRow_19 rfl (lv_at hl 1 rfl) ?_
      obtain ⟨r3, hr3, hf⟩ := bnd_e hf
      refine j_callV C hO (n := 1) (As := [vI l1]) (st1 := [vI r3]) (c_X3_signAt l G M l0 l1 (h0.resolve_left c1) hr3) (h0.resolve_left c1) rfl kC_19_6 kM_19_3 kI_19_4 kS_19_5 kN_3_8 ⟨by decide, by decide, by decide⟩ ⟨Nat.le_trans (by decide) hRf, Nat.le_trans (by decide) hRl⟩ rfl rfl rfl hl.1 rfl (Nat.le_of_ble_eq_true rfl) ⟨Nat.zero_le _, Nat.zero_le _⟩ dX9_partOfRow_20 rfl (fun H locs hO => ?_)
      have hf := som_e hf
      subst hf
      exact j_iret C hO dX9_partOfRow_23
    · have hf := (if_pos c2).symm.trans hf
      refine lv_aload_n C.1 C.2.1 dX9_partOfRow_11 rfl (lv_at hl 0 rfl) ?_
      refine j_get C hO (ci := 3) (k := 0) (v := vI (M l0 0)) (h0.resolve_left c1) rfl inlX3 (by decide) kF_17_10 rfl rfl dX9_partOfRow_12 ?_
      refine lv_goto (tgt := 23) C.1 C.2.1 dX9_partOfRow_15 (by decide) ?_
      have hf := som_e hf
      subst hf
      exact j_iret C hO dX9_partOfRow_23
  · have hf := (if_pos c1).symm.trans hf
    refine lv_iconst (v := Int32.ofInt (-1)) C.1 C.2.1 dX9_partOfRow_4 rfl ?_
    have hf := som_e hf
    subst hf
    exact j_iret C hO dX9_partOfRow_5
set_option maxHeartbeats 1000000 in
theorem c_X9_partOfRow (l : Launch) (G : jG)  (M : jM) (l0 l1 : Int) (h0 : l0 < 0 ∨ jkd l0 = (3, 0)) {fin : Int} (h : f_X9_partOfRow M l0 l1 = some fin) : Met l yX9_partOfRow (Cond.code yX9_partOfRow cX9_partOfRow 2 (some .int) :: wsL_law) ({ frames := 1, cells := 0, slots := 0, locals := 21 } : Room) (va_Pc [jN G l0, vI l1] (fun U => jRep G M U)) (jQ G (some (vI fin)) M) 0 0 (jA G) := by
  by_cases hn : l0 < 0
  · have en := jN_n (G := G) hn
    rw [en]
    have h0' := h0
    refine Met.ofW (cc := cX9_partOfRow) (maxL := 2) (ret := (some .int)) (by decide) rfl ?_
    intro p e s m args below meth c s₁ B hml hv
    obtain ⟨rfl, hR0⟩ := hv
    have C : jCx p s m ([.null, vI l1] : List Value).toArray meth c cX9_partOfRow 2 RX9 (Cond.code yX9_partOfRow cX9_partOfRow 2 (some .int)) (some .int) := ⟨B.exec, B.bytes, hml, findClass_of_methodNamed B.named, atoms_spec B.pre, B.returns, B.notSynchronized⟩
    have hO := hR0.ok
    have hl := lv_entry ([.null, vI l1]) (n := 2) (Nat.le_of_ble_eq_true rfl)
    rw [lg_entry_eq]
    generalize (lg_sl ([.null, vI l1]) ++ List.replicate (2 - (lg_sl ([.null, vI l1])).length) Slot.unset).toArray = ls at hl ⊢
    have hl : lv_has ls 2 [(0, jN G l0), (1, vI l1)] := by rw [en]; exact hl
    exact w_X9_partOfRow C (Nat.le_refl _) (Nat.le_refl _) M l0 l1 h0 h hO hl
  · have en := jN_p (G := G) (Int.not_lt.mp hn)
    rw [en]
    refine Met.ofW (cc := cX9_partOfRow) (maxL := 2) (ret := (some .int)) (by decide) rfl ?_
    intro p e s m args below meth c s₁ B hml hv
    obtain ⟨rfl, hR0⟩ := hv
    have C : jCx p s m ([jR G l0, vI l1] : List Value).toArray meth c cX9_partOfRow 2 RX9 (Cond.code yX9_partOfRow cX9_partOfRow 2 (some .int)) (some .int) := ⟨B.exec, B.bytes, hml, findClass_of_methodNamed B.named, atoms_spec B.pre, B.returns, B.notSynchronized⟩
    have hO := hR0.ok
    have hl := lv_entry ([jR G l0, vI l1]) (n := 2) (Nat.le_of_ble_eq_true rfl)
    rw [lg_entry_eq]
    generalize (lg_sl ([jR G l0, vI l1]) ++ List.replicate (2 - (lg_sl ([jR G l0, vI l1])).length) Slot.unset).toArray = ls at hl ⊢
    have hl : lv_has ls 2 [(0, jN G l0), (1, vI l1)] := by rw [en]; exact hl
    exact w_X9_partOfRow C (Nat.le_refl _) (Nat.le_refl _) M l0 l1 h0 h hO hl
set_option maxHeartbeats 4000000 in
theorem w_X9_of {p : Program} {l : Launch} {e : Env} {R : Room} {s : State} {m : MethodId} {args : Array Value} {below : List Frame} {meth : Method} {c : Code} {H : Heap} {locs : List Loc} {ls : Array Slot} {G : jG}  (C : jCx p s m args meth c cX9_of 3 RX9 (Cond.code yX9_of cX9_of 3 (some .int)) (some .int)) (hRf : 2 ≤ R.frames) (hRl : 42 ≤ R.locals)  (M : jM) (l0 l1 l2 : Int) (h0 : jkd l0 = (9, 0)) {fin : Int} (hf : f_X9_of M l0 l1 l2 = some fin) (hO : jOk G M s H locs) (hl : lv_has ls 3 [(0, jR G l0), (1, vI l1), (2, vI l2)]) : W p l e R s m args below meth c H locs 0 0 (MQ below (jQ G (some (vI fin)) M) args s 0 0 (jA G)) (F0 m 0 ls []) := by
  unfold f_X9_of at hf
  refine lv_aload_n C.1 C.2.1 dX9_of_0 rfl (lv_at hl 0 rfl) ?_
  refine j_get C hO (ci := 9) (k := 0) (v := jR G (jpt l0 0)) h0 rfl inlX9 (by decide) kF_1_15 rfl rfl dX9_of_1 ?_
  refine lv_iload_n C.1 C.2.1 dX9_of_4 rfl (lv_at hl 1 rfl) ?_
  obtain ⟨r1, hr1, hf⟩ := bnd_e hf
  obtain ⟨g2, hf⟩ := grd_e hf
  refine j_callV C hO (n := 1) (As := [vI l1]) (st1 := [jN G r1]) (c_X8_rowAt l G M (jpt l0 0) l1 (tp_9_0 h0) hr1) (tp_9_0 h0) rfl kC_18_22 kM_18_19 kI_18_20 kS_18_21 kN_1_14 ⟨by decide, by decide, by decide⟩ ⟨Nat.le_trans (by decide) hRf, Nat.le_trans (by decide) hRl⟩ rfl rfl rfl hl.1 rfl (Nat.le_of_ble_eq_true rfl) ⟨Nat.zero_le _, Nat.zero_le _⟩ dX9_of_5 rfl (fun H locs hO => ?_)
  refine lv_iload_n C.1 C.2.1 dX9_of_8 rfl (lv_at hl 2 rfl) ?_
  obtain ⟨r3, hr3, hf⟩ := bnd_e hf
  refine j_callS C hO (n := 2) (As := [jN G r1, vI l2]) (st1 := [vI r3]) (c_X9_partOfRow l G M r1 l2 g2 hr3) kC_19_2 kM_19_0 kT_19_1 kN_1_2 ⟨by decide, by decide, by decide⟩ ⟨Nat.le_trans (by decide) hRf, Nat.le_trans (by decide) hRl⟩ rfl rfl rfl hl.1 rfl (Nat.le_of_ble_eq_true rfl) ⟨Nat.zero_le _, Nat.zero_le _⟩ dX9_of_9 rfl (fun H locs hO => ?_)
  have hf := som_e hf
  subst hf
  exact j_iret C hO dX9_of_12
set_option maxHeartbeats 1000000 in
theorem c_X9_of (l : Launch) (G : jG)  (M : jM) (l0 l1 l2 : Int) (h0 : jkd l0 = (9, 0)) {fin : Int} (h : f_X9_of M l0 l1 l2 = some fin) : Met l yX9_of (Cond.code yX9_of cX9_of 3 (some .int) :: wsL_law) ({ frames := 2, cells := 0, slots := 0, locals := 42 } : Room) (va_Pc [jR G l0, vI l1, vI l2] (fun U => jRep G M U)) (jQ G (some (vI fin)) M) 0 0 (jA G) := by
  refine Met.ofW (cc := cX9_of) (maxL := 3) (ret := (some .int)) (by decide) rfl ?_
  intro p e s m args below meth c s₁ B hml hv
  obtain ⟨rfl, hR0⟩ := hv
  have C : jCx p s m ([jR G l0, vI l1, vI l2] : List Value).toArray meth c cX9_of 3 RX9 (Cond.code yX9_of cX9_of 3 (some .int)) (some .int) := ⟨B.exec, B.bytes, hml, findClass_of_methodNamed B.named, atoms_spec B.pre, B.returns, B.notSynchronized⟩
  have hO := hR0.ok
  have hl := lv_entry ([jR G l0, vI l1, vI l2]) (n := 3) (Nat.le_of_ble_eq_true rfl)
  rw [lg_entry_eq]
  generalize (lg_sl ([jR G l0, vI l1, vI l2]) ++ List.replicate (3 - (lg_sl ([jR G l0, vI l1, vI l2])).length) Slot.unset).toArray = ls at hl ⊢
  have hl : lv_has ls 3 [(0, jR G l0), (1, vI l1), (2, vI l2)] := hl
  exact w_X9_of C (Nat.le_refl _) (Nat.le_refl _) M l0 l1 l2 h0 h hO hl
set_option maxHeartbeats 4000000 in
theorem w_X9_player {p : Program} {l : Launch} {e : Env} {R : Room} {s : State} {m : MethodId} {args : Array Value} {below : List Frame} {meth : Method} {c : Code} {H : Heap} {locs : List Loc} {ls : Array Slot} {G : jG}  (C : jCx p s m args meth c cX9_player 3 RX9 (Cond.code yX9_player cX9_player 3 (some .int)) (some .int)) (hRf : 1 ≤ R.frames) (hRl : 22 ≤ R.locals)  (M : jM) (l0 l1 l2 : Int) (h0 : jkd l0 = (9, 0)) {fin : Int × jM} (hf : f_X9_player M l0 l1 l2 = some fin) (hO : jOk G M s H locs) (hl : lv_has ls 3 [(0, jR G l0), (1, vI l1), (2, vI l2)]) : W p l e R s m args below meth c H locs 0 0 (MQ below (jQ G (some (vI fin.1)) fin.2) args s 0 0 (jA G)) (F0 m 0 ls []) := by
  unfold f_X9_player at hf
  refine lv_iload_n C.1 C.2.1 dX9_player_0 rfl (lv_at hl 1 rfl) ?_
  refine j_if_lt (tgt := 10) C rfl dX9_player_1 (by decide) (fun c1 => ?_) (fun c1 => ?_)
  · have hf := (if_pos c1).symm.trans hf
    refine lv_iconst (v := Int32.ofInt (-1)) C.1 C.2.1 dX9_player_10 rfl ?_
    have hf := som_e hf
    subst hf
    exact j_iret C hO dX9_player_11
  · have hf := (if_neg c1).symm.trans hf
    refine lv_iload_n C.1 C.2.1 dX9_player_4 rfl (lv_at hl 1 rfl) ?_
    refine lv_bipush (v := Int32.ofInt 7) C.1 C.2.1 dX9_player_5 (by decide) ?_
    refine j_icmp_lt (tgt := 12) C rfl (w32_id (by decide) (by decide)) dX9_player_7 (by decide) (fun c2 => ?_) (fun c2 => ?_)
    · have hf := (if_pos c2).symm.trans hf
      refine lv_iload_n C.1 C.2.1 dX9_player_12 rfl (lv_at hl 2 rfl) ?_
      refine j_if_lt (tgt := 22) C rfl dX9_player_13 (by decide) (fun c3 => ?_) (fun c3 => ?_)
      · have hf := (if_pos c3).symm.trans hf
        refine lv_bipush (v := Int32.ofInt (-2)) C.1 C.2.1 dX9_player_22 (by decide) ?_
        have hf := som_e hf
        subst hf
        exact j_iret C hO dX9_player_24
      · have hf := (if_neg c3).symm.trans hf
        refine lv_iload_n C.1 C.2.1 dX9_player_16 rfl (lv_at hl 2 rfl) ?_
        refine lv_bipush (v := Int32.ofInt 9) C.1 C.2.1 dX9_player_17 (by decide) ?_
        refine j_icmp_le (tgt := 25) C rfl (w32_id (by decide) (by decide)) dX9_player_19 (by decide) (fun c4 => ?_) (fun c4 => ?_)
        · have hf := (if_pos c4).symm.trans hf
          refine lv_aload_n C.1 C.2.1 dX9_player_25 rfl (lv_at hl 0 rfl) ?_
          refine j_get C hO (ci := 9) (k := 0) (v := jR G (jpt l0 0)) h0 rfl inlX9 (by decide) kF_1_15 rfl rfl dX9_player_26 ?_
          refine lv_iload_n C.1 C.2.1 dX9_player_29 rfl (lv_at hl 1 rfl) ?_
          refine lv_iload_n C.1 C.2.1 dX9_player_30 rfl (lv_at hl 2 rfl) ?_
          obtain ⟨r5, hr5, hf⟩ := bnd_e hf
          refine j_callV C hO (n := 2) (As := [vI l1, vI l2]) (st1 := [vI r5.1]) (c_X8_addPlayer l G M (jpt l0 0) l1 l2 (tp_9_0 h0) hr5) (tp_9_0 h0) rfl kC_19_23 kM_19_20 kI_19_21 kS_19_22 kN_1_14 ⟨by decide, by decide, by decide⟩ ⟨Nat.le_trans (by decide) hRf, Nat.le_trans (by decide) hRl⟩ rfl rfl rfl hl.1 rfl (Nat.le_of_ble_eq_true rfl) ⟨Nat.zero_le _, Nat.zero_le _⟩ dX9_player_31 rfl (fun H locs hO => ?_)
          refine j_if_eq (tgt := 49) C rfl dX9_player_34 (by decide) (fun c6 => ?_) (fun c6 => ?_)
          · have hf := (if_pos c6).symm.trans hf
            refine lv_bipush (v := Int32.ofInt (-4)) C.1 C.2.1 dX9_player_49 (by decide) ?_
            have hf := som_e hf
            subst hf
            exact j_iret C hO dX9_player_51
          · have hf := (if_neg c6).symm.trans hf
            refine lv_aload_n C.1 C.2.1 dX9_player_37 rfl (lv_at hl 0 rfl) ?_
            refine j_get C hO (ci := 9) (k := 0) (v := jR G (jpt l0 0)) h0 rfl inlX9 (by decide) kF_1_15 rfl rfl dX9_player_38 ?_
            refine j_get C hO (ci := 8) (k := 11) (v := vI (r5.2 (jpt l0 0) 11)) (tp_9_0 h0) rfl inlX8 (by decide) kF_19_19 rfl rfl dX9_player_41 ?_
            refine lv_iconst (v := Int32.ofInt 1) C.1 C.2.1 dX9_player_44 rfl ?_
            refine j_isub C dX9_player_45 ?_
            refine lv_goto (tgt := 51) C.1 C.2.1 dX9_player_46 (by decide) ?_
            have hf := som_e hf
            subst hf
            exact j_iret C hO dX9_player_51
        · have hf := (if_neg c4).symm.trans hf
          refine lv_bipush (v := Int32.ofInt (-2)) C.1 C.2.1 dX9_player_22 (by decide) ?_
          have hf := som_e hf
          subst hf
          exact j_iret C hO dX9_player_24
    · have hf := (if_neg c2).symm.trans hf
      refine lv_iconst (v := Int32.ofInt (-1)) C.1 C.2.1 dX9_player_10 rfl ?_
      have hf := som_e hf
      subst hf
      exact j_iret C hO dX9_player_11
set_option maxHeartbeats 1000000 in
theorem c_X9_player (l : Launch) (G : jG)  (M : jM) (l0 l1 l2 : Int) (h0 : jkd l0 = (9, 0)) {fin : Int × jM} (h : f_X9_player M l0 l1 l2 = some fin) : Met l yX9_player (Cond.code yX9_player cX9_player 3 (some .int) :: wsL_law) ({ frames := 1, cells := 0, slots := 0, locals := 22 } : Room) (va_Pc [jR G l0, vI l1, vI l2] (fun U => jRep G M U)) (jQ G (some (vI fin.1)) fin.2) 0 0 (jA G) := by
  refine Met.ofW (cc := cX9_player) (maxL := 3) (ret := (some .int)) (by decide) rfl ?_
  intro p e s m args below meth c s₁ B hml hv
  obtain ⟨rfl, hR0⟩ := hv
  have C : jCx p s m ([jR G l0, vI l1, vI l2] : List Value).toArray meth c cX9_player 3 RX9 (Cond.code yX9_player cX9_player 3 (some .int)) (some .int) := ⟨B.exec, B.bytes, hml, findClass_of_methodNamed B.named, atoms_spec B.pre, B.returns, B.notSynchronized⟩
  have hO := hR0.ok
  have hl := lv_entry ([jR G l0, vI l1, vI l2]) (n := 3) (Nat.le_of_ble_eq_true rfl)
  rw [lg_entry_eq]
  generalize (lg_sl ([jR G l0, vI l1, vI l2]) ++ List.replicate (3 - (lg_sl ([jR G l0, vI l1, vI l2])).length) Slot.unset).toArray = ls at hl ⊢
  have hl : lv_has ls 3 [(0, jR G l0), (1, vI l1), (2, vI l2)] := hl
  exact w_X9_player C (Nat.le_refl _) (Nat.le_refl _) M l0 l1 l2 h0 h hO hl
set_option maxHeartbeats 4000000 in
theorem w_X9_own {p : Program} {l : Launch} {e : Env} {R : Room} {s : State} {m : MethodId} {args : Array Value} {below : List Frame} {meth : Method} {c : Code} {H : Heap} {locs : List Loc} {ls : Array Slot} {G : jG}  (C : jCx p s m args meth c cX9_own 2 RX9 (Cond.code yX9_own cX9_own 2 (some .int)) (some .int)) (hRf : 1 ≤ R.frames) (hRl : 21 ≤ R.locals)  (M : jM) (l0 l1 : Int) (h0 : jkd l0 = (9, 0)) {fin : Int × jM} (hf : f_X9_own M l0 l1 = some fin) (hO : jOk G M s H locs) (hl : lv_has ls 2 [(0, jR G l0), (1, vI l1)]) : W p l e R s m args below meth c H locs 0 0 (MQ below (jQ G (some (vI fin.1)) fin.2) args s 0 0 (jA G)) (F0 m 0 ls []) := by
  unfold f_X9_own at hf
  refine lv_aload_n C.1 C.2.1 dX9_own_0 rfl (lv_at hl 0 rfl) ?_
  refine j_get C hO (ci := 9) (k := 0) (v := jR G (jpt l0 0)) h0 rfl inlX9 (by decide) kF_1_15 rfl rfl dX9_own_1 ?_
  refine lv_iload_n C.1 C.2.1 dX9_own_4 rfl (lv_at hl 1 rfl) ?_
  obtain ⟨r1, hr1, hf⟩ := bnd_e hf
  refine j_callV C hO (n := 1) (As := [vI l1]) (st1 := [vI r1]) (c_X8_hasPlayer l G M (jpt l0 0) l1 (tp_9_0 h0) hr1) (tp_9_0 h0) rfl kC_20_14 kM_20_11 kI_20_12 kS_20_13 kN_1_14 ⟨by decide, by decide, by decide⟩ ⟨Nat.le_trans (by decide) hRf, Nat.le_trans (by decide) hRl⟩ rfl rfl rfl hl.1 rfl (Nat.le_of_ble_eq_true rfl) ⟨Nat.zero_le _, Nat.zero_le _⟩ dX9_own_5 rfl (fun H locs hO => ?_)
  refine j_if_ne (tgt := 13) C rfl dX9_own_8 (by decide) (fun c2 => ?_) (fun c2 => ?_)
  · have hf := (if_neg c2).symm.trans hf
    refine lv_aload_n C.1 C.2.1 dX9_own_13 rfl (lv_at hl 0 rfl) ?_
    refine j_get C hO (ci := 9) (k := 0) (v := jR G (jpt l0 0)) h0 rfl inlX9 (by decide) kF_1_15 rfl rfl dX9_own_14 ?_
    refine j_get C hO (ci := 8) (k := 8) (v := jR G (jpt (jpt l0 0) 8)) (tp_9_0 h0) rfl inlX8 (by decide) kF_20_9 rfl rfl dX9_own_17 ?_
    refine lv_iload_n C.1 C.2.1 dX9_own_20 rfl (lv_at hl 1 rfl) ?_
    obtain ⟨g3, hf⟩ := grd_e hf
    refine j_iald C hO (tp_8_8 (tp_9_0 h0)) rfl g3.1 g3.2 dX9_own_21 ?_
    refine lv_bipush (v := Int32.ofInt 6) C.1 C.2.1 dX9_own_22 (by decide) ?_
    refine j_icmp_eq (tgt := 30) C rfl (w32_id (by decide) (by decide)) dX9_own_24 (by decide) (fun c4 => ?_) (fun c4 => ?_)
    · have hf := (if_pos c4).symm.trans hf
      refine lv_aload_n C.1 C.2.1 dX9_own_30 rfl (lv_at hl 0 rfl) ?_
      refine j_get C hO (ci := 9) (k := 0) (v := jR G (jpt l0 0)) h0 rfl inlX9 (by decide) kF_1_15 rfl rfl dX9_own_31 ?_
      refine j_get C hO (ci := 8) (k := 10) (v := jR G (jpt (jpt l0 0) 10)) (tp_9_0 h0) rfl inlX8 (by decide) kF_20_10 rfl rfl dX9_own_34 ?_
      refine lv_iload_n C.1 C.2.1 dX9_own_37 rfl (lv_at hl 1 rfl) ?_
      obtain ⟨g5, hf⟩ := grd_e hf
      refine j_aald C hO (tp_8_10 (tp_9_0 h0)) rfl g5.1 g5.2 dX9_own_38 ?_
      refine lv_aload_n C.1 C.2.1 dX9_own_39 rfl (lv_at hl 0 rfl) ?_
      refine j_get C hO (ci := 9) (k := 0) (v := jR G (jpt l0 0)) h0 rfl inlX9 (by decide) kF_1_15 rfl rfl dX9_own_40 ?_
      refine j_get C hO (ci := 8) (k := 5) (v := jR G (jpt (jpt l0 0) 5)) (tp_9_0 h0) rfl inlX8 (by decide) kF_17_6 rfl rfl dX9_own_43 ?_
      obtain ⟨r6, hr6, hf⟩ := bnd_e hf
      refine j_callV C hO (n := 1) (As := [jR G (jpt (jpt l0 0) 5)]) (st1 := []) (c_X3_copy l G M (jpt (jpt (jpt l0 0) 10) (w32 l1)) (jpt (jpt l0 0) 5) (tpo_4 (tp_8_10 (tp_9_0 h0)) g5.1 g5.2) (tp_8_5 (tp_9_0 h0)) hr6) (tpo_4 (tp_8_10 (tp_9_0 h0)) g5.1 g5.2) rfl kC_18_10 kM_18_7 kI_18_8 kS_18_9 kN_3_8 ⟨by decide, by decide, by decide⟩ ⟨Nat.le_trans (by decide) hRf, Nat.le_trans (by decide) hRl⟩ rfl rfl rfl hl.1 rfl (Nat.le_of_ble_eq_true rfl) ⟨Nat.zero_le _, Nat.zero_le _⟩ dX9_own_46 rfl (fun H locs hO => ?_)
      refine lv_aload_n C.1 C.2.1 dX9_own_49 rfl (lv_at hl 0 rfl) ?_
      refine j_get C hO (ci := 9) (k := 0) (v := jR G (jpt l0 0)) h0 rfl inlX9 (by decide) kF_1_15 rfl rfl dX9_own_50 ?_
      refine j_get C hO (ci := 8) (k := 5) (v := jR G (jpt (jpt l0 0) 5)) (tp_9_0 h0) rfl inlX8 (by decide) kF_17_6 rfl rfl dX9_own_53 ?_
      refine lv_iconst (v := Int32.ofInt 0) C.1 C.2.1 dX9_own_56 rfl ?_
      obtain ⟨r7, hr7, hf⟩ := bnd_e hf
      refine j_callV C hO (n := 1) (As := [vI 0]) (st1 := []) (c_X3_zeros l G r6 (jpt (jpt l0 0) 5) 0 (tp_8_5 (tp_9_0 h0)) hr7) (tp_8_5 (tp_9_0 h0)) rfl kC_17_14 kM_17_11 kI_17_12 kS_17_13 kN_3_8 ⟨by decide, by decide, by decide⟩ ⟨Nat.le_trans (by decide) hRf, Nat.le_trans (by decide) hRl⟩ rfl rfl rfl hl.1 rfl (Nat.le_of_ble_eq_true rfl) ⟨Nat.zero_le _, Nat.zero_le _⟩ dX9_own_57 rfl (fun H locs hO => ?_)
      refine lv_aload_n C.1 C.2.1 dX9_own_60 rfl (lv_at hl 0 rfl) ?_
      refine j_get C hO (ci := 9) (k := 0) (v := jR G (jpt l0 0)) h0 rfl inlX9 (by decide) kF_1_15 rfl rfl dX9_own_61 ?_
      refine j_get C hO (ci := 8) (k := 10) (v := jR G (jpt (jpt l0 0) 10)) (tp_9_0 h0) rfl inlX8 (by decide) kF_20_10 rfl rfl dX9_own_64 ?_
      refine lv_iload_n C.1 C.2.1 dX9_own_67 rfl (lv_at hl 1 rfl) ?_
      obtain ⟨g8, hf⟩ := grd_e hf
      refine j_aald C hO (tp_8_10 (tp_9_0 h0)) rfl g8.1 g8.2 dX9_own_68 ?_
      refine j_get C hO (ci := 3) (k := 0) (v := vI (r7 (jpt (jpt (jpt l0 0) 10) (w32 l1)) 0)) (tpo_4 (tp_8_10 (tp_9_0 h0)) g8.1 g8.2) rfl inlX3 (by decide) kF_17_10 rfl rfl dX9_own_69 ?_
      have hf := som_e hf
      subst hf
      exact j_iret C hO dX9_own_72
    · have hf := (if_neg c4).symm.trans hf
      refine lv_bipush (v := Int32.ofInt (-3)) C.1 C.2.1 dX9_own_27 (by decide) ?_
      have hf := som_e hf
      subst hf
      exact j_iret C hO dX9_own_29
  · have hf := (if_pos c2).symm.trans hf
    refine lv_iconst (v := Int32.ofInt (-1)) C.1 C.2.1 dX9_own_11 rfl ?_
    have hf := som_e hf
    subst hf
    exact j_iret C hO dX9_own_12
set_option maxHeartbeats 1000000 in
theorem c_X9_own (l : Launch) (G : jG)  (M : jM) (l0 l1 : Int) (h0 : jkd l0 = (9, 0)) {fin : Int × jM} (h : f_X9_own M l0 l1 = some fin) : Met l yX9_own (Cond.code yX9_own cX9_own 2 (some .int) :: wsL_law) ({ frames := 1, cells := 0, slots := 0, locals := 21 } : Room) (va_Pc [jR G l0, vI l1] (fun U => jRep G M U)) (jQ G (some (vI fin.1)) fin.2) 0 0 (jA G) := by
  refine Met.ofW (cc := cX9_own) (maxL := 2) (ret := (some .int)) (by decide) rfl ?_
  intro p e s m args below meth c s₁ B hml hv
  obtain ⟨rfl, hR0⟩ := hv
  have C : jCx p s m ([jR G l0, vI l1] : List Value).toArray meth c cX9_own 2 RX9 (Cond.code yX9_own cX9_own 2 (some .int)) (some .int) := ⟨B.exec, B.bytes, hml, findClass_of_methodNamed B.named, atoms_spec B.pre, B.returns, B.notSynchronized⟩
  have hO := hR0.ok
  have hl := lv_entry ([jR G l0, vI l1]) (n := 2) (Nat.le_of_ble_eq_true rfl)
  rw [lg_entry_eq]
  generalize (lg_sl ([jR G l0, vI l1]) ++ List.replicate (2 - (lg_sl ([jR G l0, vI l1])).length) Slot.unset).toArray = ls at hl ⊢
  have hl : lv_has ls 2 [(0, jR G l0), (1, vI l1)] := hl
  exact w_X9_own C (Nat.le_refl _) (Nat.le_refl _) M l0 l1 h0 h hO hl
set_option maxHeartbeats 4000000 in
theorem w_X9_lawfulRow {p : Program} {l : Launch} {e : Env} {R : Room} {s : State} {m : MethodId} {args : Array Value} {below : List Frame} {meth : Method} {c : Code} {H : Heap} {locs : List Loc} {ls : Array Slot} {G : jG}  (C : jCx p s m args meth c cX9_lawfulRow 3 RX9 (Cond.code yX9_lawfulRow cX9_lawfulRow 3 (some (.object "RowFirst$Line"))) (some (.object "RowFirst$Line"))) (hRf : 2 ≤ R.frames) (hRl : 43 ≤ R.locals)  (M : jM) (l0 l1 : Int) (h0 : jkd l0 = (9, 0)) {fin : Int} (hf : f_X9_lawfulRow M l0 l1 = some fin) (hO : jOk G M s H locs) (hl : lv_has ls 3 [(0, jR G l0), (1, vI l1)]) : W p l e R s m args below meth c H locs 0 0 (MQ below (jQ G (some (jN G fin)) M) args s 0 0 (jA G)) (F0 m 0 ls []) := by
  unfold f_X9_lawfulRow at hf
  refine lv_aload_n C.1 C.2.1 dX9_lawfulRow_0 rfl (lv_at hl 0 rfl) ?_
  refine j_get C hO (ci := 9) (k := 0) (v := jR G (jpt l0 0)) h0 rfl inlX9 (by decide) kF_1_15 rfl rfl dX9_lawfulRow_1 ?_
  refine lv_iload_n C.1 C.2.1 dX9_lawfulRow_4 rfl (lv_at hl 1 rfl) ?_
  obtain ⟨r1, hr1, hf⟩ := bnd_e hf
  obtain ⟨g2, hf⟩ := grd_e hf
  refine j_callV C hO (n := 1) (As := [vI l1]) (st1 := [jN G r1]) (c_X8_rowAt l G M (jpt l0 0) l1 (tp_9_0 h0) hr1) (tp_9_0 h0) rfl kC_18_22 kM_18_19 kI_18_20 kS_18_21 kN_1_14 ⟨by decide, by decide, by decide⟩ ⟨Nat.le_trans (by decide) hRf, Nat.le_trans (by decide) hRl⟩ rfl rfl rfl hl.1 rfl (Nat.le_of_ble_eq_true rfl) ⟨Nat.zero_le _, Nat.zero_le _⟩ dX9_lawfulRow_5 rfl (fun H locs hO => ?_)
  refine j_astoreN_n (i := 2) (lv' := [(0, jR G l0), (1, vI l1)]) C dX9_lawfulRow_8 rfl hl (by decide) (fun _ _ => rfl) (fun ls hl => ?_)
  refine j_aloadN_n C dX9_lawfulRow_9 rfl (lv_at hl 0 rfl) ?_
  refine j_ifnull (tgt := 28) C dX9_lawfulRow_10 (by decide) (fun c3 => ?_) (fun c3 => ?_)
  · have hf := (if_pos c3).symm.trans hf
    refine j_null (G := G) C dX9_lawfulRow_28 ?_
    have hf := som_e hf
    subst hf
    exact j_aret C hO dX9_lawfulRow_29
  · have hf := (if_neg c3).symm.trans hf
    rw [jN_p (Int.not_lt.mp c3)] at hl
    refine lv_aload_n C.1 C.2.1 dX9_lawfulRow_13 rfl (lv_at hl 1 rfl) ?_
    refine j_get C hO (ci := 9) (k := 5) (v := jR G (jpt l0 5)) h0 rfl inlX9 (by decide) kF_2_5 rfl rfl dX9_lawfulRow_14 ?_
    refine lv_aload_n C.1 C.2.1 dX9_lawfulRow_17 rfl (lv_at hl 0 rfl) ?_
    obtain ⟨r4, hr4, hf⟩ := bnd_e hf
    refine j_callV C hO (n := 1) (As := [jR G r1]) (st1 := [vI r4]) (c_X6_isLawful l G M (jpt l0 5) r1 (tp_9_5 h0) (g2.resolve_left c3) hr4) (tp_9_5 h0) rfl kC_21_11 kM_21_8 kI_21_9 kS_21_10 kN_2_4 ⟨by decide, by decide, by decide⟩ ⟨Nat.le_trans (by decide) hRf, Nat.le_trans (by decide) hRl⟩ rfl rfl rfl hl.1 rfl (Nat.le_of_ble_eq_true rfl) ⟨Nat.zero_le _, Nat.zero_le _⟩ dX9_lawfulRow_18 rfl (fun H locs hO => ?_)
    refine j_if_eq (tgt := 28) C rfl dX9_lawfulRow_21 (by decide) (fun c5 => ?_) (fun c5 => ?_)
    · have hf := (if_pos c5).symm.trans hf
      refine j_null (G := G) C dX9_lawfulRow_28 ?_
      have hf := som_e hf
      subst hf
      exact j_aret C hO dX9_lawfulRow_29
    · have hf := (if_neg c5).symm.trans hf
      refine lv_aload_n C.1 C.2.1 dX9_lawfulRow_24 rfl (lv_at hl 0 rfl) ?_
      refine lv_goto (tgt := 29) C.1 C.2.1 dX9_lawfulRow_25 (by decide) ?_
      have hf := som_e hf
      subst hf
      exact j_aretR C hO (jkd_in (g2.resolve_left c3) (by decide)).1 dX9_lawfulRow_29
set_option maxHeartbeats 1000000 in
theorem c_X9_lawfulRow (l : Launch) (G : jG)  (M : jM) (l0 l1 : Int) (h0 : jkd l0 = (9, 0)) {fin : Int} (h : f_X9_lawfulRow M l0 l1 = some fin) : Met l yX9_lawfulRow (Cond.code yX9_lawfulRow cX9_lawfulRow 3 (some (.object "RowFirst$Line")) :: wsL_law) ({ frames := 2, cells := 0, slots := 0, locals := 43 } : Room) (va_Pc [jR G l0, vI l1] (fun U => jRep G M U)) (jQ G (some (jN G fin)) M) 0 0 (jA G) := by
  refine Met.ofW (cc := cX9_lawfulRow) (maxL := 3) (ret := (some (.object "RowFirst$Line"))) (by decide) rfl ?_
  intro p e s m args below meth c s₁ B hml hv
  obtain ⟨rfl, hR0⟩ := hv
  have C : jCx p s m ([jR G l0, vI l1] : List Value).toArray meth c cX9_lawfulRow 3 RX9 (Cond.code yX9_lawfulRow cX9_lawfulRow 3 (some (.object "RowFirst$Line"))) (some (.object "RowFirst$Line")) := ⟨B.exec, B.bytes, hml, findClass_of_methodNamed B.named, atoms_spec B.pre, B.returns, B.notSynchronized⟩
  have hO := hR0.ok
  have hl := lv_entry ([jR G l0, vI l1]) (n := 3) (Nat.le_of_ble_eq_true rfl)
  rw [lg_entry_eq]
  generalize (lg_sl ([jR G l0, vI l1]) ++ List.replicate (3 - (lg_sl ([jR G l0, vI l1])).length) Slot.unset).toArray = ls at hl ⊢
  have hl : lv_has ls 3 [(0, jR G l0), (1, vI l1)] := hl
  exact w_X9_lawfulRow C (Nat.le_refl _) (Nat.le_refl _) M l0 l1 h0 h hO hl
set_option maxHeartbeats 4000000 in
theorem w_X9_isPart_9 {p : Program} {l : Launch} {e : Env} {R : Room} {s : State} {m : MethodId} {args : Array Value} {below : List Frame} {meth : Method} {c : Code} {H : Heap} {locs : List Loc} {ls : Array Slot} {G : jG}  (C : jCx p s m args meth c cX9_isPart 1 RX9 (Cond.code yX9_isPart cX9_isPart 1 (some .boolean)) (some .boolean)) (hRf : 0 ≤ R.frames) (hRl : 0 ≤ R.locals)  (M : jM) {fin : Int} (hf : f_X9_isPart_9 M  = some fin) (hO : jOk G M s H locs) (hl : lv_has ls 1 []) : W p l e R s m args below meth c H locs 0 0 (MQ below (jQ G (some (vI fin)) M) args s 0 0 (jA G)) (F0 m 9 ls []) := by
  unfold f_X9_isPart_9 at hf
  refine lv_iconst (v := Int32.ofInt 1) C.1 C.2.1 dX9_isPart_9 rfl ?_
  refine lv_goto (tgt := 14) C.1 C.2.1 dX9_isPart_10 (by decide) ?_
  have hf := som_e hf
  subst hf
  exact j_zret C hO (Or.inr rfl) dX9_isPart_14
set_option maxHeartbeats 4000000 in
theorem w_X9_isPart {p : Program} {l : Launch} {e : Env} {R : Room} {s : State} {m : MethodId} {args : Array Value} {below : List Frame} {meth : Method} {c : Code} {H : Heap} {locs : List Loc} {ls : Array Slot} {G : jG}  (C : jCx p s m args meth c cX9_isPart 1 RX9 (Cond.code yX9_isPart cX9_isPart 1 (some .boolean)) (some .boolean)) (hRf : 0 ≤ R.frames) (hRl : 0 ≤ R.locals)  (M : jM) (l0 : Int) {fin : Int} (hf : f_X9_isPart M l0 = some fin) (hO : jOk G M s H locs) (hl : lv_has ls 1 [(0, vI l0)]) : W p l e R s m args below meth c H locs 0 0 (MQ below (jQ G (some (vI fin)) M) args s 0 0 (jA G)) (F0 m 0 ls []) := by
  unfold f_X9_isPart at hf
  refine lv_iload_n C.1 C.2.1 dX9_isPart_0 rfl (lv_at hl 0 rfl) ?_
  refine j_if_eq (tgt := 9) C rfl dX9_isPart_1 (by decide) (fun c1 => ?_) (fun c1 => ?_)
  · have hf := (if_pos c1).symm.trans hf
    exact w_X9_isPart_9 C hRf hRl M   hf hO (lv_sub hl [] rfl)
  · have hf := (if_neg c1).symm.trans hf
    refine lv_iload_n C.1 C.2.1 dX9_isPart_4 rfl (lv_at hl 0 rfl) ?_
    refine lv_iconst (v := Int32.ofInt 1) C.1 C.2.1 dX9_isPart_5 rfl ?_
    refine j_icmp_ne (tgt := 13) C rfl (w32_id (by decide) (by decide)) dX9_isPart_6 (by decide) (fun c2 => ?_) (fun c2 => ?_)
    · have hf := (if_neg c2).symm.trans hf
      refine lv_iconst (v := Int32.ofInt 0) C.1 C.2.1 dX9_isPart_13 rfl ?_
      have hf := som_e hf
      subst hf
      exact j_zret C hO (Or.inl rfl) dX9_isPart_14
    · have hf := (if_pos c2).symm.trans hf
      exact w_X9_isPart_9 C hRf hRl M   hf hO (lv_sub hl [] rfl)
set_option maxHeartbeats 1000000 in
theorem c_X9_isPart (l : Launch) (G : jG)  (M : jM) (l0 : Int) {fin : Int} (h : f_X9_isPart M l0 = some fin) : Met l yX9_isPart (Cond.code yX9_isPart cX9_isPart 1 (some .boolean) :: wsL_law) ({ frames := 0, cells := 0, slots := 0, locals := 0 } : Room) (va_Pc [vI l0] (fun U => jRep G M U)) (jQ G (some (vI fin)) M) 0 0 (jA G) := by
  refine Met.ofW (cc := cX9_isPart) (maxL := 1) (ret := (some .boolean)) (by decide) rfl ?_
  intro p e s m args below meth c s₁ B hml hv
  obtain ⟨rfl, hR0⟩ := hv
  have C : jCx p s m ([vI l0] : List Value).toArray meth c cX9_isPart 1 RX9 (Cond.code yX9_isPart cX9_isPart 1 (some .boolean)) (some .boolean) := ⟨B.exec, B.bytes, hml, findClass_of_methodNamed B.named, atoms_spec B.pre, B.returns, B.notSynchronized⟩
  have hO := hR0.ok
  have hl := lv_entry ([vI l0]) (n := 1) (Nat.le_of_ble_eq_true rfl)
  rw [lg_entry_eq]
  generalize (lg_sl ([vI l0]) ++ List.replicate (1 - (lg_sl ([vI l0])).length) Slot.unset).toArray = ls at hl ⊢
  have hl : lv_has ls 1 [(0, vI l0)] := hl
  exact w_X9_isPart C (Nat.le_refl _) (Nat.le_refl _) M l0  h hO hl
set_option maxHeartbeats 4000000 in
theorem w_X9_divisor_L9 {p : Program} {l : Launch} {e : Env} {R : Room} {s : State} {m : MethodId} {args : Array Value} {below : List Frame} {meth : Method} {c : Code} {H : Heap} {locs : List Loc} {ls : Array Slot} {G : jG}  (C : jCx p s m args meth c cX9_divisor 11 RX9 (Cond.code yX9_divisor cX9_divisor 11 (some .long)) (some .long)) (hRf : 0 ≤ R.frames) (hRl : 0 ≤ R.locals)  (M : jM) {fin : Int} (S : Int × Int × Int) {rr : (Int × Int × Int) ⊕ Int} (hf : f_X9_divisor_L9 M  S = some rr) (kc : ∀ q : Int × Int × Int, rr = .inl q → ∀ (H : Heap) (locs : List Loc) (ls : Array Slot), jOk G M s H locs → lv_has ls 11 [(4, vL q.1), (6, vL q.2.1), (8, vI q.2.2)] → W p l e R s m args below meth c H locs 0 0 (MQ below (jQ G (some (vL fin)) M) args s 0 0 (jA G)) (F0 m 9 ls [])) (kx0 : ∀ q : Int, rr = .inr q → ∀ (H : Heap) (locs : List Loc) (ls : Array Slot), jOk G M s H locs → lv_has ls 11 [(4, vL q)] → W p l e R s m args below meth c H locs 0 0 (MQ below (jQ G (some (vL fin)) M) args s 0 0 (jA G)) (F0 m 45 ls [])) (hO : jOk G M s H locs) (hl : lv_has ls 11 [(4, vL S.1), (6, vL S.2.1), (8, vI S.2.2)]) : W p l e R s m args below meth c H locs 0 0 (MQ below (jQ G (some (vL fin)) M) args s 0 0 (jA G)) (F0 m 9 ls []) := by
  unfold f_X9_divisor_L9 at hf
  refine lv_iload C.1 C.2.1 dX9_divisor_9 (lv_at hl 2 rfl) ?_
  refine lv_sipush (v := Int32.ofInt 200) C.1 C.2.1 dX9_divisor_11 (by decide) ?_
  refine j_icmp_ge (tgt := 45) C rfl (w32_id (by decide) (by decide)) dX9_divisor_14 (by decide) (fun c1 => ?_) (fun c1 => ?_)
  · have hf := (if_pos c1).symm.trans hf
    exact kx0 _ (som_e hf).symm _ _ _ hO (lv_sub hl [0] rfl)
  · have hf := (if_neg c1).symm.trans hf
    refine lv_lload C.1 C.2.1 dX9_divisor_17 (lv_at hl 1 rfl) ?_
    refine lv_lconst (v := Int64.ofInt 0) C.1 C.2.1 dX9_divisor_19 (by decide) ?_
    refine j_lcmp_eq (tgt := 45) C rfl (w64_id (by decide) (by decide)) dX9_divisor_20 dX9_divisor_21 (by decide) (fun c2 => ?_) (fun c2 => ?_)
    · have hf := (if_pos c2).symm.trans hf
      exact kx0 _ (som_e hf).symm _ _ _ hO (lv_sub hl [0] rfl)
    · have hf := (if_neg c2).symm.trans hf
      refine lv_lload C.1 C.2.1 dX9_divisor_24 (lv_at hl 0 rfl) ?_
      refine lv_lload C.1 C.2.1 dX9_divisor_26 (lv_at hl 1 rfl) ?_
      obtain ⟨g3, hf⟩ := grd_e hf
      refine j_lrem C g3 dX9_divisor_28 ?_
      refine lv_lstore (lv' := [(9, vL ((w64 S.1).tmod (w64 S.2.1))), (4, vL S.1), (6, vL S.2.1), (8, vI S.2.2)]) C.1 C.2.1 dX9_divisor_29 hl (by decide) rfl (fun ls hl => ?_)
      refine lv_lload C.1 C.2.1 dX9_divisor_31 (lv_at hl 2 rfl) ?_
      refine lv_lstore (lv' := [(4, vL S.2.1), (9, vL ((w64 S.1).tmod (w64 S.2.1))), (6, vL S.2.1), (8, vI S.2.2)]) C.1 C.2.1 dX9_divisor_33 hl (by decide) rfl (fun ls hl => ?_)
      refine lv_lload C.1 C.2.1 dX9_divisor_35 (lv_at hl 1 rfl) ?_
      refine lv_lstore (lv' := [(6, vL ((w64 S.1).tmod (w64 S.2.1))), (4, vL S.2.1), (9, vL ((w64 S.1).tmod (w64 S.2.1))), (8, vI S.2.2)]) C.1 C.2.1 dX9_divisor_37 hl (by decide) rfl (fun ls hl => ?_)
      refine lv_iinc (v := Int32.ofInt (S.2.2 + 1)) (lv' := [(8, vI (S.2.2 + 1)), (6, vL ((w64 S.1).tmod (w64 S.2.1))), (4, vL S.2.1), (9, vL ((w64 S.1).tmod (w64 S.2.1)))]) C.1 C.2.1 dX9_divisor_39 hl (k := 3) rfl (Int32.ofInt_add _ _).symm (by decide) rfl (fun ls hl => ?_)
      refine lv_goto (tgt := 9) C.1 C.2.1 dX9_divisor_42 (by decide) ?_
      exact kc _ (som_e hf).symm _ _ _ hO (lv_sub hl [2, 1, 0] rfl)
set_option maxHeartbeats 4000000 in
theorem w_X9_divisor {p : Program} {l : Launch} {e : Env} {R : Room} {s : State} {m : MethodId} {args : Array Value} {below : List Frame} {meth : Method} {c : Code} {H : Heap} {locs : List Loc} {ls : Array Slot} {G : jG}  (C : jCx p s m args meth c cX9_divisor 11 RX9 (Cond.code yX9_divisor cX9_divisor 11 (some .long)) (some .long)) (hRf : 0 ≤ R.frames) (hRl : 0 ≤ R.locals)  (M : jM) (l0 l2 : Int) {fin : Int} (hf : f_X9_divisor M l0 l2 = some fin) (hO : jOk G M s H locs) (hl : lv_has ls 11 [(0, vL l0), (2, vL l2)]) : W p l e R s m args below meth c H locs 0 0 (MQ below (jQ G (some (vL fin)) M) args s 0 0 (jA G)) (F0 m 0 ls []) := by
  unfold f_X9_divisor at hf
  refine lv_lload_n C.1 C.2.1 dX9_divisor_0 rfl (lv_at hl 0 rfl) ?_
  refine lv_lstore (lv' := [(4, vL l0), (0, vL l0), (2, vL l2)]) C.1 C.2.1 dX9_divisor_1 hl (by decide) rfl (fun ls hl => ?_)
  refine lv_lload_n C.1 C.2.1 dX9_divisor_3 rfl (lv_at hl 2 rfl) ?_
  refine lv_lstore (lv' := [(6, vL l2), (4, vL l0), (0, vL l0), (2, vL l2)]) C.1 C.2.1 dX9_divisor_4 hl (by decide) rfl (fun ls hl => ?_)
  refine lv_iconst (v := Int32.ofInt 0) C.1 C.2.1 dX9_divisor_6 rfl ?_
  refine lv_istore (lv' := [(8, vI 0), (6, vL l2), (4, vL l0), (0, vL l0), (2, vL l2)]) C.1 C.2.1 dX9_divisor_7 hl (by decide) rfl (fun ls hl => ?_)
  obtain ⟨x4, hx4, hf⟩ := bnd_e hf
  refine iter_e (P := fun Z => ∀ (H : Heap) (locs : List Loc) (ls : Array Slot), jOk G M s H locs → lv_has ls 11 [(4, vL Z.1), (6, vL Z.2.1), (8, vI Z.2.2)] → W p l e R s m args below meth c H locs 0 0 (MQ below (jQ G (some (vL fin)) M) args s 0 0 (jA G)) (F0 m 9 ls [])) (E := fun q => ∀ (H : Heap) (locs : List Loc) (ls : Array Slot), jOk G M s H locs → lv_has ls 11 [(4, vL q)] → W p l e R s m args below meth c H locs 0 0 (MQ below (jQ G (some (vL fin)) M) args s 0 0 (jA G)) (F0 m 45 ls [])) (fun Z rr hb kc kx H locs ls hO hl => w_X9_divisor_L9 C hRf hRl M   Z hb kc (fun q e => kx q e) hO hl) 5000 (l0, l2, 0) x4 hx4 ?_ _ _ _ hO (lv_sub hl [2, 1, 0] rfl)
  clear hO hl
  intro H locs ls hO hl
  refine lv_lload C.1 C.2.1 dX9_divisor_45 (lv_at hl 0 rfl) ?_
  have hf := som_e hf
  subst hf
  exact j_lret C hO dX9_divisor_47
set_option maxHeartbeats 1000000 in
theorem c_X9_divisor (l : Launch) (G : jG)  (M : jM) (l0 l2 : Int) {fin : Int} (h : f_X9_divisor M l0 l2 = some fin) : Met l yX9_divisor (Cond.code yX9_divisor cX9_divisor 11 (some .long) :: wsL_law) ({ frames := 0, cells := 0, slots := 0, locals := 0 } : Room) (va_Pc [vL l0, vL l2] (fun U => jRep G M U)) (jQ G (some (vL fin)) M) 0 0 (jA G) := by
  refine Met.ofW (cc := cX9_divisor) (maxL := 11) (ret := (some .long)) (by decide) rfl ?_
  intro p e s m args below meth c s₁ B hml hv
  obtain ⟨rfl, hR0⟩ := hv
  have C : jCx p s m ([vL l0, vL l2] : List Value).toArray meth c cX9_divisor 11 RX9 (Cond.code yX9_divisor cX9_divisor 11 (some .long)) (some .long) := ⟨B.exec, B.bytes, hml, findClass_of_methodNamed B.named, atoms_spec B.pre, B.returns, B.notSynchronized⟩
  have hO := hR0.ok
  have hl := lv_entry ([vL l0, vL l2]) (n := 11) (Nat.le_of_ble_eq_true rfl)
  rw [lg_entry_eq]
  generalize (lg_sl ([vL l0, vL l2]) ++ List.replicate (11 - (lg_sl ([vL l0, vL l2])).length) Slot.unset).toArray = ls at hl ⊢
  have hl : lv_has ls 11 [(0, vL l0), (2, vL l2)] := hl
  exact w_X9_divisor C (Nat.le_refl _) (Nat.le_refl _) M l0 l2  h hO hl
set_option maxHeartbeats 4000000 in
theorem w_X9_fraction {p : Program} {l : Launch} {e : Env} {R : Room} {s : State} {m : MethodId} {args : Array Value} {below : List Frame} {meth : Method} {c : Code} {H : Heap} {locs : List Loc} {ls : Array Slot} {G : jG}  (C : jCx p s m args meth c cX9_fraction 7 RX9 (Cond.code yX9_fraction cX9_fraction 7 (some .long)) (some .long)) (hRf : 1 ≤ R.frames) (hRl : 30 ≤ R.locals)  (M : jM) (l0 l2 l4 : Int) {fin : Int} (hf : f_X9_fraction M l0 l2 l4 = some fin) (hO : jOk G M s H locs) (hl : lv_has ls 7 [(0, vL l0), (2, vL l2), (4, vI l4)]) : W p l e R s m args below meth c H locs 0 0 (MQ below (jQ G (some (vL fin)) M) args s 0 0 (jA G)) (F0 m 0 ls []) := by
  unfold f_X9_fraction at hf
  refine lv_lload_n C.1 C.2.1 dX9_fraction_0 rfl (lv_at hl 0 rfl) ?_
  refine j_mabs C kM_22_13 kT_22_14 kN_7_16 kC_22_15 hl.1 (Nat.le_trans (by decide) hRf) (Nat.le_trans (by decide) hRl) ⟨Nat.zero_le _, Nat.zero_le _⟩ (Nat.le_of_ble_eq_true rfl) dX9_fraction_1 ?_
  refine lv_lload_n C.1 C.2.1 dX9_fraction_4 rfl (lv_at hl 1 rfl) ?_
  refine j_mabs C kM_22_13 kT_22_14 kN_7_16 kC_22_15 hl.1 (Nat.le_trans (by decide) hRf) (Nat.le_trans (by decide) hRl) ⟨Nat.zero_le _, Nat.zero_le _⟩ (Nat.le_of_ble_eq_true rfl) dX9_fraction_5 ?_
  obtain ⟨r1, hr1, hf⟩ := bnd_e hf
  refine j_callS C hO (n := 2) (As := [vL (if 0 < w64 l0 then l0 else -l0), vL (if 0 < w64 l2 then l2 else -l2)]) (st1 := [vL r1]) (c_X9_divisor l G M (if 0 < w64 l0 then l0 else -l0) (if 0 < w64 l2 then l2 else -l2)  hr1) kC_22_18 kM_22_16 kT_22_17 kN_1_2 ⟨by decide, by decide, by decide⟩ ⟨Nat.le_trans (by decide) hRf, Nat.le_trans (by decide) hRl⟩ rfl rfl rfl hl.1 rfl (Nat.le_of_ble_eq_true rfl) ⟨Nat.zero_le _, Nat.zero_le _⟩ dX9_fraction_8 rfl (fun H locs hO => ?_)
  refine lv_lstore (lv' := [(5, vL r1), (0, vL l0), (2, vL l2), (4, vI l4)]) C.1 C.2.1 dX9_fraction_11 hl (by decide) rfl (fun ls hl => ?_)
  refine lv_lload C.1 C.2.1 dX9_fraction_13 (lv_at hl 0 rfl) ?_
  refine lv_lconst (v := Int64.ofInt 0) C.1 C.2.1 dX9_fraction_15 (by decide) ?_
  refine j_lcmp_ne (tgt := 24) C rfl (w64_id (by decide) (by decide)) dX9_fraction_16 dX9_fraction_17 (by decide) (fun c2 => ?_) (fun c2 => ?_)
  · have hf := (if_neg c2).symm.trans hf
    refine lv_iload C.1 C.2.1 dX9_fraction_24 (lv_at hl 3 rfl) ?_
    refine j_if_ne (tgt := 33) C rfl dX9_fraction_26 (by decide) (fun c3 => ?_) (fun c3 => ?_)
    · have hf := (if_neg c3).symm.trans hf
      refine lv_lload_n C.1 C.2.1 dX9_fraction_33 rfl (lv_at hl 2 rfl) ?_
      refine lv_lload C.1 C.2.1 dX9_fraction_34 (lv_at hl 0 rfl) ?_
      obtain ⟨g4, hf⟩ := grd_e hf
      refine j_ldiv C g4 dX9_fraction_36 ?_
      have hf := som_e hf
      subst hf
      exact j_lret C hO dX9_fraction_37
    · have hf := (if_pos c3).symm.trans hf
      refine lv_lload_n C.1 C.2.1 dX9_fraction_29 rfl (lv_at hl 1 rfl) ?_
      refine lv_goto (tgt := 34) C.1 C.2.1 dX9_fraction_30 (by decide) ?_
      refine lv_lload C.1 C.2.1 dX9_fraction_34 (lv_at hl 0 rfl) ?_
      obtain ⟨g5, hf⟩ := grd_e hf
      refine j_ldiv C g5 dX9_fraction_36 ?_
      have hf := som_e hf
      subst hf
      exact j_lret C hO dX9_fraction_37
  · have hf := (if_pos c2).symm.trans hf
    refine j_ldc2 (x := (-9223372036854775808)) C kL_21_3 (by decide) dX9_fraction_20 ?_
    have hf := som_e hf
    subst hf
    exact j_lret C hO dX9_fraction_23
set_option maxHeartbeats 1000000 in
theorem c_X9_fraction (l : Launch) (G : jG)  (M : jM) (l0 l2 l4 : Int) {fin : Int} (h : f_X9_fraction M l0 l2 l4 = some fin) : Met l yX9_fraction (Cond.code yX9_fraction cX9_fraction 7 (some .long) :: wsL_law) ({ frames := 1, cells := 0, slots := 0, locals := 30 } : Room) (va_Pc [vL l0, vL l2, vI l4] (fun U => jRep G M U)) (jQ G (some (vL fin)) M) 0 0 (jA G) := by
  refine Met.ofW (cc := cX9_fraction) (maxL := 7) (ret := (some .long)) (by decide) rfl ?_
  intro p e s m args below meth c s₁ B hml hv
  obtain ⟨rfl, hR0⟩ := hv
  have C : jCx p s m ([vL l0, vL l2, vI l4] : List Value).toArray meth c cX9_fraction 7 RX9 (Cond.code yX9_fraction cX9_fraction 7 (some .long)) (some .long) := ⟨B.exec, B.bytes, hml, findClass_of_methodNamed B.named, atoms_spec B.pre, B.returns, B.notSynchronized⟩
  have hO := hR0.ok
  have hl := lv_entry ([vL l0, vL l2, vI l4]) (n := 7) (Nat.le_of_ble_eq_true rfl)
  rw [lg_entry_eq]
  generalize (lg_sl ([vL l0, vL l2, vI l4]) ++ List.replicate (7 - (lg_sl ([vL l0, vL l2, vI l4])).length) Slot.unset).toArray = ls at hl ⊢
  have hl : lv_has ls 7 [(0, vL l0), (2, vL l2), (4, vI l4)] := hl
  exact w_X9_fraction C (Nat.le_refl _) (Nat.le_refl _) M l0 l2 l4  h hO hl
set_option maxHeartbeats 4000000 in
theorem w_X9_waits {p : Program} {l : Launch} {e : Env} {R : Room} {s : State} {m : MethodId} {args : Array Value} {below : List Frame} {meth : Method} {c : Code} {H : Heap} {locs : List Loc} {ls : Array Slot} {G : jG}  (C : jCx p s m args meth c cX9_waits 4 RX9 (Cond.code yX9_waits cX9_waits 4 (some .long)) (some .long)) (hRf : 4 ≤ R.frames) (hRl : 89 ≤ R.locals)  (M : jM) (l0 l1 l2 : Int) (h0 : jkd l0 = (9, 0)) {fin : Int × jM} (hf : f_X9_waits M l0 l1 l2 = some fin) (hO : jOk G M s H locs) (hl : lv_has ls 4 [(0, jR G l0), (1, vI l1), (2, vI l2)]) : W p l e R s m args below meth c H locs 0 0 (MQ below (jQ G (some (vL fin.1)) fin.2) args s 0 0 (jA G)) (F0 m 0 ls []) := by
  unfold f_X9_waits at hf
  refine lv_aload_n C.1 C.2.1 dX9_waits_0 rfl (lv_at hl 0 rfl) ?_
  obtain ⟨r1, hr1, hf⟩ := bnd_e hf
  refine j_callV C hO (n := 0) (As := []) (st1 := []) (c_X9_weigh l G M l0 h0 hr1) h0 rfl kC_15_12 kM_15_9 kI_15_10 kS_15_11 kN_1_2 ⟨by decide, by decide, by decide⟩ ⟨Nat.le_trans (by decide) hRf, Nat.le_trans (by decide) hRl⟩ rfl rfl rfl hl.1 rfl (Nat.le_of_ble_eq_true rfl) ⟨Nat.zero_le _, Nat.zero_le _⟩ dX9_waits_1 rfl (fun H locs hO => ?_)
  refine lv_aload_n C.1 C.2.1 dX9_waits_4 rfl (lv_at hl 0 rfl) ?_
  refine lv_iload_n C.1 C.2.1 dX9_waits_5 rfl (lv_at hl 1 rfl) ?_
  obtain ⟨r2, hr2, hf⟩ := bnd_e hf
  obtain ⟨g3, hf⟩ := grd_e hf
  refine j_callV C hO (n := 1) (As := [vI l1]) (st1 := [jN G r2]) (c_X9_lawfulRow l G r1 l0 l1 h0 hr2) h0 rfl kC_21_7 kM_21_4 kI_21_5 kS_21_6 kN_1_2 ⟨by decide, by decide, by decide⟩ ⟨Nat.le_trans (by decide) hRf, Nat.le_trans (by decide) hRl⟩ rfl rfl rfl hl.1 rfl (Nat.le_of_ble_eq_true rfl) ⟨Nat.zero_le _, Nat.zero_le _⟩ dX9_waits_6 rfl (fun H locs hO => ?_)
  refine j_astoreN_n (i := 3) (lv' := [(0, jR G l0), (1, vI l1), (2, vI l2)]) C dX9_waits_9 rfl hl (by decide) (fun _ _ => rfl) (fun ls hl => ?_)
  refine j_aloadN_n C dX9_waits_10 rfl (lv_at hl 0 rfl) ?_
  refine j_ifnull (tgt := 21) C dX9_waits_11 (by decide) (fun c4 => ?_) (fun c4 => ?_)
  · have hf := (if_pos c4).symm.trans hf
    refine j_ldc2 (x := (-9223372036854775808)) C kL_21_3 (by decide) dX9_waits_21 ?_
    have hf := som_e hf
    subst hf
    exact j_lret C hO dX9_waits_24
  · have hf := (if_neg c4).symm.trans hf
    rw [jN_p (Int.not_lt.mp c4)] at hl
    refine lv_iload_n C.1 C.2.1 dX9_waits_14 rfl (lv_at hl 3 rfl) ?_
    obtain ⟨r5, hr5, hf⟩ := bnd_e hf
    refine j_callS C hO (n := 1) (As := [vI l2]) (st1 := [vI r5]) (c_X9_isPart l G r1 l2  hr5) kC_21_16 kM_21_14 kT_21_15 kN_1_2 ⟨by decide, by decide, by decide⟩ ⟨Nat.le_trans (by decide) hRf, Nat.le_trans (by decide) hRl⟩ rfl rfl rfl hl.1 rfl (Nat.le_of_ble_eq_true rfl) ⟨Nat.zero_le _, Nat.zero_le _⟩ dX9_waits_15 rfl (fun H locs hO => ?_)
    refine j_if_ne (tgt := 25) C rfl dX9_waits_18 (by decide) (fun c6 => ?_) (fun c6 => ?_)
    · have hf := (if_neg c6).symm.trans hf
      refine lv_aload_n C.1 C.2.1 dX9_waits_25 rfl (lv_at hl 1 rfl) ?_
      refine j_get C hO (ci := 9) (k := 5) (v := jR G (jpt l0 5)) h0 rfl inlX9 (by decide) kF_2_5 rfl rfl dX9_waits_26 ?_
      refine lv_aload_n C.1 C.2.1 dX9_waits_29 rfl (lv_at hl 0 rfl) ?_
      refine lv_aload_n C.1 C.2.1 dX9_waits_30 rfl (lv_at hl 0 rfl) ?_
      obtain ⟨r7, hr7, hf⟩ := bnd_e hf
      refine j_callV C hO (n := 2) (As := [jR G r2, jR G r2]) (st1 := [vL r7]) (c_X6_lap l G r1 (jpt l0 5) r2 r2 (tp_9_5 h0) (g3.resolve_left c4) (g3.resolve_left c4) hr7) (tp_9_5 h0) rfl kC_21_20 kM_21_17 kI_21_18 kS_21_19 kN_2_4 ⟨by decide, by decide, by decide⟩ ⟨Nat.le_trans (by decide) hRf, Nat.le_trans (by decide) hRl⟩ rfl rfl rfl hl.1 rfl (Nat.le_of_ble_eq_true rfl) ⟨Nat.zero_le _, Nat.zero_le _⟩ dX9_waits_31 rfl (fun H locs hO => ?_)
      refine lv_aload_n C.1 C.2.1 dX9_waits_34 rfl (lv_at hl 1 rfl) ?_
      refine j_get C hO (ci := 9) (k := 5) (v := jR G (jpt l0 5)) h0 rfl inlX9 (by decide) kF_2_5 rfl rfl dX9_waits_35 ?_
      refine lv_aload_n C.1 C.2.1 dX9_waits_38 rfl (lv_at hl 0 rfl) ?_
      obtain ⟨r8, hr8, hf⟩ := bnd_e hf
      refine j_callV C hO (n := 1) (As := [jR G r2]) (st1 := [vL r8, vL r7]) (c_X6_product l G r1 (jpt l0 5) r2 (tp_9_5 h0) (g3.resolve_left c4) hr8) (tp_9_5 h0) rfl kC_22_9 kM_22_6 kI_22_7 kS_22_8 kN_2_4 ⟨by decide, by decide, by decide⟩ ⟨Nat.le_trans (by decide) hRf, Nat.le_trans (by decide) hRl⟩ rfl rfl rfl hl.1 rfl (Nat.le_of_ble_eq_true rfl) ⟨Nat.zero_le _, Nat.zero_le _⟩ dX9_waits_39 rfl (fun H locs hO => ?_)
      refine lv_iload_n C.1 C.2.1 dX9_waits_42 rfl (lv_at hl 3 rfl) ?_
      obtain ⟨r9, hr9, hf⟩ := bnd_e hf
      refine j_callS C hO (n := 3) (As := [vL r7, vL r8, vI l2]) (st1 := [vL r9]) (c_X9_fraction l G r1 r7 r8 l2  hr9) kC_22_12 kM_22_10 kT_22_11 kN_1_2 ⟨by decide, by decide, by decide⟩ ⟨Nat.le_trans (by decide) hRf, Nat.le_trans (by decide) hRl⟩ rfl rfl rfl hl.1 rfl (Nat.le_of_ble_eq_true rfl) ⟨Nat.zero_le _, Nat.zero_le _⟩ dX9_waits_43 rfl (fun H locs hO => ?_)
      have hf := som_e hf
      subst hf
      exact j_lret C hO dX9_waits_46
    · have hf := (if_pos c6).symm.trans hf
      refine j_ldc2 (x := (-9223372036854775808)) C kL_21_3 (by decide) dX9_waits_21 ?_
      have hf := som_e hf
      subst hf
      exact j_lret C hO dX9_waits_24
set_option maxHeartbeats 1000000 in
theorem c_X9_waits (l : Launch) (G : jG)  (M : jM) (l0 l1 l2 : Int) (h0 : jkd l0 = (9, 0)) {fin : Int × jM} (h : f_X9_waits M l0 l1 l2 = some fin) : Met l yX9_waits (Cond.code yX9_waits cX9_waits 4 (some .long) :: wsL_law) ({ frames := 4, cells := 0, slots := 0, locals := 89 } : Room) (va_Pc [jR G l0, vI l1, vI l2] (fun U => jRep G M U)) (jQ G (some (vL fin.1)) fin.2) 0 0 (jA G) := by
  refine Met.ofW (cc := cX9_waits) (maxL := 4) (ret := (some .long)) (by decide) rfl ?_
  intro p e s m args below meth c s₁ B hml hv
  obtain ⟨rfl, hR0⟩ := hv
  have C : jCx p s m ([jR G l0, vI l1, vI l2] : List Value).toArray meth c cX9_waits 4 RX9 (Cond.code yX9_waits cX9_waits 4 (some .long)) (some .long) := ⟨B.exec, B.bytes, hml, findClass_of_methodNamed B.named, atoms_spec B.pre, B.returns, B.notSynchronized⟩
  have hO := hR0.ok
  have hl := lv_entry ([jR G l0, vI l1, vI l2]) (n := 4) (Nat.le_of_ble_eq_true rfl)
  rw [lg_entry_eq]
  generalize (lg_sl ([jR G l0, vI l1, vI l2]) ++ List.replicate (4 - (lg_sl ([jR G l0, vI l1, vI l2])).length) Slot.unset).toArray = ls at hl ⊢
  have hl : lv_has ls 4 [(0, jR G l0), (1, vI l1), (2, vI l2)] := hl
  exact w_X9_waits C (Nat.le_refl _) (Nat.le_refl _) M l0 l1 l2 h0 h hO hl
set_option maxHeartbeats 4000000 in
theorem w_X9_measured {p : Program} {l : Launch} {e : Env} {R : Room} {s : State} {m : MethodId} {args : Array Value} {below : List Frame} {meth : Method} {c : Code} {H : Heap} {locs : List Loc} {ls : Array Slot} {G : jG}  (C : jCx p s m args meth c cX9_measured 5 RX9 (Cond.code yX9_measured cX9_measured 5 (some .boolean)) (some .boolean)) (hRf : 4 ≤ R.frames) (hRl : 89 ≤ R.locals)  (M : jM) (l0 l1 l2 : Int) (h0 : jkd l0 = (9, 0)) {fin : Int × jM} (hf : f_X9_measured M l0 l1 l2 = some fin) (hO : jOk G M s H locs) (hl : lv_has ls 5 [(0, jR G l0), (1, vI l1), (2, vI l2)]) : W p l e R s m args below meth c H locs 0 0 (MQ below (jQ G (some (vI fin.1)) fin.2) args s 0 0 (jA G)) (F0 m 0 ls []) := by
  unfold f_X9_measured at hf
  refine lv_aload_n C.1 C.2.1 dX9_measured_0 rfl (lv_at hl 0 rfl) ?_
  obtain ⟨r1, hr1, hf⟩ := bnd_e hf
  refine j_callV C hO (n := 0) (As := []) (st1 := []) (c_X9_weigh l G M l0 h0 hr1) h0 rfl kC_15_12 kM_15_9 kI_15_10 kS_15_11 kN_1_2 ⟨by decide, by decide, by decide⟩ ⟨Nat.le_trans (by decide) hRf, Nat.le_trans (by decide) hRl⟩ rfl rfl rfl hl.1 rfl (Nat.le_of_ble_eq_true rfl) ⟨Nat.zero_le _, Nat.zero_le _⟩ dX9_measured_1 rfl (fun H locs hO => ?_)
  refine lv_aload_n C.1 C.2.1 dX9_measured_4 rfl (lv_at hl 0 rfl) ?_
  refine lv_iload_n C.1 C.2.1 dX9_measured_5 rfl (lv_at hl 1 rfl) ?_
  obtain ⟨r2, hr2, hf⟩ := bnd_e hf
  obtain ⟨g3, hf⟩ := grd_e hf
  refine j_callV C hO (n := 1) (As := [vI l1]) (st1 := [jN G r2]) (c_X9_lawfulRow l G r1 l0 l1 h0 hr2) h0 rfl kC_21_7 kM_21_4 kI_21_5 kS_21_6 kN_1_2 ⟨by decide, by decide, by decide⟩ ⟨Nat.le_trans (by decide) hRf, Nat.le_trans (by decide) hRl⟩ rfl rfl rfl hl.1 rfl (Nat.le_of_ble_eq_true rfl) ⟨Nat.zero_le _, Nat.zero_le _⟩ dX9_measured_6 rfl (fun H locs hO => ?_)
  refine j_astoreN_n (i := 3) (lv' := [(0, jR G l0), (1, vI l1), (2, vI l2)]) C dX9_measured_9 rfl hl (by decide) (fun _ _ => rfl) (fun ls hl => ?_)
  refine lv_aload_n C.1 C.2.1 dX9_measured_10 rfl (lv_at hl 1 rfl) ?_
  refine lv_iload_n C.1 C.2.1 dX9_measured_11 rfl (lv_at hl 3 rfl) ?_
  obtain ⟨r4, hr4, hf⟩ := bnd_e hf
  obtain ⟨g5, hf⟩ := grd_e hf
  refine j_callV C hO (n := 1) (As := [vI l2]) (st1 := [jN G r4]) (c_X9_lawfulRow l G r1 l0 l2 h0 hr4) h0 rfl kC_21_7 kM_21_4 kI_21_5 kS_21_6 kN_1_2 ⟨by decide, by decide, by decide⟩ ⟨Nat.le_trans (by decide) hRf, Nat.le_trans (by decide) hRl⟩ rfl rfl rfl hl.1 rfl (Nat.le_of_ble_eq_true rfl) ⟨Nat.zero_le _, Nat.zero_le _⟩ dX9_measured_12 rfl (fun H locs hO => ?_)
  refine j_astoreN (i := 4) (lv' := [(3, jN G r2), (0, jR G l0), (1, vI l1), (2, vI l2)]) C dX9_measured_15 hl (by decide) (fun _ _ => by simp [List.filter, jN_cat]) (fun ls hl => ?_)
  refine j_aloadN_n C dX9_measured_17 rfl (lv_at hl 1 rfl) ?_
  refine j_ifnull (tgt := 35) C dX9_measured_18 (by decide) (fun c6 => ?_) (fun c6 => ?_)
  · have hf := (if_pos c6).symm.trans hf
    refine lv_iconst (v := Int32.ofInt 0) C.1 C.2.1 dX9_measured_35 rfl ?_
    have hf := som_e hf
    subst hf
    exact j_zret C hO (Or.inl rfl) dX9_measured_36
  · have hf := (if_neg c6).symm.trans hf
    rw [jN_p (Int.not_lt.mp c6)] at hl
    refine j_aloadN C dX9_measured_21 (lv_at hl 0 rfl) ?_
    refine j_ifnull (tgt := 35) C dX9_measured_23 (by decide) (fun c7 => ?_) (fun c7 => ?_)
    · have hf := (if_pos c7).symm.trans hf
      refine lv_iconst (v := Int32.ofInt 0) C.1 C.2.1 dX9_measured_35 rfl ?_
      have hf := som_e hf
      subst hf
      exact j_zret C hO (Or.inl rfl) dX9_measured_36
    · have hf := (if_neg c7).symm.trans hf
      rw [jN_p (Int.not_lt.mp c7)] at hl
      refine lv_aload_n C.1 C.2.1 dX9_measured_26 rfl (lv_at hl 1 rfl) ?_
      refine lv_aload C.1 C.2.1 dX9_measured_27 (lv_at hl 0 rfl) ?_
      obtain ⟨r8, hr8, hf⟩ := bnd_e hf
      refine j_callV C hO (n := 1) (As := [jR G r4]) (st1 := [vI r8]) (c_X3_isApart l G r1 r2 r4 (g3.resolve_left c6) (g5.resolve_left c7) hr8) (g3.resolve_left c6) rfl kC_24_15 kM_24_12 kI_24_13 kS_24_14 kN_3_8 ⟨by decide, by decide, by decide⟩ ⟨Nat.le_trans (by decide) hRf, Nat.le_trans (by decide) hRl⟩ rfl rfl rfl hl.1 rfl (Nat.le_of_ble_eq_true rfl) ⟨Nat.zero_le _, Nat.zero_le _⟩ dX9_measured_29 rfl (fun H locs hO => ?_)
      refine j_if_ne (tgt := 37) C rfl dX9_measured_32 (by decide) (fun c9 => ?_) (fun c9 => ?_)
      · have hf := (if_neg c9).symm.trans hf
        refine lv_aload_n C.1 C.2.1 dX9_measured_37 rfl (lv_at hl 2 rfl) ?_
        refine j_get C hO (ci := 9) (k := 6) (v := jR G (jpt l0 6)) h0 rfl inlX9 (by decide) kF_2_9 rfl rfl dX9_measured_38 ?_
        refine lv_aload_n C.1 C.2.1 dX9_measured_41 rfl (lv_at hl 2 rfl) ?_
        refine j_get C hO (ci := 9) (k := 5) (v := jR G (jpt l0 5)) h0 rfl inlX9 (by decide) kF_2_5 rfl rfl dX9_measured_42 ?_
        refine lv_aload_n C.1 C.2.1 dX9_measured_45 rfl (lv_at hl 1 rfl) ?_
        refine lv_aload C.1 C.2.1 dX9_measured_46 (lv_at hl 0 rfl) ?_
        obtain ⟨r10, hr10, hf⟩ := bnd_e hf
        refine j_callV C hO (n := 3) (As := [jR G (jpt l0 5), jR G r2, jR G r4]) (st1 := []) (c_X2_measure l G r1 (jpt l0 6) (jpt l0 5) r2 r4 (tp_9_6 h0) (tp_9_5 h0) (g3.resolve_left c6) (g5.resolve_left c7) hr10) (tp_9_6 h0) rfl kC_25_4 kM_25_1 kI_25_2 kS_25_3 kN_2_8 ⟨by decide, by decide, by decide⟩ ⟨Nat.le_trans (by decide) hRf, Nat.le_trans (by decide) hRl⟩ rfl rfl rfl hl.1 rfl (Nat.le_of_ble_eq_true rfl) ⟨Nat.zero_le _, Nat.zero_le _⟩ dX9_measured_48 rfl (fun H locs hO => ?_)
        refine lv_iconst (v := Int32.ofInt 1) C.1 C.2.1 dX9_measured_51 rfl ?_
        have hf := som_e hf
        subst hf
        exact j_zret C hO (Or.inr rfl) dX9_measured_52
      · have hf := (if_pos c9).symm.trans hf
        refine lv_iconst (v := Int32.ofInt 0) C.1 C.2.1 dX9_measured_35 rfl ?_
        have hf := som_e hf
        subst hf
        exact j_zret C hO (Or.inl rfl) dX9_measured_36
set_option maxHeartbeats 1000000 in
theorem c_X9_measured (l : Launch) (G : jG)  (M : jM) (l0 l1 l2 : Int) (h0 : jkd l0 = (9, 0)) {fin : Int × jM} (h : f_X9_measured M l0 l1 l2 = some fin) : Met l yX9_measured (Cond.code yX9_measured cX9_measured 5 (some .boolean) :: wsL_law) ({ frames := 4, cells := 0, slots := 0, locals := 89 } : Room) (va_Pc [jR G l0, vI l1, vI l2] (fun U => jRep G M U)) (jQ G (some (vI fin.1)) fin.2) 0 0 (jA G) := by
  refine Met.ofW (cc := cX9_measured) (maxL := 5) (ret := (some .boolean)) (by decide) rfl ?_
  intro p e s m args below meth c s₁ B hml hv
  obtain ⟨rfl, hR0⟩ := hv
  have C : jCx p s m ([jR G l0, vI l1, vI l2] : List Value).toArray meth c cX9_measured 5 RX9 (Cond.code yX9_measured cX9_measured 5 (some .boolean)) (some .boolean) := ⟨B.exec, B.bytes, hml, findClass_of_methodNamed B.named, atoms_spec B.pre, B.returns, B.notSynchronized⟩
  have hO := hR0.ok
  have hl := lv_entry ([jR G l0, vI l1, vI l2]) (n := 5) (Nat.le_of_ble_eq_true rfl)
  rw [lg_entry_eq]
  generalize (lg_sl ([jR G l0, vI l1, vI l2]) ++ List.replicate (5 - (lg_sl ([jR G l0, vI l1, vI l2])).length) Slot.unset).toArray = ls at hl ⊢
  have hl : lv_has ls 5 [(0, jR G l0), (1, vI l1), (2, vI l2)] := hl
  exact w_X9_measured C (Nat.le_refl _) (Nat.le_refl _) M l0 l1 l2 h0 h hO hl
set_option maxHeartbeats 4000000 in
theorem w_X9_odds {p : Program} {l : Launch} {e : Env} {R : Room} {s : State} {m : MethodId} {args : Array Value} {below : List Frame} {meth : Method} {c : Code} {H : Heap} {locs : List Loc} {ls : Array Slot} {G : jG}  (C : jCx p s m args meth c cX9_odds 4 RX9 (Cond.code yX9_odds cX9_odds 4 (some .long)) (some .long)) (hRf : 5 ≤ R.frames) (hRl : 113 ≤ R.locals)  (M : jM) (l0 l1 l2 l3 : Int) (h0 : jkd l0 = (9, 0)) {fin : Int × jM} (hf : f_X9_odds M l0 l1 l2 l3 = some fin) (hO : jOk G M s H locs) (hl : lv_has ls 4 [(0, jR G l0), (1, vI l1), (2, vI l2), (3, vI l3)]) : W p l e R s m args below meth c H locs 0 0 (MQ below (jQ G (some (vL fin.1)) fin.2) args s 0 0 (jA G)) (F0 m 0 ls []) := by
  unfold f_X9_odds at hf
  refine lv_iload_n C.1 C.2.1 dX9_odds_0 rfl (lv_at hl 3 rfl) ?_
  obtain ⟨r1, hr1, hf⟩ := bnd_e hf
  refine j_callS C hO (n := 1) (As := [vI l3]) (st1 := [vI r1]) (c_X9_isPart l G M l3  hr1) kC_21_16 kM_21_14 kT_21_15 kN_1_2 ⟨by decide, by decide, by decide⟩ ⟨Nat.le_trans (by decide) hRf, Nat.le_trans (by decide) hRl⟩ rfl rfl rfl hl.1 rfl (Nat.le_of_ble_eq_true rfl) ⟨Nat.zero_le _, Nat.zero_le _⟩ dX9_odds_1 rfl (fun H locs hO => ?_)
  refine j_if_eq (tgt := 16) C rfl dX9_odds_4 (by decide) (fun c2 => ?_) (fun c2 => ?_)
  · have hf := (if_pos c2).symm.trans hf
    refine j_ldc2 (x := (-9223372036854775808)) C kL_21_3 (by decide) dX9_odds_16 ?_
    have hf := som_e hf
    subst hf
    exact j_lret C hO dX9_odds_19
  · have hf := (if_neg c2).symm.trans hf
    refine lv_aload_n C.1 C.2.1 dX9_odds_7 rfl (lv_at hl 0 rfl) ?_
    refine lv_iload_n C.1 C.2.1 dX9_odds_8 rfl (lv_at hl 1 rfl) ?_
    refine lv_iload_n C.1 C.2.1 dX9_odds_9 rfl (lv_at hl 2 rfl) ?_
    obtain ⟨r3, hr3, hf⟩ := bnd_e hf
    refine j_callV C hO (n := 2) (As := [vI l1, vI l2]) (st1 := [vI r3.1]) (c_X9_measured l G M l0 l1 l2 h0 hr3) h0 rfl kC_24_11 kM_24_8 kI_24_9 kS_24_10 kN_1_2 ⟨by decide, by decide, by decide⟩ ⟨Nat.le_trans (by decide) hRf, Nat.le_trans (by decide) hRl⟩ rfl rfl rfl hl.1 rfl (Nat.le_of_ble_eq_true rfl) ⟨Nat.zero_le _, Nat.zero_le _⟩ dX9_odds_10 rfl (fun H locs hO => ?_)
    refine j_if_ne (tgt := 20) C rfl dX9_odds_13 (by decide) (fun c4 => ?_) (fun c4 => ?_)
    · have hf := (if_neg c4).symm.trans hf
      refine lv_aload_n C.1 C.2.1 dX9_odds_20 rfl (lv_at hl 0 rfl) ?_
      refine j_get C hO (ci := 9) (k := 6) (v := jR G (jpt l0 6)) h0 rfl inlX9 (by decide) kF_2_9 rfl rfl dX9_odds_21 ?_
      refine j_get C hO (ci := 2) (k := 0) (v := vL (r3.2 (jpt l0 6) 0)) (tp_9_6 h0) rfl inlX2 (by decide) kF_24_6 rfl rfl dX9_odds_24 ?_
      refine lv_aload_n C.1 C.2.1 dX9_odds_27 rfl (lv_at hl 0 rfl) ?_
      refine j_get C hO (ci := 9) (k := 6) (v := jR G (jpt l0 6)) h0 rfl inlX9 (by decide) kF_2_9 rfl rfl dX9_odds_28 ?_
      refine j_get C hO (ci := 2) (k := 2) (v := vL (r3.2 (jpt l0 6) 2)) (tp_9_6 h0) rfl inlX2 (by decide) kF_24_7 rfl rfl dX9_odds_31 ?_
      refine lv_iload_n C.1 C.2.1 dX9_odds_34 rfl (lv_at hl 3 rfl) ?_
      obtain ⟨r5, hr5, hf⟩ := bnd_e hf
      refine j_callS C hO (n := 3) (As := [vL (r3.2 (jpt l0 6) 0), vL (r3.2 (jpt l0 6) 2), vI l3]) (st1 := [vL r5]) (c_X9_fraction l G r3.2 (r3.2 (jpt l0 6) 0) (r3.2 (jpt l0 6) 2) l3  hr5) kC_22_12 kM_22_10 kT_22_11 kN_1_2 ⟨by decide, by decide, by decide⟩ ⟨Nat.le_trans (by decide) hRf, Nat.le_trans (by decide) hRl⟩ rfl rfl rfl hl.1 rfl (Nat.le_of_ble_eq_true rfl) ⟨Nat.zero_le _, Nat.zero_le _⟩ dX9_odds_35 rfl (fun H locs hO => ?_)
      have hf := som_e hf
      subst hf
      exact j_lret C hO dX9_odds_38
    · have hf := (if_pos c4).symm.trans hf
      refine j_ldc2 (x := (-9223372036854775808)) C kL_21_3 (by decide) dX9_odds_16 ?_
      have hf := som_e hf
      subst hf
      exact j_lret C hO dX9_odds_19
set_option maxHeartbeats 1000000 in
theorem c_X9_odds (l : Launch) (G : jG)  (M : jM) (l0 l1 l2 l3 : Int) (h0 : jkd l0 = (9, 0)) {fin : Int × jM} (h : f_X9_odds M l0 l1 l2 l3 = some fin) : Met l yX9_odds (Cond.code yX9_odds cX9_odds 4 (some .long) :: wsL_law) ({ frames := 5, cells := 0, slots := 0, locals := 113 } : Room) (va_Pc [jR G l0, vI l1, vI l2, vI l3] (fun U => jRep G M U)) (jQ G (some (vL fin.1)) fin.2) 0 0 (jA G) := by
  refine Met.ofW (cc := cX9_odds) (maxL := 4) (ret := (some .long)) (by decide) rfl ?_
  intro p e s m args below meth c s₁ B hml hv
  obtain ⟨rfl, hR0⟩ := hv
  have C : jCx p s m ([jR G l0, vI l1, vI l2, vI l3] : List Value).toArray meth c cX9_odds 4 RX9 (Cond.code yX9_odds cX9_odds 4 (some .long)) (some .long) := ⟨B.exec, B.bytes, hml, findClass_of_methodNamed B.named, atoms_spec B.pre, B.returns, B.notSynchronized⟩
  have hO := hR0.ok
  have hl := lv_entry ([jR G l0, vI l1, vI l2, vI l3]) (n := 4) (Nat.le_of_ble_eq_true rfl)
  rw [lg_entry_eq]
  generalize (lg_sl ([jR G l0, vI l1, vI l2, vI l3]) ++ List.replicate (4 - (lg_sl ([jR G l0, vI l1, vI l2, vI l3])).length) Slot.unset).toArray = ls at hl ⊢
  have hl : lv_has ls 4 [(0, jR G l0), (1, vI l1), (2, vI l2), (3, vI l3)] := hl
  exact w_X9_odds C (Nat.le_refl _) (Nat.le_refl _) M l0 l1 l2 l3 h0 h hO hl
set_option maxHeartbeats 4000000 in
theorem w_X9_lasts {p : Program} {l : Launch} {e : Env} {R : Room} {s : State} {m : MethodId} {args : Array Value} {below : List Frame} {meth : Method} {c : Code} {H : Heap} {locs : List Loc} {ls : Array Slot} {G : jG}  (C : jCx p s m args meth c cX9_lasts 4 RX9 (Cond.code yX9_lasts cX9_lasts 4 (some .long)) (some .long)) (hRf : 5 ≤ R.frames) (hRl : 113 ≤ R.locals)  (M : jM) (l0 l1 l2 l3 : Int) (h0 : jkd l0 = (9, 0)) {fin : Int × jM} (hf : f_X9_lasts M l0 l1 l2 l3 = some fin) (hO : jOk G M s H locs) (hl : lv_has ls 4 [(0, jR G l0), (1, vI l1), (2, vI l2), (3, vI l3)]) : W p l e R s m args below meth c H locs 0 0 (MQ below (jQ G (some (vL fin.1)) fin.2) args s 0 0 (jA G)) (F0 m 0 ls []) := by
  unfold f_X9_lasts at hf
  refine lv_iload_n C.1 C.2.1 dX9_lasts_0 rfl (lv_at hl 3 rfl) ?_
  obtain ⟨r1, hr1, hf⟩ := bnd_e hf
  refine j_callS C hO (n := 1) (As := [vI l3]) (st1 := [vI r1]) (c_X9_isPart l G M l3  hr1) kC_21_16 kM_21_14 kT_21_15 kN_1_2 ⟨by decide, by decide, by decide⟩ ⟨Nat.le_trans (by decide) hRf, Nat.le_trans (by decide) hRl⟩ rfl rfl rfl hl.1 rfl (Nat.le_of_ble_eq_true rfl) ⟨Nat.zero_le _, Nat.zero_le _⟩ dX9_lasts_1 rfl (fun H locs hO => ?_)
  refine j_if_eq (tgt := 16) C rfl dX9_lasts_4 (by decide) (fun c2 => ?_) (fun c2 => ?_)
  · have hf := (if_pos c2).symm.trans hf
    refine j_ldc2 (x := (-9223372036854775808)) C kL_21_3 (by decide) dX9_lasts_16 ?_
    have hf := som_e hf
    subst hf
    exact j_lret C hO dX9_lasts_19
  · have hf := (if_neg c2).symm.trans hf
    refine lv_aload_n C.1 C.2.1 dX9_lasts_7 rfl (lv_at hl 0 rfl) ?_
    refine lv_iload_n C.1 C.2.1 dX9_lasts_8 rfl (lv_at hl 1 rfl) ?_
    refine lv_iload_n C.1 C.2.1 dX9_lasts_9 rfl (lv_at hl 2 rfl) ?_
    obtain ⟨r3, hr3, hf⟩ := bnd_e hf
    refine j_callV C hO (n := 2) (As := [vI l1, vI l2]) (st1 := [vI r3.1]) (c_X9_measured l G M l0 l1 l2 h0 hr3) h0 rfl kC_24_11 kM_24_8 kI_24_9 kS_24_10 kN_1_2 ⟨by decide, by decide, by decide⟩ ⟨Nat.le_trans (by decide) hRf, Nat.le_trans (by decide) hRl⟩ rfl rfl rfl hl.1 rfl (Nat.le_of_ble_eq_true rfl) ⟨Nat.zero_le _, Nat.zero_le _⟩ dX9_lasts_10 rfl (fun H locs hO => ?_)
    refine j_if_ne (tgt := 20) C rfl dX9_lasts_13 (by decide) (fun c4 => ?_) (fun c4 => ?_)
    · have hf := (if_neg c4).symm.trans hf
      refine lv_aload_n C.1 C.2.1 dX9_lasts_20 rfl (lv_at hl 0 rfl) ?_
      refine j_get C hO (ci := 9) (k := 6) (v := jR G (jpt l0 6)) h0 rfl inlX9 (by decide) kF_2_9 rfl rfl dX9_lasts_21 ?_
      refine j_get C hO (ci := 2) (k := 3) (v := vL (r3.2 (jpt l0 6) 3)) (tp_9_6 h0) rfl inlX2 (by decide) kF_26_13 rfl rfl dX9_lasts_24 ?_
      refine lv_aload_n C.1 C.2.1 dX9_lasts_27 rfl (lv_at hl 0 rfl) ?_
      refine j_get C hO (ci := 9) (k := 6) (v := jR G (jpt l0 6)) h0 rfl inlX9 (by decide) kF_2_9 rfl rfl dX9_lasts_28 ?_
      refine j_get C hO (ci := 2) (k := 2) (v := vL (r3.2 (jpt l0 6) 2)) (tp_9_6 h0) rfl inlX2 (by decide) kF_24_7 rfl rfl dX9_lasts_31 ?_
      refine lv_iload_n C.1 C.2.1 dX9_lasts_34 rfl (lv_at hl 3 rfl) ?_
      obtain ⟨r5, hr5, hf⟩ := bnd_e hf
      refine j_callS C hO (n := 3) (As := [vL (r3.2 (jpt l0 6) 3), vL (r3.2 (jpt l0 6) 2), vI l3]) (st1 := [vL r5]) (c_X9_fraction l G r3.2 (r3.2 (jpt l0 6) 3) (r3.2 (jpt l0 6) 2) l3  hr5) kC_22_12 kM_22_10 kT_22_11 kN_1_2 ⟨by decide, by decide, by decide⟩ ⟨Nat.le_trans (by decide) hRf, Nat.le_trans (by decide) hRl⟩ rfl rfl rfl hl.1 rfl (Nat.le_of_ble_eq_true rfl) ⟨Nat.zero_le _, Nat.zero_le _⟩ dX9_lasts_35 rfl (fun H locs hO => ?_)
      have hf := som_e hf
      subst hf
      exact j_lret C hO dX9_lasts_38
    · have hf := (if_pos c4).symm.trans hf
      refine j_ldc2 (x := (-9223372036854775808)) C kL_21_3 (by decide) dX9_lasts_16 ?_
      have hf := som_e hf
      subst hf
      exact j_lret C hO dX9_lasts_19
set_option maxHeartbeats 1000000 in
theorem c_X9_lasts (l : Launch) (G : jG)  (M : jM) (l0 l1 l2 l3 : Int) (h0 : jkd l0 = (9, 0)) {fin : Int × jM} (h : f_X9_lasts M l0 l1 l2 l3 = some fin) : Met l yX9_lasts (Cond.code yX9_lasts cX9_lasts 4 (some .long) :: wsL_law) ({ frames := 5, cells := 0, slots := 0, locals := 113 } : Room) (va_Pc [jR G l0, vI l1, vI l2, vI l3] (fun U => jRep G M U)) (jQ G (some (vL fin.1)) fin.2) 0 0 (jA G) := by
  refine Met.ofW (cc := cX9_lasts) (maxL := 4) (ret := (some .long)) (by decide) rfl ?_
  intro p e s m args below meth c s₁ B hml hv
  obtain ⟨rfl, hR0⟩ := hv
  have C : jCx p s m ([jR G l0, vI l1, vI l2, vI l3] : List Value).toArray meth c cX9_lasts 4 RX9 (Cond.code yX9_lasts cX9_lasts 4 (some .long)) (some .long) := ⟨B.exec, B.bytes, hml, findClass_of_methodNamed B.named, atoms_spec B.pre, B.returns, B.notSynchronized⟩
  have hO := hR0.ok
  have hl := lv_entry ([jR G l0, vI l1, vI l2, vI l3]) (n := 4) (Nat.le_of_ble_eq_true rfl)
  rw [lg_entry_eq]
  generalize (lg_sl ([jR G l0, vI l1, vI l2, vI l3]) ++ List.replicate (4 - (lg_sl ([jR G l0, vI l1, vI l2, vI l3])).length) Slot.unset).toArray = ls at hl ⊢
  have hl : lv_has ls 4 [(0, jR G l0), (1, vI l1), (2, vI l2), (3, vI l3)] := hl
  exact w_X9_lasts C (Nat.le_refl _) (Nat.le_refl _) M l0 l1 l2 l3 h0 h hO hl
set_option maxHeartbeats 4000000 in
theorem w_X9_half {p : Program} {l : Launch} {e : Env} {R : Room} {s : State} {m : MethodId} {args : Array Value} {below : List Frame} {meth : Method} {c : Code} {H : Heap} {locs : List Loc} {ls : Array Slot} {G : jG}  (C : jCx p s m args meth c cX9_half 11 RX9 (Cond.code yX9_half cX9_half 11 (some .long)) (some .long)) (hRf : 5 ≤ R.frames) (hRl : 113 ≤ R.locals)  (M : jM) (l0 l1 l2 l3 : Int) (h0 : jkd l0 = (9, 0)) {fin : Int × jM} (hf : f_X9_half M l0 l1 l2 l3 = some fin) (hO : jOk G M s H locs) (hl : lv_has ls 11 [(0, jR G l0), (1, vI l1), (2, vI l2), (3, vI l3)]) : W p l e R s m args below meth c H locs 0 0 (MQ below (jQ G (some (vL fin.1)) fin.2) args s 0 0 (jA G)) (F0 m 0 ls []) := by
  unfold f_X9_half at hf
  refine lv_iload_n C.1 C.2.1 dX9_half_0 rfl (lv_at hl 3 rfl) ?_
  obtain ⟨r1, hr1, hf⟩ := bnd_e hf
  refine j_callS C hO (n := 1) (As := [vI l3]) (st1 := [vI r1]) (c_X9_isPart l G M l3  hr1) kC_21_16 kM_21_14 kT_21_15 kN_1_2 ⟨by decide, by decide, by decide⟩ ⟨Nat.le_trans (by decide) hRf, Nat.le_trans (by decide) hRl⟩ rfl rfl rfl hl.1 rfl (Nat.le_of_ble_eq_true rfl) ⟨Nat.zero_le _, Nat.zero_le _⟩ dX9_half_1 rfl (fun H locs hO => ?_)
  refine j_if_eq (tgt := 16) C rfl dX9_half_4 (by decide) (fun c2 => ?_) (fun c2 => ?_)
  · have hf := (if_pos c2).symm.trans hf
    refine j_ldc2 (x := (-9223372036854775808)) C kL_21_3 (by decide) dX9_half_16 ?_
    have hf := som_e hf
    subst hf
    exact j_lret C hO dX9_half_19
  · have hf := (if_neg c2).symm.trans hf
    refine lv_aload_n C.1 C.2.1 dX9_half_7 rfl (lv_at hl 0 rfl) ?_
    refine lv_iload_n C.1 C.2.1 dX9_half_8 rfl (lv_at hl 1 rfl) ?_
    refine lv_iload_n C.1 C.2.1 dX9_half_9 rfl (lv_at hl 2 rfl) ?_
    obtain ⟨r3, hr3, hf⟩ := bnd_e hf
    refine j_callV C hO (n := 2) (As := [vI l1, vI l2]) (st1 := [vI r3.1]) (c_X9_measured l G M l0 l1 l2 h0 hr3) h0 rfl kC_24_11 kM_24_8 kI_24_9 kS_24_10 kN_1_2 ⟨by decide, by decide, by decide⟩ ⟨Nat.le_trans (by decide) hRf, Nat.le_trans (by decide) hRl⟩ rfl rfl rfl hl.1 rfl (Nat.le_of_ble_eq_true rfl) ⟨Nat.zero_le _, Nat.zero_le _⟩ dX9_half_10 rfl (fun H locs hO => ?_)
    refine j_if_ne (tgt := 20) C rfl dX9_half_13 (by decide) (fun c4 => ?_) (fun c4 => ?_)
    · have hf := (if_neg c4).symm.trans hf
      refine lv_aload_n C.1 C.2.1 dX9_half_20 rfl (lv_at hl 0 rfl) ?_
      refine j_get C hO (ci := 9) (k := 0) (v := jR G (jpt l0 0)) h0 rfl inlX9 (by decide) kF_1_15 rfl rfl dX9_half_21 ?_
      refine lv_iload_n C.1 C.2.1 dX9_half_24 rfl (lv_at hl 1 rfl) ?_
      obtain ⟨r5, hr5, hf⟩ := bnd_e hf
      obtain ⟨g6, hf⟩ := grd_e hf
      refine j_callV C hO (n := 1) (As := [vI l1]) (st1 := [jN G r5]) (c_X8_rowAt l G r3.2 (jpt l0 0) l1 (tp_9_0 h0) hr5) (tp_9_0 h0) rfl kC_18_22 kM_18_19 kI_18_20 kS_18_21 kN_1_14 ⟨by decide, by decide, by decide⟩ ⟨Nat.le_trans (by decide) hRf, Nat.le_trans (by decide) hRl⟩ rfl rfl rfl hl.1 rfl (Nat.le_of_ble_eq_true rfl) ⟨Nat.zero_le _, Nat.zero_le _⟩ dX9_half_25 rfl (fun H locs hO => ?_)
      refine j_astoreN (i := 4) (lv' := [(0, jR G l0), (1, vI l1), (2, vI l2), (3, vI l3)]) C dX9_half_28 hl (by decide) (fun _ _ => rfl) (fun ls hl => ?_)
      refine lv_aload_n C.1 C.2.1 dX9_half_30 rfl (lv_at hl 1 rfl) ?_
      refine j_get C hO (ci := 9) (k := 0) (v := jR G (jpt l0 0)) h0 rfl inlX9 (by decide) kF_1_15 rfl rfl dX9_half_31 ?_
      refine lv_iload_n C.1 C.2.1 dX9_half_34 rfl (lv_at hl 3 rfl) ?_
      obtain ⟨r7, hr7, hf⟩ := bnd_e hf
      obtain ⟨g8, hf⟩ := grd_e hf
      refine j_callV C hO (n := 1) (As := [vI l2]) (st1 := [jN G r7]) (c_X8_rowAt l G r3.2 (jpt l0 0) l2 (tp_9_0 h0) hr7) (tp_9_0 h0) rfl kC_18_22 kM_18_19 kI_18_20 kS_18_21 kN_1_14 ⟨by decide, by decide, by decide⟩ ⟨Nat.le_trans (by decide) hRf, Nat.le_trans (by decide) hRl⟩ rfl rfl rfl hl.1 rfl (Nat.le_of_ble_eq_true rfl) ⟨Nat.zero_le _, Nat.zero_le _⟩ dX9_half_35 rfl (fun H locs hO => ?_)
      refine j_astoreN (i := 5) (lv' := [(4, jN G r5), (0, jR G l0), (1, vI l1), (2, vI l2), (3, vI l3)]) C dX9_half_38 hl (by decide) (fun _ _ => by simp [List.filter, jN_cat]) (fun ls hl => ?_)
      refine lv_aload_n C.1 C.2.1 dX9_half_40 rfl (lv_at hl 2 rfl) ?_
      refine j_get C hO (ci := 9) (k := 0) (v := jR G (jpt l0 0)) h0 rfl inlX9 (by decide) kF_1_15 rfl rfl dX9_half_41 ?_
      refine j_get C hO (ci := 8) (k := 12) (v := jR G (jpt (jpt l0 0) 12)) (tp_9_0 h0) rfl inlX8 (by decide) kF_27_2 rfl rfl dX9_half_44 ?_
      refine lv_astore (lv' := [(6, jR G (jpt (jpt l0 0) 12)), (5, jN G r7), (4, jN G r5), (0, jR G l0), (1, vI l1), (2, vI l2), (3, vI l3)]) C.1 C.2.1 dX9_half_47 hl (by decide) (by simp [List.filter, jN_cat]) (fun ls hl => ?_)
      refine j_aloadN C dX9_half_49 (lv_at hl 2 rfl) ?_
      refine j_ifnull (tgt := 91) C dX9_half_51 (by decide) (fun c9 => ?_) (fun c9 => ?_)
      · have hf := (if_pos c9).symm.trans hf
        refine j_ldc2 (x := (-9223372036854775808)) C kL_21_3 (by decide) dX9_half_91 ?_
        have hf := som_e hf
        subst hf
        exact j_lret C hO dX9_half_94
      · have hf := (if_neg c9).symm.trans hf
        rw [jN_p (Int.not_lt.mp c9)] at hl
        refine j_aloadN C dX9_half_54 (lv_at hl 1 rfl) ?_
        refine j_ifnull (tgt := 91) C dX9_half_56 (by decide) (fun c10 => ?_) (fun c10 => ?_)
        · have hf := (if_pos c10).symm.trans hf
          refine j_ldc2 (x := (-9223372036854775808)) C kL_21_3 (by decide) dX9_half_91 ?_
          have hf := som_e hf
          subst hf
          exact j_lret C hO dX9_half_94
        · have hf := (if_neg c10).symm.trans hf
          rw [jN_p (Int.not_lt.mp c10)] at hl
          refine lv_aload_n C.1 C.2.1 dX9_half_59 rfl (lv_at hl 3 rfl) ?_
          refine j_get C hO (ci := 9) (k := 5) (v := jR G (jpt l0 5)) h0 rfl inlX9 (by decide) kF_2_5 rfl rfl dX9_half_60 ?_
          refine lv_aload C.1 C.2.1 dX9_half_63 (lv_at hl 0 rfl) ?_
          obtain ⟨r11, hr11, hf⟩ := bnd_e hf
          refine j_callV C hO (n := 1) (As := [jR G (jpt (jpt l0 0) 12)]) (st1 := [vI r11]) (c_X6_isLawful l G r3.2 (jpt l0 5) (jpt (jpt l0 0) 12) (tp_9_5 h0) (tp_8_12 (tp_9_0 h0)) hr11) (tp_9_5 h0) rfl kC_21_11 kM_21_8 kI_21_9 kS_21_10 kN_2_4 ⟨by decide, by decide, by decide⟩ ⟨Nat.le_trans (by decide) hRf, Nat.le_trans (by decide) hRl⟩ rfl rfl rfl hl.1 rfl (Nat.le_of_ble_eq_true rfl) ⟨Nat.zero_le _, Nat.zero_le _⟩ dX9_half_65 rfl (fun H locs hO => ?_)
          refine j_if_eq (tgt := 91) C rfl dX9_half_68 (by decide) (fun c12 => ?_) (fun c12 => ?_)
          · have hf := (if_pos c12).symm.trans hf
            refine j_ldc2 (x := (-9223372036854775808)) C kL_21_3 (by decide) dX9_half_91 ?_
            have hf := som_e hf
            subst hf
            exact j_lret C hO dX9_half_94
          · have hf := (if_neg c12).symm.trans hf
            refine lv_aload C.1 C.2.1 dX9_half_71 (lv_at hl 0 rfl) ?_
            refine lv_aload C.1 C.2.1 dX9_half_73 (lv_at hl 2 rfl) ?_
            obtain ⟨r13, hr13, hf⟩ := bnd_e hf
            refine j_callV C hO (n := 1) (As := [jR G r5]) (st1 := [vI r13]) (c_X3_has l G r3.2 (jpt (jpt l0 0) 12) r5 (tp_8_12 (tp_9_0 h0)) (g6.resolve_left c9) hr13) (tp_8_12 (tp_9_0 h0)) rfl kC_27_6 kM_27_3 kI_27_4 kS_27_5 kN_3_8 ⟨by decide, by decide, by decide⟩ ⟨Nat.le_trans (by decide) hRf, Nat.le_trans (by decide) hRl⟩ rfl rfl rfl hl.1 rfl (Nat.le_of_ble_eq_true rfl) ⟨Nat.zero_le _, Nat.zero_le _⟩ dX9_half_75 rfl (fun H locs hO => ?_)
            refine j_if_ne (tgt := 91) C rfl dX9_half_78 (by decide) (fun c14 => ?_) (fun c14 => ?_)
            · have hf := (if_neg c14).symm.trans hf
              refine j_ldc2 (x := (-9223372036854775808)) C kL_21_3 (by decide) dX9_half_91 ?_
              have hf := som_e hf
              subst hf
              exact j_lret C hO dX9_half_94
            · have hf := (if_pos c14).symm.trans hf
              refine lv_aload C.1 C.2.1 dX9_half_81 (lv_at hl 0 rfl) ?_
              refine lv_aload C.1 C.2.1 dX9_half_83 (lv_at hl 1 rfl) ?_
              obtain ⟨r15, hr15, hf⟩ := bnd_e hf
              refine j_callV C hO (n := 1) (As := [jR G r7]) (st1 := [vI r15]) (c_X3_has l G r3.2 (jpt (jpt l0 0) 12) r7 (tp_8_12 (tp_9_0 h0)) (g8.resolve_left c10) hr15) (tp_8_12 (tp_9_0 h0)) rfl kC_27_6 kM_27_3 kI_27_4 kS_27_5 kN_3_8 ⟨by decide, by decide, by decide⟩ ⟨Nat.le_trans (by decide) hRf, Nat.le_trans (by decide) hRl⟩ rfl rfl rfl hl.1 rfl (Nat.le_of_ble_eq_true rfl) ⟨Nat.zero_le _, Nat.zero_le _⟩ dX9_half_85 rfl (fun H locs hO => ?_)
              refine j_if_eq (tgt := 95) C rfl dX9_half_88 (by decide) (fun c16 => ?_) (fun c16 => ?_)
              · have hf := (if_pos c16).symm.trans hf
                refine lv_aload_n C.1 C.2.1 dX9_half_95 rfl (lv_at hl 3 rfl) ?_
                refine j_get C hO (ci := 9) (k := 5) (v := jR G (jpt l0 5)) h0 rfl inlX9 (by decide) kF_2_5 rfl rfl dX9_half_96 ?_
                refine lv_aload C.1 C.2.1 dX9_half_99 (lv_at hl 0 rfl) ?_
                refine lv_aload C.1 C.2.1 dX9_half_101 (lv_at hl 1 rfl) ?_
                obtain ⟨r17, hr17, hf⟩ := bnd_e hf
                refine j_callV C hO (n := 2) (As := [jR G (jpt (jpt l0 0) 12), jR G r7]) (st1 := [vL r17]) (c_X6_lap l G r3.2 (jpt l0 5) (jpt (jpt l0 0) 12) r7 (tp_9_5 h0) (tp_8_12 (tp_9_0 h0)) (g8.resolve_left c10) hr17) (tp_9_5 h0) rfl kC_21_20 kM_21_17 kI_21_18 kS_21_19 kN_2_4 ⟨by decide, by decide, by decide⟩ ⟨Nat.le_trans (by decide) hRf, Nat.le_trans (by decide) hRl⟩ rfl rfl rfl hl.1 rfl (Nat.le_of_ble_eq_true rfl) ⟨Nat.zero_le _, Nat.zero_le _⟩ dX9_half_103 rfl (fun H locs hO => ?_)
                refine lv_aload_n C.1 C.2.1 dX9_half_106 rfl (lv_at hl 3 rfl) ?_
                refine j_get C hO (ci := 9) (k := 5) (v := jR G (jpt l0 5)) h0 rfl inlX9 (by decide) kF_2_5 rfl rfl dX9_half_107 ?_
                refine lv_aload C.1 C.2.1 dX9_half_110 (lv_at hl 2 rfl) ?_
                obtain ⟨r18, hr18, hf⟩ := bnd_e hf
                refine j_callV C hO (n := 1) (As := [jR G r5]) (st1 := [vL r18, vL r17]) (c_X6_product l G r3.2 (jpt l0 5) r5 (tp_9_5 h0) (g6.resolve_left c9) hr18) (tp_9_5 h0) rfl kC_22_9 kM_22_6 kI_22_7 kS_22_8 kN_2_4 ⟨by decide, by decide, by decide⟩ ⟨Nat.le_trans (by decide) hRf, Nat.le_trans (by decide) hRl⟩ rfl rfl rfl hl.1 rfl (Nat.le_of_ble_eq_true rfl) ⟨Nat.zero_le _, Nat.zero_le _⟩ dX9_half_112 rfl (fun H locs hO => ?_)
                refine j_lmul C dX9_half_115 ?_
                refine lv_lstore (lv' := [(7, vL (r17 * r18)), (6, jR G (jpt (jpt l0 0) 12)), (5, jR G r7), (4, jR G r5), (0, jR G l0), (1, vI l1), (2, vI l2), (3, vI l3)]) C.1 C.2.1 dX9_half_116 hl (by decide) rfl (fun ls hl => ?_)
                refine lv_aload_n C.1 C.2.1 dX9_half_118 rfl (lv_at hl 4 rfl) ?_
                refine j_get C hO (ci := 9) (k := 5) (v := jR G (jpt l0 5)) h0 rfl inlX9 (by decide) kF_2_5 rfl rfl dX9_half_119 ?_
                refine lv_aload C.1 C.2.1 dX9_half_122 (lv_at hl 1 rfl) ?_
                refine lv_aload C.1 C.2.1 dX9_half_124 (lv_at hl 3 rfl) ?_
                obtain ⟨r19, hr19, hf⟩ := bnd_e hf
                refine j_callV C hO (n := 2) (As := [jR G (jpt (jpt l0 0) 12), jR G r5]) (st1 := [vL r19]) (c_X6_lap l G r3.2 (jpt l0 5) (jpt (jpt l0 0) 12) r5 (tp_9_5 h0) (tp_8_12 (tp_9_0 h0)) (g6.resolve_left c9) hr19) (tp_9_5 h0) rfl kC_21_20 kM_21_17 kI_21_18 kS_21_19 kN_2_4 ⟨by decide, by decide, by decide⟩ ⟨Nat.le_trans (by decide) hRf, Nat.le_trans (by decide) hRl⟩ rfl rfl rfl hl.1 rfl (Nat.le_of_ble_eq_true rfl) ⟨Nat.zero_le _, Nat.zero_le _⟩ dX9_half_126 rfl (fun H locs hO => ?_)
                refine lv_aload_n C.1 C.2.1 dX9_half_129 rfl (lv_at hl 4 rfl) ?_
                refine j_get C hO (ci := 9) (k := 5) (v := jR G (jpt l0 5)) h0 rfl inlX9 (by decide) kF_2_5 rfl rfl dX9_half_130 ?_
                refine lv_aload C.1 C.2.1 dX9_half_133 (lv_at hl 2 rfl) ?_
                obtain ⟨r20, hr20, hf⟩ := bnd_e hf
                refine j_callV C hO (n := 1) (As := [jR G r7]) (st1 := [vL r20, vL r19]) (c_X6_product l G r3.2 (jpt l0 5) r7 (tp_9_5 h0) (g8.resolve_left c10) hr20) (tp_9_5 h0) rfl kC_22_9 kM_22_6 kI_22_7 kS_22_8 kN_2_4 ⟨by decide, by decide, by decide⟩ ⟨Nat.le_trans (by decide) hRf, Nat.le_trans (by decide) hRl⟩ rfl rfl rfl hl.1 rfl (Nat.le_of_ble_eq_true rfl) ⟨Nat.zero_le _, Nat.zero_le _⟩ dX9_half_135 rfl (fun H locs hO => ?_)
                refine j_lmul C dX9_half_138 ?_
                refine lv_lstore (lv' := [(9, vL (r19 * r20)), (7, vL (r17 * r18)), (6, jR G (jpt (jpt l0 0) 12)), (5, jR G r7), (4, jR G r5), (0, jR G l0), (1, vI l1), (2, vI l2), (3, vI l3)]) C.1 C.2.1 dX9_half_139 hl (by decide) rfl (fun ls hl => ?_)
                refine lv_aload_n C.1 C.2.1 dX9_half_141 rfl (lv_at hl 5 rfl) ?_
                refine j_get C hO (ci := 9) (k := 6) (v := jR G (jpt l0 6)) h0 rfl inlX9 (by decide) kF_2_9 rfl rfl dX9_half_142 ?_
                refine j_get C hO (ci := 2) (k := 0) (v := vL (r3.2 (jpt l0 6) 0)) (tp_9_6 h0) rfl inlX2 (by decide) kF_24_6 rfl rfl dX9_half_145 ?_
                refine lv_lload C.1 C.2.1 dX9_half_148 (lv_at hl 1 rfl) ?_
                refine j_lsub C dX9_half_150 ?_
                refine lv_lload C.1 C.2.1 dX9_half_151 (lv_at hl 0 rfl) ?_
                refine j_ladd C dX9_half_153 ?_
                refine lv_aload_n C.1 C.2.1 dX9_half_154 rfl (lv_at hl 5 rfl) ?_
                refine j_get C hO (ci := 9) (k := 6) (v := jR G (jpt l0 6)) h0 rfl inlX9 (by decide) kF_2_9 rfl rfl dX9_half_155 ?_
                refine j_get C hO (ci := 2) (k := 2) (v := vL (r3.2 (jpt l0 6) 2)) (tp_9_6 h0) rfl inlX2 (by decide) kF_24_7 rfl rfl dX9_half_158 ?_
                refine lv_iload_n C.1 C.2.1 dX9_half_161 rfl (lv_at hl 8 rfl) ?_
                obtain ⟨r21, hr21, hf⟩ := bnd_e hf
                refine j_callS C hO (n := 3) (As := [vL (((r3.2 (jpt l0 6) 0) - (r17 * r18)) + (r19 * r20)), vL (r3.2 (jpt l0 6) 2), vI l3]) (st1 := [vL r21]) (c_X9_fraction l G r3.2 (((r3.2 (jpt l0 6) 0) - (r17 * r18)) + (r19 * r20)) (r3.2 (jpt l0 6) 2) l3  hr21) kC_22_12 kM_22_10 kT_22_11 kN_1_2 ⟨by decide, by decide, by decide⟩ ⟨Nat.le_trans (by decide) hRf, Nat.le_trans (by decide) hRl⟩ rfl rfl rfl hl.1 rfl (Nat.le_of_ble_eq_true rfl) ⟨Nat.zero_le _, Nat.zero_le _⟩ dX9_half_162 rfl (fun H locs hO => ?_)
                have hf := som_e hf
                subst hf
                exact j_lret C hO dX9_half_165
              · have hf := (if_neg c16).symm.trans hf
                refine j_ldc2 (x := (-9223372036854775808)) C kL_21_3 (by decide) dX9_half_91 ?_
                have hf := som_e hf
                subst hf
                exact j_lret C hO dX9_half_94
    · have hf := (if_pos c4).symm.trans hf
      refine j_ldc2 (x := (-9223372036854775808)) C kL_21_3 (by decide) dX9_half_16 ?_
      have hf := som_e hf
      subst hf
      exact j_lret C hO dX9_half_19
set_option maxHeartbeats 1000000 in
theorem c_X9_half (l : Launch) (G : jG)  (M : jM) (l0 l1 l2 l3 : Int) (h0 : jkd l0 = (9, 0)) {fin : Int × jM} (h : f_X9_half M l0 l1 l2 l3 = some fin) : Met l yX9_half (Cond.code yX9_half cX9_half 11 (some .long) :: wsL_law) ({ frames := 5, cells := 0, slots := 0, locals := 113 } : Room) (va_Pc [jR G l0, vI l1, vI l2, vI l3] (fun U => jRep G M U)) (jQ G (some (vL fin.1)) fin.2) 0 0 (jA G) := by
  refine Met.ofW (cc := cX9_half) (maxL := 11) (ret := (some .long)) (by decide) rfl ?_
  intro p e s m args below meth c s₁ B hml hv
  obtain ⟨rfl, hR0⟩ := hv
  have C : jCx p s m ([jR G l0, vI l1, vI l2, vI l3] : List Value).toArray meth c cX9_half 11 RX9 (Cond.code yX9_half cX9_half 11 (some .long)) (some .long) := ⟨B.exec, B.bytes, hml, findClass_of_methodNamed B.named, atoms_spec B.pre, B.returns, B.notSynchronized⟩
  have hO := hR0.ok
  have hl := lv_entry ([jR G l0, vI l1, vI l2, vI l3]) (n := 11) (Nat.le_of_ble_eq_true rfl)
  rw [lg_entry_eq]
  generalize (lg_sl ([jR G l0, vI l1, vI l2, vI l3]) ++ List.replicate (11 - (lg_sl ([jR G l0, vI l1, vI l2, vI l3])).length) Slot.unset).toArray = ls at hl ⊢
  have hl : lv_has ls 11 [(0, jR G l0), (1, vI l1), (2, vI l2), (3, vI l3)] := hl
  exact w_X9_half C (Nat.le_refl _) (Nat.le_refl _) M l0 l1 l2 l3 h0 h hO hl
