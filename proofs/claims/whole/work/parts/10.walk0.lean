set_option maxHeartbeats 4000000 in
theorem w_X3_zeros {p : Program} {l : Launch} {e : Env} {R : Room} {s : State} {m : MethodId} {args : Array Value} {below : List Frame} {meth : Method} {c : Code} {H : Heap} {locs : List Loc} {ls : Array Slot} {G : jG}  (C : jCx p s m args meth c cX3_zeros 2 RX3 (Cond.code yX3_zeros cX3_zeros 2 none) none) (hRf : 0 ≤ R.frames) (hRl : 0 ≤ R.locals)  (M : jM) (l0 l1 : Int) (h0 : jkd l0 = (3, 0)) {fin : jM} (hf : f_X3_zeros M l0 l1 = some fin) (hO : jOk G M s H locs) (hl : lv_has ls 2 [(0, jR G l0), (1, vI l1)]) : W p l e R s m args below meth c H locs 0 0 (MQ below (jQ G none fin) args s 0 0 (jA G)) (F0 m 0 ls []) := by
  unfold f_X3_zeros at hf
  refine lv_aload_n C.1 C.2.1 dX3_zeros_0 rfl (lv_at hl 0 rfl) ?_
  refine lv_iload_n C.1 C.2.1 dX3_zeros_1 rfl (lv_at hl 1 rfl) ?_
  obtain ⟨M1, hM1, hf⟩ := lt1_e hf
  refine j_put C hO (ci := 3) (k := 0) (x := l1) h0 rfl inlX3 tyX3_ok nmX3 (by decide) kF_17_15 rfl rfl rfl rfl (by simp [jfl]) (fs_3_0) dX3_zeros_2 (fun H locs hO => ?_)
  rw [← hM1] at hO
  refine lv_aload_n C.1 C.2.1 dX3_zeros_5 rfl (lv_at hl 0 rfl) ?_
  refine lv_lconst (v := Int64.ofInt 0) C.1 C.2.1 dX3_zeros_6 (by decide) ?_
  obtain ⟨M2, hM2, hf⟩ := lt1_e hf
  refine j_put C hO (ci := 3) (k := 1) (x := 0) h0 rfl inlX3 tyX3_ok nmX3 (by decide) kF_17_16 rfl rfl rfl rfl (by simp [jfl]) (fs_3_1) dX3_zeros_7 (fun H locs hO => ?_)
  rw [← hM2] at hO
  have hf := som_e hf
  subst hf
  exact j_vret C hO dX3_zeros_10
set_option maxHeartbeats 1000000 in
theorem c_X3_zeros (l : Launch) (G : jG)  (M : jM) (l0 l1 : Int) (h0 : jkd l0 = (3, 0)) {fin : jM} (h : f_X3_zeros M l0 l1 = some fin) : Met l yX3_zeros (Cond.code yX3_zeros cX3_zeros 2 none :: wsL_law) ({ frames := 0, cells := 0, slots := 0, locals := 0 } : Room) (va_Pc [jR G l0, vI l1] (fun U => jRep G M U)) (jQ G none fin) 0 0 (jA G) := by
  refine Met.ofW (cc := cX3_zeros) (maxL := 2) (ret := none) (by decide) rfl ?_
  intro p e s m args below meth c s₁ B hml hv
  obtain ⟨rfl, hR0⟩ := hv
  have C : jCx p s m ([jR G l0, vI l1] : List Value).toArray meth c cX3_zeros 2 RX3 (Cond.code yX3_zeros cX3_zeros 2 none) none := ⟨B.exec, B.bytes, hml, findClass_of_methodNamed B.named, atoms_spec B.pre, B.returns, B.notSynchronized⟩
  have hO := hR0.ok
  have hl := lv_entry ([jR G l0, vI l1]) (n := 2) (Nat.le_of_ble_eq_true rfl)
  rw [lg_entry_eq]
  generalize (lg_sl ([jR G l0, vI l1]) ++ List.replicate (2 - (lg_sl ([jR G l0, vI l1])).length) Slot.unset).toArray = ls at hl ⊢
  have hl : lv_has ls 2 [(0, jR G l0), (1, vI l1)] := hl
  exact w_X3_zeros C (Nat.le_refl _) (Nat.le_refl _) M l0 l1 h0 h hO hl
set_option maxHeartbeats 4000000 in
theorem w_X3_copy {p : Program} {l : Launch} {e : Env} {R : Room} {s : State} {m : MethodId} {args : Array Value} {below : List Frame} {meth : Method} {c : Code} {H : Heap} {locs : List Loc} {ls : Array Slot} {G : jG}  (C : jCx p s m args meth c cX3_copy 2 RX3 (Cond.code yX3_copy cX3_copy 2 none) none) (hRf : 0 ≤ R.frames) (hRl : 0 ≤ R.locals)  (M : jM) (l0 l1 : Int) (h0 : jkd l0 = (3, 0)) (h1 : jkd l1 = (3, 0)) {fin : jM} (hf : f_X3_copy M l0 l1 = some fin) (hO : jOk G M s H locs) (hl : lv_has ls 2 [(0, jR G l0), (1, jR G l1)]) : W p l e R s m args below meth c H locs 0 0 (MQ below (jQ G none fin) args s 0 0 (jA G)) (F0 m 0 ls []) := by
  unfold f_X3_copy at hf
  refine lv_aload_n C.1 C.2.1 dX3_copy_0 rfl (lv_at hl 0 rfl) ?_
  refine lv_aload_n C.1 C.2.1 dX3_copy_1 rfl (lv_at hl 1 rfl) ?_
  refine j_get C hO (ci := 3) (k := 0) (v := vI (M l1 0)) h1 rfl inlX3 (by decide) kF_17_15 rfl rfl dX3_copy_2 ?_
  obtain ⟨M1, hM1, hf⟩ := lt1_e hf
  refine j_put C hO (ci := 3) (k := 0) (x := M l1 0) h0 rfl inlX3 tyX3_ok nmX3 (by decide) kF_17_15 rfl rfl rfl rfl (by simp [jfl]) (fs_3_0) dX3_copy_5 (fun H locs hO => ?_)
  rw [← hM1] at hO
  refine lv_aload_n C.1 C.2.1 dX3_copy_8 rfl (lv_at hl 0 rfl) ?_
  refine lv_aload_n C.1 C.2.1 dX3_copy_9 rfl (lv_at hl 1 rfl) ?_
  refine j_get C hO (ci := 3) (k := 1) (v := vL (M1 l1 1)) h1 rfl inlX3 (by decide) kF_17_16 rfl rfl dX3_copy_10 ?_
  obtain ⟨M2, hM2, hf⟩ := lt1_e hf
  refine j_put C hO (ci := 3) (k := 1) (x := M1 l1 1) h0 rfl inlX3 tyX3_ok nmX3 (by decide) kF_17_16 rfl rfl rfl rfl (by simp [jfl]) (fs_3_1) dX3_copy_13 (fun H locs hO => ?_)
  rw [← hM2] at hO
  have hf := som_e hf
  subst hf
  exact j_vret C hO dX3_copy_16
set_option maxHeartbeats 1000000 in
theorem c_X3_copy (l : Launch) (G : jG)  (M : jM) (l0 l1 : Int) (h0 : jkd l0 = (3, 0)) (h1 : jkd l1 = (3, 0)) {fin : jM} (h : f_X3_copy M l0 l1 = some fin) : Met l yX3_copy (Cond.code yX3_copy cX3_copy 2 none :: wsL_law) ({ frames := 0, cells := 0, slots := 0, locals := 0 } : Room) (va_Pc [jR G l0, jR G l1] (fun U => jRep G M U)) (jQ G none fin) 0 0 (jA G) := by
  refine Met.ofW (cc := cX3_copy) (maxL := 2) (ret := none) (by decide) rfl ?_
  intro p e s m args below meth c s₁ B hml hv
  obtain ⟨rfl, hR0⟩ := hv
  have C : jCx p s m ([jR G l0, jR G l1] : List Value).toArray meth c cX3_copy 2 RX3 (Cond.code yX3_copy cX3_copy 2 none) none := ⟨B.exec, B.bytes, hml, findClass_of_methodNamed B.named, atoms_spec B.pre, B.returns, B.notSynchronized⟩
  have hO := hR0.ok
  have hl := lv_entry ([jR G l0, jR G l1]) (n := 2) (Nat.le_of_ble_eq_true rfl)
  rw [lg_entry_eq]
  generalize (lg_sl ([jR G l0, jR G l1]) ++ List.replicate (2 - (lg_sl ([jR G l0, jR G l1])).length) Slot.unset).toArray = ls at hl ⊢
  have hl : lv_has ls 2 [(0, jR G l0), (1, jR G l1)] := hl
  exact w_X3_copy C (Nat.le_refl _) (Nat.le_refl _) M l0 l1 h0 h1 h hO hl
set_option maxHeartbeats 4000000 in
theorem w_X3_add {p : Program} {l : Launch} {e : Env} {R : Room} {s : State} {m : MethodId} {args : Array Value} {below : List Frame} {meth : Method} {c : Code} {H : Heap} {locs : List Loc} {ls : Array Slot} {G : jG}  (C : jCx p s m args meth c cX3_add 2 RX3 (Cond.code yX3_add cX3_add 2 none) none) (hRf : 0 ≤ R.frames) (hRl : 0 ≤ R.locals)  (M : jM) (l0 l1 : Int) (h0 : jkd l0 = (3, 0)) {fin : jM} (hf : f_X3_add M l0 l1 = some fin) (hO : jOk G M s H locs) (hl : lv_has ls 2 [(0, jR G l0), (1, vI l1)]) : W p l e R s m args below meth c H locs 0 0 (MQ below (jQ G none fin) args s 0 0 (jA G)) (F0 m 0 ls []) := by
  unfold f_X3_add at hf
  refine lv_aload_n C.1 C.2.1 dX3_add_0 rfl (lv_at hl 0 rfl) ?_
  refine lv_aload_n C.1 C.2.1 dX3_add_1 rfl (lv_at hl 0 rfl) ?_
  refine j_get C hO (ci := 3) (k := 1) (v := vL (M l0 1)) h0 rfl inlX3 (by decide) kF_17_16 rfl rfl dX3_add_2 ?_
  refine lv_iconst (v := Int32.ofInt 2) C.1 C.2.1 dX3_add_5 rfl ?_
  refine j_lshl C dX3_add_6 ?_
  refine lv_iload_n C.1 C.2.1 dX3_add_7 rfl (lv_at hl 1 rfl) ?_
  refine j_i2l C dX3_add_8 ?_
  refine j_lor C dX3_add_9 ?_
  obtain ⟨M1, hM1, hf⟩ := lt1_e hf
  refine j_put C hO (ci := 3) (k := 1) (x := lor (lshl (M l0 1) 2) (w32 l1)) h0 rfl inlX3 tyX3_ok nmX3 (by decide) kF_17_16 rfl rfl rfl rfl (by simp [jfl]) (fs_3_1) dX3_add_10 (fun H locs hO => ?_)
  rw [← hM1] at hO
  refine lv_aload_n C.1 C.2.1 dX3_add_13 rfl (lv_at hl 0 rfl) ?_
  refine lv_dup C.1 C.2.1 dX3_add_14 rfl ?_
  refine j_get C hO (ci := 3) (k := 0) (v := vI (M1 l0 0)) h0 rfl inlX3 (by decide) kF_17_15 rfl rfl dX3_add_15 ?_
  refine lv_iconst (v := Int32.ofInt 1) C.1 C.2.1 dX3_add_18 rfl ?_
  refine j_iadd C dX3_add_19 ?_
  obtain ⟨M2, hM2, hf⟩ := lt1_e hf
  refine j_put C hO (ci := 3) (k := 0) (x := (M1 l0 0) + 1) h0 rfl inlX3 tyX3_ok nmX3 (by decide) kF_17_15 rfl rfl rfl rfl (by simp [jfl]) (fs_3_0) dX3_add_20 (fun H locs hO => ?_)
  rw [← hM2] at hO
  have hf := som_e hf
  subst hf
  exact j_vret C hO dX3_add_23
set_option maxHeartbeats 1000000 in
theorem c_X3_add (l : Launch) (G : jG)  (M : jM) (l0 l1 : Int) (h0 : jkd l0 = (3, 0)) {fin : jM} (h : f_X3_add M l0 l1 = some fin) : Met l yX3_add (Cond.code yX3_add cX3_add 2 none :: wsL_law) ({ frames := 0, cells := 0, slots := 0, locals := 0 } : Room) (va_Pc [jR G l0, vI l1] (fun U => jRep G M U)) (jQ G none fin) 0 0 (jA G) := by
  refine Met.ofW (cc := cX3_add) (maxL := 2) (ret := none) (by decide) rfl ?_
  intro p e s m args below meth c s₁ B hml hv
  obtain ⟨rfl, hR0⟩ := hv
  have C : jCx p s m ([jR G l0, vI l1] : List Value).toArray meth c cX3_add 2 RX3 (Cond.code yX3_add cX3_add 2 none) none := ⟨B.exec, B.bytes, hml, findClass_of_methodNamed B.named, atoms_spec B.pre, B.returns, B.notSynchronized⟩
  have hO := hR0.ok
  have hl := lv_entry ([jR G l0, vI l1]) (n := 2) (Nat.le_of_ble_eq_true rfl)
  rw [lg_entry_eq]
  generalize (lg_sl ([jR G l0, vI l1]) ++ List.replicate (2 - (lg_sl ([jR G l0, vI l1])).length) Slot.unset).toArray = ls at hl ⊢
  have hl : lv_has ls 2 [(0, jR G l0), (1, vI l1)] := hl
  exact w_X3_add C (Nat.le_refl _) (Nat.le_refl _) M l0 l1 h0 h hO hl
set_option maxHeartbeats 4000000 in
theorem w_X3_signAt_12 {p : Program} {l : Launch} {e : Env} {R : Room} {s : State} {m : MethodId} {args : Array Value} {below : List Frame} {meth : Method} {c : Code} {H : Heap} {locs : List Loc} {ls : Array Slot} {G : jG}  (C : jCx p s m args meth c cX3_signAt 2 RX3 (Cond.code yX3_signAt cX3_signAt 2 (some .int)) (some .int)) (hRf : 0 ≤ R.frames) (hRl : 0 ≤ R.locals)  (M : jM) {fin : Int} (hf : f_X3_signAt_12 M  = some fin) (hO : jOk G M s H locs) (hl : lv_has ls 2 []) : W p l e R s m args below meth c H locs 0 0 (MQ below (jQ G (some (vI fin)) M) args s 0 0 (jA G)) (F0 m 12 ls []) := by
  unfold f_X3_signAt_12 at hf
  refine lv_iconst (v := Int32.ofInt (-1)) C.1 C.2.1 dX3_signAt_12 rfl ?_
  refine lv_goto (tgt := 34) C.1 C.2.1 dX3_signAt_13 (by decide) ?_
  have hf := som_e hf
  subst hf
  exact j_iret C hO dX3_signAt_34
set_option maxHeartbeats 4000000 in
theorem w_X3_signAt {p : Program} {l : Launch} {e : Env} {R : Room} {s : State} {m : MethodId} {args : Array Value} {below : List Frame} {meth : Method} {c : Code} {H : Heap} {locs : List Loc} {ls : Array Slot} {G : jG}  (C : jCx p s m args meth c cX3_signAt 2 RX3 (Cond.code yX3_signAt cX3_signAt 2 (some .int)) (some .int)) (hRf : 0 ≤ R.frames) (hRl : 0 ≤ R.locals)  (M : jM) (l0 l1 : Int) (h0 : jkd l0 = (3, 0)) {fin : Int} (hf : f_X3_signAt M l0 l1 = some fin) (hO : jOk G M s H locs) (hl : lv_has ls 2 [(0, jR G l0), (1, vI l1)]) : W p l e R s m args below meth c H locs 0 0 (MQ below (jQ G (some (vI fin)) M) args s 0 0 (jA G)) (F0 m 0 ls []) := by
  unfold f_X3_signAt at hf
  refine lv_iload_n C.1 C.2.1 dX3_signAt_0 rfl (lv_at hl 1 rfl) ?_
  refine j_if_lt (tgt := 12) C rfl dX3_signAt_1 (by decide) (fun c1 => ?_) (fun c1 => ?_)
  · have hf := (if_pos c1).symm.trans hf
    exact w_X3_signAt_12 C hRf hRl M   hf hO (lv_sub hl [] rfl)
  · have hf := (if_neg c1).symm.trans hf
    refine lv_iload_n C.1 C.2.1 dX3_signAt_4 rfl (lv_at hl 1 rfl) ?_
    refine lv_aload_n C.1 C.2.1 dX3_signAt_5 rfl (lv_at hl 0 rfl) ?_
    refine j_get C hO (ci := 3) (k := 0) (v := vI (M l0 0)) h0 rfl inlX3 (by decide) kF_17_15 rfl rfl dX3_signAt_6 ?_
    refine j_icmp_lt (tgt := 16) C rfl rfl dX3_signAt_9 (by decide) (fun c2 => ?_) (fun c2 => ?_)
    · have hf := (if_pos c2).symm.trans hf
      refine lv_aload_n C.1 C.2.1 dX3_signAt_16 rfl (lv_at hl 0 rfl) ?_
      refine j_get C hO (ci := 3) (k := 1) (v := vL (M l0 1)) h0 rfl inlX3 (by decide) kF_17_16 rfl rfl dX3_signAt_17 ?_
      refine lv_iconst (v := Int32.ofInt 2) C.1 C.2.1 dX3_signAt_20 rfl ?_
      refine lv_aload_n C.1 C.2.1 dX3_signAt_21 rfl (lv_at hl 0 rfl) ?_
      refine j_get C hO (ci := 3) (k := 0) (v := vI (M l0 0)) h0 rfl inlX3 (by decide) kF_17_15 rfl rfl dX3_signAt_22 ?_
      refine lv_iconst (v := Int32.ofInt 1) C.1 C.2.1 dX3_signAt_25 rfl ?_
      refine j_isub C dX3_signAt_26 ?_
      refine lv_iload_n C.1 C.2.1 dX3_signAt_27 rfl (lv_at hl 1 rfl) ?_
      refine j_isub C dX3_signAt_28 ?_
      refine j_imul C dX3_signAt_29 ?_
      refine j_lshr C dX3_signAt_30 ?_
      refine j_l2i C dX3_signAt_31 ?_
      refine lv_iconst (v := Int32.ofInt 3) C.1 C.2.1 dX3_signAt_32 rfl ?_
      refine j_iand C dX3_signAt_33 ?_
      have hf := som_e hf
      subst hf
      exact j_iret C hO dX3_signAt_34
    · have hf := (if_neg c2).symm.trans hf
      exact w_X3_signAt_12 C hRf hRl M   hf hO (lv_sub hl [] rfl)
set_option maxHeartbeats 1000000 in
theorem c_X3_signAt (l : Launch) (G : jG)  (M : jM) (l0 l1 : Int) (h0 : jkd l0 = (3, 0)) {fin : Int} (h : f_X3_signAt M l0 l1 = some fin) : Met l yX3_signAt (Cond.code yX3_signAt cX3_signAt 2 (some .int) :: wsL_law) ({ frames := 0, cells := 0, slots := 0, locals := 0 } : Room) (va_Pc [jR G l0, vI l1] (fun U => jRep G M U)) (jQ G (some (vI fin)) M) 0 0 (jA G) := by
  refine Met.ofW (cc := cX3_signAt) (maxL := 2) (ret := (some .int)) (by decide) rfl ?_
  intro p e s m args below meth c s₁ B hml hv
  obtain ⟨rfl, hR0⟩ := hv
  have C : jCx p s m ([jR G l0, vI l1] : List Value).toArray meth c cX3_signAt 2 RX3 (Cond.code yX3_signAt cX3_signAt 2 (some .int)) (some .int) := ⟨B.exec, B.bytes, hml, findClass_of_methodNamed B.named, atoms_spec B.pre, B.returns, B.notSynchronized⟩
  have hO := hR0.ok
  have hl := lv_entry ([jR G l0, vI l1]) (n := 2) (Nat.le_of_ble_eq_true rfl)
  rw [lg_entry_eq]
  generalize (lg_sl ([jR G l0, vI l1]) ++ List.replicate (2 - (lg_sl ([jR G l0, vI l1])).length) Slot.unset).toArray = ls at hl ⊢
  have hl : lv_has ls 2 [(0, jR G l0), (1, vI l1)] := hl
  exact w_X3_signAt C (Nat.le_refl _) (Nat.le_refl _) M l0 l1 h0 h hO hl
set_option maxHeartbeats 4000000 in
theorem w_X3_firstOnes {p : Program} {l : Launch} {e : Env} {R : Room} {s : State} {m : MethodId} {args : Array Value} {below : List Frame} {meth : Method} {c : Code} {H : Heap} {locs : List Loc} {ls : Array Slot} {G : jG}  (C : jCx p s m args meth c cX3_firstOnes 2 RX3 (Cond.code yX3_firstOnes cX3_firstOnes 2 (some .long)) (some .long)) (hRf : 0 ≤ R.frames) (hRl : 0 ≤ R.locals)  (M : jM) (l0 l1 : Int) (h0 : jkd l0 = (3, 0)) {fin : Int} (hf : f_X3_firstOnes M l0 l1 = some fin) (hO : jOk G M s H locs) (hl : lv_has ls 2 [(0, jR G l0), (1, vI l1)]) : W p l e R s m args below meth c H locs 0 0 (MQ below (jQ G (some (vL fin)) M) args s 0 0 (jA G)) (F0 m 0 ls []) := by
  unfold f_X3_firstOnes at hf
  refine lv_aload_n C.1 C.2.1 dX3_firstOnes_0 rfl (lv_at hl 0 rfl) ?_
  refine j_get C hO (ci := 3) (k := 1) (v := vL (M l0 1)) h0 rfl inlX3 (by decide) kF_17_16 rfl rfl dX3_firstOnes_1 ?_
  refine lv_iconst (v := Int32.ofInt 2) C.1 C.2.1 dX3_firstOnes_4 rfl ?_
  refine lv_aload_n C.1 C.2.1 dX3_firstOnes_5 rfl (lv_at hl 0 rfl) ?_
  refine j_get C hO (ci := 3) (k := 0) (v := vI (M l0 0)) h0 rfl inlX3 (by decide) kF_17_15 rfl rfl dX3_firstOnes_6 ?_
  refine lv_iload_n C.1 C.2.1 dX3_firstOnes_9 rfl (lv_at hl 1 rfl) ?_
  refine j_isub C dX3_firstOnes_10 ?_
  refine j_imul C dX3_firstOnes_11 ?_
  refine j_lshr C dX3_firstOnes_12 ?_
  have hf := som_e hf
  subst hf
  exact j_lret C hO dX3_firstOnes_13
set_option maxHeartbeats 1000000 in
theorem c_X3_firstOnes (l : Launch) (G : jG)  (M : jM) (l0 l1 : Int) (h0 : jkd l0 = (3, 0)) {fin : Int} (h : f_X3_firstOnes M l0 l1 = some fin) : Met l yX3_firstOnes (Cond.code yX3_firstOnes cX3_firstOnes 2 (some .long) :: wsL_law) ({ frames := 0, cells := 0, slots := 0, locals := 0 } : Room) (va_Pc [jR G l0, vI l1] (fun U => jRep G M U)) (jQ G (some (vL fin)) M) 0 0 (jA G) := by
  refine Met.ofW (cc := cX3_firstOnes) (maxL := 2) (ret := (some .long)) (by decide) rfl ?_
  intro p e s m args below meth c s₁ B hml hv
  obtain ⟨rfl, hR0⟩ := hv
  have C : jCx p s m ([jR G l0, vI l1] : List Value).toArray meth c cX3_firstOnes 2 RX3 (Cond.code yX3_firstOnes cX3_firstOnes 2 (some .long)) (some .long) := ⟨B.exec, B.bytes, hml, findClass_of_methodNamed B.named, atoms_spec B.pre, B.returns, B.notSynchronized⟩
  have hO := hR0.ok
  have hl := lv_entry ([jR G l0, vI l1]) (n := 2) (Nat.le_of_ble_eq_true rfl)
  rw [lg_entry_eq]
  generalize (lg_sl ([jR G l0, vI l1]) ++ List.replicate (2 - (lg_sl ([jR G l0, vI l1])).length) Slot.unset).toArray = ls at hl ⊢
  have hl : lv_has ls 2 [(0, jR G l0), (1, vI l1)] := hl
  exact w_X3_firstOnes C (Nat.le_refl _) (Nat.le_refl _) M l0 l1 h0 h hO hl
set_option maxHeartbeats 4000000 in
theorem w_X3_lastOnes {p : Program} {l : Launch} {e : Env} {R : Room} {s : State} {m : MethodId} {args : Array Value} {below : List Frame} {meth : Method} {c : Code} {H : Heap} {locs : List Loc} {ls : Array Slot} {G : jG}  (C : jCx p s m args meth c cX3_lastOnes 2 RX3 (Cond.code yX3_lastOnes cX3_lastOnes 2 (some .long)) (some .long)) (hRf : 0 ≤ R.frames) (hRl : 0 ≤ R.locals)  (M : jM) (l0 l1 : Int) (h0 : jkd l0 = (3, 0)) {fin : Int} (hf : f_X3_lastOnes M l0 l1 = some fin) (hO : jOk G M s H locs) (hl : lv_has ls 2 [(0, jR G l0), (1, vI l1)]) : W p l e R s m args below meth c H locs 0 0 (MQ below (jQ G (some (vL fin)) M) args s 0 0 (jA G)) (F0 m 0 ls []) := by
  unfold f_X3_lastOnes at hf
  refine lv_aload_n C.1 C.2.1 dX3_lastOnes_0 rfl (lv_at hl 0 rfl) ?_
  refine j_get C hO (ci := 3) (k := 1) (v := vL (M l0 1)) h0 rfl inlX3 (by decide) kF_17_16 rfl rfl dX3_lastOnes_1 ?_
  refine lv_lconst (v := Int64.ofInt 1) C.1 C.2.1 dX3_lastOnes_4 (by decide) ?_
  refine lv_iconst (v := Int32.ofInt 2) C.1 C.2.1 dX3_lastOnes_5 rfl ?_
  refine lv_iload_n C.1 C.2.1 dX3_lastOnes_6 rfl (lv_at hl 1 rfl) ?_
  refine j_imul C dX3_lastOnes_7 ?_
  refine j_lshl C dX3_lastOnes_8 ?_
  refine lv_lconst (v := Int64.ofInt 1) C.1 C.2.1 dX3_lastOnes_9 (by decide) ?_
  refine j_lsub C dX3_lastOnes_10 ?_
  refine j_land C dX3_lastOnes_11 ?_
  have hf := som_e hf
  subst hf
  exact j_lret C hO dX3_lastOnes_12
set_option maxHeartbeats 1000000 in
theorem c_X3_lastOnes (l : Launch) (G : jG)  (M : jM) (l0 l1 : Int) (h0 : jkd l0 = (3, 0)) {fin : Int} (h : f_X3_lastOnes M l0 l1 = some fin) : Met l yX3_lastOnes (Cond.code yX3_lastOnes cX3_lastOnes 2 (some .long) :: wsL_law) ({ frames := 0, cells := 0, slots := 0, locals := 0 } : Room) (va_Pc [jR G l0, vI l1] (fun U => jRep G M U)) (jQ G (some (vL fin)) M) 0 0 (jA G) := by
  refine Met.ofW (cc := cX3_lastOnes) (maxL := 2) (ret := (some .long)) (by decide) rfl ?_
  intro p e s m args below meth c s₁ B hml hv
  obtain ⟨rfl, hR0⟩ := hv
  have C : jCx p s m ([jR G l0, vI l1] : List Value).toArray meth c cX3_lastOnes 2 RX3 (Cond.code yX3_lastOnes cX3_lastOnes 2 (some .long)) (some .long) := ⟨B.exec, B.bytes, hml, findClass_of_methodNamed B.named, atoms_spec B.pre, B.returns, B.notSynchronized⟩
  have hO := hR0.ok
  have hl := lv_entry ([jR G l0, vI l1]) (n := 2) (Nat.le_of_ble_eq_true rfl)
  rw [lg_entry_eq]
  generalize (lg_sl ([jR G l0, vI l1]) ++ List.replicate (2 - (lg_sl ([jR G l0, vI l1])).length) Slot.unset).toArray = ls at hl ⊢
  have hl : lv_has ls 2 [(0, jR G l0), (1, vI l1)] := hl
  exact w_X3_lastOnes C (Nat.le_refl _) (Nat.le_refl _) M l0 l1 h0 h hO hl
set_option maxHeartbeats 4000000 in
theorem w_X3_putLast {p : Program} {l : Launch} {e : Env} {R : Room} {s : State} {m : MethodId} {args : Array Value} {below : List Frame} {meth : Method} {c : Code} {H : Heap} {locs : List Loc} {ls : Array Slot} {G : jG}  (C : jCx p s m args meth c cX3_putLast 2 RX3 (Cond.code yX3_putLast cX3_putLast 2 none) none) (hRf : 1 ≤ R.frames) (hRl : 21 ≤ R.locals)  (M : jM) (l0 l1 : Int) (h0 : jkd l0 = (3, 0)) {fin : jM} (hf : f_X3_putLast M l0 l1 = some fin) (hO : jOk G M s H locs) (hl : lv_has ls 2 [(0, jR G l0), (1, vI l1)]) : W p l e R s m args below meth c H locs 0 0 (MQ below (jQ G none fin) args s 0 0 (jA G)) (F0 m 0 ls []) := by
  unfold f_X3_putLast at hf
  refine lv_aload_n C.1 C.2.1 dX3_putLast_0 rfl (lv_at hl 0 rfl) ?_
  refine lv_aload_n C.1 C.2.1 dX3_putLast_1 rfl (lv_at hl 0 rfl) ?_
  refine j_get C hO (ci := 3) (k := 1) (v := vL (M l0 1)) h0 rfl inlX3 (by decide) kF_17_16 rfl rfl dX3_putLast_2 ?_
  refine lv_aload_n C.1 C.2.1 dX3_putLast_5 rfl (lv_at hl 0 rfl) ?_
  refine lv_iconst (v := Int32.ofInt 1) C.1 C.2.1 dX3_putLast_6 rfl ?_
  obtain ⟨r1, hr1, hf⟩ := bnd_e hf
  refine j_callV C hO (n := 1) (As := [vI 1]) (st1 := [vL r1, vL (M l0 1), jR G l0]) (c_X3_lastOnes l G M l0 1 h0 hr1) h0 rfl kC_22_1 kM_32_10 kI_21_23 kS_22_0 kN_3_8 ⟨by decide, by decide, by decide⟩ ⟨Nat.le_trans (by decide) hRf, Nat.le_trans (by decide) hRl⟩ rfl rfl rfl hl.1 rfl (Nat.le_of_ble_eq_true rfl) ⟨Nat.zero_le _, Nat.zero_le _⟩ dX3_putLast_7 rfl (fun H locs hO => ?_)
  refine j_lsub C dX3_putLast_10 ?_
  refine lv_iload_n C.1 C.2.1 dX3_putLast_11 rfl (lv_at hl 1 rfl) ?_
  refine j_i2l C dX3_putLast_12 ?_
  refine j_ladd C dX3_putLast_13 ?_
  obtain ⟨M2, hM2, hf⟩ := lt1_e hf
  refine j_put C hO (ci := 3) (k := 1) (x := ((M l0 1) - r1) + (w32 l1)) h0 rfl inlX3 tyX3_ok nmX3 (by decide) kF_17_16 rfl rfl rfl rfl (by simp [jfl]) (fs_3_1) dX3_putLast_14 (fun H locs hO => ?_)
  rw [← hM2] at hO
  have hf := som_e hf
  subst hf
  exact j_vret C hO dX3_putLast_17
set_option maxHeartbeats 1000000 in
theorem c_X3_putLast (l : Launch) (G : jG)  (M : jM) (l0 l1 : Int) (h0 : jkd l0 = (3, 0)) {fin : jM} (h : f_X3_putLast M l0 l1 = some fin) : Met l yX3_putLast (Cond.code yX3_putLast cX3_putLast 2 none :: wsL_law) ({ frames := 1, cells := 0, slots := 0, locals := 21 } : Room) (va_Pc [jR G l0, vI l1] (fun U => jRep G M U)) (jQ G none fin) 0 0 (jA G) := by
  refine Met.ofW (cc := cX3_putLast) (maxL := 2) (ret := none) (by decide) rfl ?_
  intro p e s m args below meth c s₁ B hml hv
  obtain ⟨rfl, hR0⟩ := hv
  have C : jCx p s m ([jR G l0, vI l1] : List Value).toArray meth c cX3_putLast 2 RX3 (Cond.code yX3_putLast cX3_putLast 2 none) none := ⟨B.exec, B.bytes, hml, findClass_of_methodNamed B.named, atoms_spec B.pre, B.returns, B.notSynchronized⟩
  have hO := hR0.ok
  have hl := lv_entry ([jR G l0, vI l1]) (n := 2) (Nat.le_of_ble_eq_true rfl)
  rw [lg_entry_eq]
  generalize (lg_sl ([jR G l0, vI l1]) ++ List.replicate (2 - (lg_sl ([jR G l0, vI l1])).length) Slot.unset).toArray = ls at hl ⊢
  have hl : lv_has ls 2 [(0, jR G l0), (1, vI l1)] := hl
  exact w_X3_putLast C (Nat.le_refl _) (Nat.le_refl _) M l0 l1 h0 h hO hl
set_option maxHeartbeats 4000000 in
theorem w_X3_stepOn_L2 {p : Program} {l : Launch} {e : Env} {R : Room} {s : State} {m : MethodId} {args : Array Value} {below : List Frame} {meth : Method} {c : Code} {H : Heap} {locs : List Loc} {ls : Array Slot} {G : jG}  (C : jCx p s m args meth c cX3_stepOn 5 RX3 (Cond.code yX3_stepOn cX3_stepOn 5 (some .boolean)) (some .boolean)) (hRf : 0 ≤ R.frames) (hRl : 0 ≤ R.locals)  (M : jM) (l0 l1 : Int) (h0 : jkd l0 = (3, 0)) {fin : Int × jM} (S : jM × Int) {rr : (jM × Int) ⊕ (jM ⊕ (jM × Int))} (hf : f_X3_stepOn_L2 M l0 l1 S = some rr) (kc : ∀ q : jM × Int, rr = .inl q → ∀ (H : Heap) (locs : List Loc) (ls : Array Slot), jOk G q.1 s H locs → lv_has ls 5 [(0, jR G l0), (1, vI l1), (2, vI q.2)] → W p l e R s m args below meth c H locs 0 0 (MQ below (jQ G (some (vI fin.1)) fin.2) args s 0 0 (jA G)) (F0 m 2 ls [])) (kx0 : ∀ q : jM, rr = .inr (.inl q) → ∀ (H : Heap) (locs : List Loc) (ls : Array Slot), jOk G q s H locs → lv_has ls 5 [] → W p l e R s m args below meth c H locs 0 0 (MQ below (jQ G (some (vI fin.1)) fin.2) args s 0 0 (jA G)) (F0 m 68 ls [])) (kx1 : ∀ q : jM × Int, rr = .inr (.inr q) → ∀ (H : Heap) (locs : List Loc) (ls : Array Slot), jOk G q.1 s H locs → lv_has ls 5 [(0, jR G l0), (2, vI q.2)] → W p l e R s m args below meth c H locs 0 0 (MQ below (jQ G (some (vI fin.1)) fin.2) args s 0 0 (jA G)) (F0 m 32 ls [])) (hO : jOk G S.1 s H locs) (hl : lv_has ls 5 [(0, jR G l0), (1, vI l1), (2, vI S.2)]) : W p l e R s m args below meth c H locs 0 0 (MQ below (jQ G (some (vI fin.1)) fin.2) args s 0 0 (jA G)) (F0 m 2 ls []) := by
  unfold f_X3_stepOn_L2 at hf
  refine lv_iload_n C.1 C.2.1 dX3_stepOn_2 rfl (lv_at hl 2 rfl) ?_
  refine lv_aload_n C.1 C.2.1 dX3_stepOn_3 rfl (lv_at hl 0 rfl) ?_
  refine j_get C hO (ci := 3) (k := 0) (v := vI (S.1 l0 0)) h0 rfl inlX3 (by decide) kF_17_15 rfl rfl dX3_stepOn_4 ?_
  refine j_icmp_ge (tgt := 68) C rfl rfl dX3_stepOn_7 (by decide) (fun c1 => ?_) (fun c1 => ?_)
  · have hf := (if_pos c1).symm.trans hf
    exact kx0 _ (som_e hf).symm _ _ _ hO (lv_sub hl [] rfl)
  · have hf := (if_neg c1).symm.trans hf
    refine lv_aload_n C.1 C.2.1 dX3_stepOn_10 rfl (lv_at hl 0 rfl) ?_
    refine j_get C hO (ci := 3) (k := 1) (v := vL (S.1 l0 1)) h0 rfl inlX3 (by decide) kF_17_16 rfl rfl dX3_stepOn_11 ?_
    refine lv_iconst (v := Int32.ofInt 2) C.1 C.2.1 dX3_stepOn_14 rfl ?_
    refine lv_iload_n C.1 C.2.1 dX3_stepOn_15 rfl (lv_at hl 2 rfl) ?_
    refine j_imul C dX3_stepOn_16 ?_
    refine j_lshr C dX3_stepOn_17 ?_
    refine j_ldc2 (x := 3) C kL_29_8 (by decide) dX3_stepOn_18 ?_
    refine j_land C dX3_stepOn_21 ?_
    refine lv_lstore_n (lv' := [(3, vL (land (lshr (S.1 l0 1) (2 * S.2)) 3)), (0, jR G l0), (1, vI l1), (2, vI S.2)]) C.1 C.2.1 dX3_stepOn_22 rfl hl (by decide) rfl (fun ls hl => ?_)
    refine lv_lload_n C.1 C.2.1 dX3_stepOn_23 rfl (lv_at hl 0 rfl) ?_
    refine lv_lconst (v := Int64.ofInt 1) C.1 C.2.1 dX3_stepOn_24 (by decide) ?_
    refine j_ladd C dX3_stepOn_25 ?_
    refine lv_iload_n C.1 C.2.1 dX3_stepOn_26 rfl (lv_at hl 2 rfl) ?_
    refine j_i2l C dX3_stepOn_27 ?_
    refine j_lcmp_ge (tgt := 48) C rfl rfl dX3_stepOn_28 dX3_stepOn_29 (by decide) (fun c2 => ?_) (fun c2 => ?_)
    · have hf := (if_pos c2).symm.trans hf
      refine lv_aload_n C.1 C.2.1 dX3_stepOn_48 rfl (lv_at hl 1 rfl) ?_
      refine lv_dup C.1 C.2.1 dX3_stepOn_49 rfl ?_
      refine j_get C hO (ci := 3) (k := 1) (v := vL (S.1 l0 1)) h0 rfl inlX3 (by decide) kF_17_16 rfl rfl dX3_stepOn_50 ?_
      refine lv_lload_n C.1 C.2.1 dX3_stepOn_53 rfl (lv_at hl 0 rfl) ?_
      refine lv_iconst (v := Int32.ofInt 2) C.1 C.2.1 dX3_stepOn_54 rfl ?_
      refine lv_iload_n C.1 C.2.1 dX3_stepOn_55 rfl (lv_at hl 3 rfl) ?_
      refine j_imul C dX3_stepOn_56 ?_
      refine j_lshl C dX3_stepOn_57 ?_
      refine j_lsub C dX3_stepOn_58 ?_
      obtain ⟨M3, hM3, hf⟩ := lt1_e hf
      refine j_put C hO (ci := 3) (k := 1) (x := (S.1 l0 1) - (lshl (land (lshr (S.1 l0 1) (2 * S.2)) 3) (2 * S.2))) h0 rfl inlX3 tyX3_ok nmX3 (by decide) kF_17_16 rfl rfl rfl rfl (by simp [jfl]) (fs_3_1) dX3_stepOn_59 (fun H locs hO => ?_)
      rw [← hM3] at hO
      refine lv_iinc (v := Int32.ofInt (S.2 + 1)) (lv' := [(2, vI (S.2 + 1)), (3, vL (land (lshr (S.1 l0 1) (2 * S.2)) 3)), (0, jR G l0), (1, vI l1)]) C.1 C.2.1 dX3_stepOn_62 hl (k := 3) rfl (Int32.ofInt_add _ _).symm (by decide) rfl (fun ls hl => ?_)
      refine lv_goto (tgt := 2) C.1 C.2.1 dX3_stepOn_65 (by decide) ?_
      exact kc _ (som_e hf).symm _ _ _ hO (lv_sub hl [2, 3, 0] rfl)
    · have hf := (if_neg c2).symm.trans hf
      exact kx1 _ (som_e hf).symm _ _ _ hO (lv_sub hl [1, 3] rfl)
set_option maxHeartbeats 4000000 in
theorem w_X3_stepOn {p : Program} {l : Launch} {e : Env} {R : Room} {s : State} {m : MethodId} {args : Array Value} {below : List Frame} {meth : Method} {c : Code} {H : Heap} {locs : List Loc} {ls : Array Slot} {G : jG}  (C : jCx p s m args meth c cX3_stepOn 5 RX3 (Cond.code yX3_stepOn cX3_stepOn 5 (some .boolean)) (some .boolean)) (hRf : 0 ≤ R.frames) (hRl : 0 ≤ R.locals)  (M : jM) (l0 l1 : Int) (h0 : jkd l0 = (3, 0)) {fin : Int × jM} (hf : f_X3_stepOn M l0 l1 = some fin) (hO : jOk G M s H locs) (hl : lv_has ls 5 [(0, jR G l0), (1, vI l1)]) : W p l e R s m args below meth c H locs 0 0 (MQ below (jQ G (some (vI fin.1)) fin.2) args s 0 0 (jA G)) (F0 m 0 ls []) := by
  unfold f_X3_stepOn at hf
  refine lv_iconst (v := Int32.ofInt 0) C.1 C.2.1 dX3_stepOn_0 rfl ?_
  refine lv_istore_n (lv' := [(2, vI 0), (0, jR G l0), (1, vI l1)]) C.1 C.2.1 dX3_stepOn_1 rfl hl (by decide) rfl (fun ls hl => ?_)
  obtain ⟨x4, hx4, hf⟩ := bnd_e hf
  refine iter_e (P := fun Z => ∀ (H : Heap) (locs : List Loc) (ls : Array Slot), jOk G Z.1 s H locs → lv_has ls 5 [(0, jR G l0), (1, vI l1), (2, vI Z.2)] → W p l e R s m args below meth c H locs 0 0 (MQ below (jQ G (some (vI fin.1)) fin.2) args s 0 0 (jA G)) (F0 m 2 ls [])) (E := fun x => (∀ q : jM, x = (.inl q) → ∀ (H : Heap) (locs : List Loc) (ls : Array Slot), jOk G q s H locs → lv_has ls 5 [] → W p l e R s m args below meth c H locs 0 0 (MQ below (jQ G (some (vI fin.1)) fin.2) args s 0 0 (jA G)) (F0 m 68 ls [])) ∧ (∀ q : jM × Int, x = (.inr q) → ∀ (H : Heap) (locs : List Loc) (ls : Array Slot), jOk G q.1 s H locs → lv_has ls 5 [(0, jR G l0), (2, vI q.2)] → W p l e R s m args below meth c H locs 0 0 (MQ below (jQ G (some (vI fin.1)) fin.2) args s 0 0 (jA G)) (F0 m 32 ls []))) (fun Z rr hb kc kx H locs ls hO hl => w_X3_stepOn_L2 C hRf hRl M l0 l1 h0 Z hb kc (fun q e => (kx _ e).1 q rfl) (fun q e => (kx _ e).2 q rfl) hO hl) 5000 (M, 0) x4 hx4 ?_ _ _ _ hO (lv_sub hl [1, 2, 0] rfl)
  clear hO hl
  refine ⟨?_, ?_⟩
  · intro q5 eq5 H locs ls hO hl
    subst eq5
    have hf := sel_l hf
    refine lv_iconst (v := Int32.ofInt 0) C.1 C.2.1 dX3_stepOn_68 rfl ?_
    have hf := som_e hf
    subst hf
    exact j_zret C hO (Or.inl rfl) dX3_stepOn_69
  · intro q6 eq6 H locs ls hO hl
    subst eq6
    have hf := sel_r hf
    refine lv_aload_n C.1 C.2.1 dX3_stepOn_32 rfl (lv_at hl 0 rfl) ?_
    refine lv_dup C.1 C.2.1 dX3_stepOn_33 rfl ?_
    refine j_get C hO (ci := 3) (k := 1) (v := vL (q6.1 l0 1)) h0 rfl inlX3 (by decide) kF_17_16 rfl rfl dX3_stepOn_34 ?_
    refine lv_lconst (v := Int64.ofInt 1) C.1 C.2.1 dX3_stepOn_37 (by decide) ?_
    refine lv_iconst (v := Int32.ofInt 2) C.1 C.2.1 dX3_stepOn_38 rfl ?_
    refine lv_iload_n C.1 C.2.1 dX3_stepOn_39 rfl (lv_at hl 1 rfl) ?_
    refine j_imul C dX3_stepOn_40 ?_
    refine j_lshl C dX3_stepOn_41 ?_
    refine j_ladd C dX3_stepOn_42 ?_
    obtain ⟨M7, hM7, hf⟩ := lt1_e hf
    refine j_put C hO (ci := 3) (k := 1) (x := (q6.1 l0 1) + (lshl 1 (2 * q6.2))) h0 rfl inlX3 tyX3_ok nmX3 (by decide) kF_17_16 rfl rfl rfl rfl (by simp [jfl]) (fs_3_1) dX3_stepOn_43 (fun H locs hO => ?_)
    rw [← hM7] at hO
    refine lv_iconst (v := Int32.ofInt 1) C.1 C.2.1 dX3_stepOn_46 rfl ?_
    have hf := som_e hf
    subst hf
    exact j_zret C hO (Or.inr rfl) dX3_stepOn_47
set_option maxHeartbeats 1000000 in
theorem c_X3_stepOn (l : Launch) (G : jG)  (M : jM) (l0 l1 : Int) (h0 : jkd l0 = (3, 0)) {fin : Int × jM} (h : f_X3_stepOn M l0 l1 = some fin) : Met l yX3_stepOn (Cond.code yX3_stepOn cX3_stepOn 5 (some .boolean) :: wsL_law) ({ frames := 0, cells := 0, slots := 0, locals := 0 } : Room) (va_Pc [jR G l0, vI l1] (fun U => jRep G M U)) (jQ G (some (vI fin.1)) fin.2) 0 0 (jA G) := by
  refine Met.ofW (cc := cX3_stepOn) (maxL := 5) (ret := (some .boolean)) (by decide) rfl ?_
  intro p e s m args below meth c s₁ B hml hv
  obtain ⟨rfl, hR0⟩ := hv
  have C : jCx p s m ([jR G l0, vI l1] : List Value).toArray meth c cX3_stepOn 5 RX3 (Cond.code yX3_stepOn cX3_stepOn 5 (some .boolean)) (some .boolean) := ⟨B.exec, B.bytes, hml, findClass_of_methodNamed B.named, atoms_spec B.pre, B.returns, B.notSynchronized⟩
  have hO := hR0.ok
  have hl := lv_entry ([jR G l0, vI l1]) (n := 5) (Nat.le_of_ble_eq_true rfl)
  rw [lg_entry_eq]
  generalize (lg_sl ([jR G l0, vI l1]) ++ List.replicate (5 - (lg_sl ([jR G l0, vI l1])).length) Slot.unset).toArray = ls at hl ⊢
  have hl : lv_has ls 5 [(0, jR G l0), (1, vI l1)] := hl
  exact w_X3_stepOn C (Nat.le_refl _) (Nat.le_refl _) M l0 l1 h0 h hO hl
set_option maxHeartbeats 4000000 in
theorem w_X3_endsAt {p : Program} {l : Launch} {e : Env} {R : Room} {s : State} {m : MethodId} {args : Array Value} {below : List Frame} {meth : Method} {c : Code} {H : Heap} {locs : List Loc} {ls : Array Slot} {G : jG}  (C : jCx p s m args meth c cX3_endsAt 3 RX3 (Cond.code yX3_endsAt cX3_endsAt 3 (some .boolean)) (some .boolean)) (hRf : 1 ≤ R.frames) (hRl : 21 ≤ R.locals)  (M : jM) (l0 l1 l2 : Int) (h0 : jkd l0 = (3, 0)) (h1 : jkd l1 = (3, 0)) {fin : Int} (hf : f_X3_endsAt M l0 l1 l2 = some fin) (hO : jOk G M s H locs) (hl : lv_has ls 3 [(0, jR G l0), (1, jR G l1), (2, vI l2)]) : W p l e R s m args below meth c H locs 0 0 (MQ below (jQ G (some (vI fin)) M) args s 0 0 (jA G)) (F0 m 0 ls []) := by
  unfold f_X3_endsAt at hf
  refine lv_iload_n C.1 C.2.1 dX3_endsAt_0 rfl (lv_at hl 2 rfl) ?_
  refine lv_aload_n C.1 C.2.1 dX3_endsAt_1 rfl (lv_at hl 1 rfl) ?_
  refine j_get C hO (ci := 3) (k := 0) (v := vI (M l1 0)) h1 rfl inlX3 (by decide) kF_17_15 rfl rfl dX3_endsAt_2 ?_
  refine j_icmp_lt (tgt := 44) C rfl rfl dX3_endsAt_5 (by decide) (fun c1 => ?_) (fun c1 => ?_)
  · have hf := (if_pos c1).symm.trans hf
    refine lv_iconst (v := Int32.ofInt 0) C.1 C.2.1 dX3_endsAt_44 rfl ?_
    have hf := som_e hf
    subst hf
    exact j_zret C hO (Or.inl rfl) dX3_endsAt_45
  · have hf := (if_neg c1).symm.trans hf
    refine lv_iload_n C.1 C.2.1 dX3_endsAt_8 rfl (lv_at hl 2 rfl) ?_
    refine lv_aload_n C.1 C.2.1 dX3_endsAt_9 rfl (lv_at hl 0 rfl) ?_
    refine j_get C hO (ci := 3) (k := 0) (v := vI (M l0 0)) h0 rfl inlX3 (by decide) kF_17_15 rfl rfl dX3_endsAt_10 ?_
    refine j_icmp_gt (tgt := 44) C rfl rfl dX3_endsAt_13 (by decide) (fun c2 => ?_) (fun c2 => ?_)
    · have hf := (if_pos c2).symm.trans hf
      refine lv_iconst (v := Int32.ofInt 0) C.1 C.2.1 dX3_endsAt_44 rfl ?_
      have hf := som_e hf
      subst hf
      exact j_zret C hO (Or.inl rfl) dX3_endsAt_45
    · have hf := (if_neg c2).symm.trans hf
      refine lv_aload_n C.1 C.2.1 dX3_endsAt_16 rfl (lv_at hl 0 rfl) ?_
      refine lv_iload_n C.1 C.2.1 dX3_endsAt_17 rfl (lv_at hl 2 rfl) ?_
      obtain ⟨r3, hr3, hf⟩ := bnd_e hf
      refine j_callV C hO (n := 1) (As := [vI l2]) (st1 := [vL r3]) (c_X3_firstOnes l G M l0 l2 h0 hr3) h0 rfl kC_22_5 kM_25_0 kI_22_3 kS_22_4 kN_3_8 ⟨by decide, by decide, by decide⟩ ⟨Nat.le_trans (by decide) hRf, Nat.le_trans (by decide) hRl⟩ rfl rfl rfl hl.1 rfl (Nat.le_of_ble_eq_true rfl) ⟨Nat.zero_le _, Nat.zero_le _⟩ dX3_endsAt_18 rfl (fun H locs hO => ?_)
      refine lv_lconst (v := Int64.ofInt 1) C.1 C.2.1 dX3_endsAt_21 (by decide) ?_
      refine lv_iconst (v := Int32.ofInt 2) C.1 C.2.1 dX3_endsAt_22 rfl ?_
      refine lv_aload_n C.1 C.2.1 dX3_endsAt_23 rfl (lv_at hl 1 rfl) ?_
      refine j_get C hO (ci := 3) (k := 0) (v := vI (M l1 0)) h1 rfl inlX3 (by decide) kF_17_15 rfl rfl dX3_endsAt_24 ?_
      refine j_imul C dX3_endsAt_27 ?_
      refine j_lshl C dX3_endsAt_28 ?_
      refine lv_lconst (v := Int64.ofInt 1) C.1 C.2.1 dX3_endsAt_29 (by decide) ?_
      refine j_lsub C dX3_endsAt_30 ?_
      refine j_land C dX3_endsAt_31 ?_
      refine lv_aload_n C.1 C.2.1 dX3_endsAt_32 rfl (lv_at hl 1 rfl) ?_
      refine j_get C hO (ci := 3) (k := 1) (v := vL (M l1 1)) h1 rfl inlX3 (by decide) kF_17_16 rfl rfl dX3_endsAt_33 ?_
      refine j_lcmp_ne (tgt := 44) C rfl rfl dX3_endsAt_36 dX3_endsAt_37 (by decide) (fun c4 => ?_) (fun c4 => ?_)
      · have hf := (if_neg c4).symm.trans hf
        refine lv_iconst (v := Int32.ofInt 0) C.1 C.2.1 dX3_endsAt_44 rfl ?_
        have hf := som_e hf
        subst hf
        exact j_zret C hO (Or.inl rfl) dX3_endsAt_45
      · have hf := (if_pos c4).symm.trans hf
        refine lv_iconst (v := Int32.ofInt 1) C.1 C.2.1 dX3_endsAt_40 rfl ?_
        refine lv_goto (tgt := 45) C.1 C.2.1 dX3_endsAt_41 (by decide) ?_
        have hf := som_e hf
        subst hf
        exact j_zret C hO (Or.inr rfl) dX3_endsAt_45
set_option maxHeartbeats 1000000 in
theorem c_X3_endsAt (l : Launch) (G : jG)  (M : jM) (l0 l1 l2 : Int) (h0 : jkd l0 = (3, 0)) (h1 : jkd l1 = (3, 0)) {fin : Int} (h : f_X3_endsAt M l0 l1 l2 = some fin) : Met l yX3_endsAt (Cond.code yX3_endsAt cX3_endsAt 3 (some .boolean) :: wsL_law) ({ frames := 1, cells := 0, slots := 0, locals := 21 } : Room) (va_Pc [jR G l0, jR G l1, vI l2] (fun U => jRep G M U)) (jQ G (some (vI fin)) M) 0 0 (jA G) := by
  refine Met.ofW (cc := cX3_endsAt) (maxL := 3) (ret := (some .boolean)) (by decide) rfl ?_
  intro p e s m args below meth c s₁ B hml hv
  obtain ⟨rfl, hR0⟩ := hv
  have C : jCx p s m ([jR G l0, jR G l1, vI l2] : List Value).toArray meth c cX3_endsAt 3 RX3 (Cond.code yX3_endsAt cX3_endsAt 3 (some .boolean)) (some .boolean) := ⟨B.exec, B.bytes, hml, findClass_of_methodNamed B.named, atoms_spec B.pre, B.returns, B.notSynchronized⟩
  have hO := hR0.ok
  have hl := lv_entry ([jR G l0, jR G l1, vI l2]) (n := 3) (Nat.le_of_ble_eq_true rfl)
  rw [lg_entry_eq]
  generalize (lg_sl ([jR G l0, jR G l1, vI l2]) ++ List.replicate (3 - (lg_sl ([jR G l0, jR G l1, vI l2])).length) Slot.unset).toArray = ls at hl ⊢
  have hl : lv_has ls 3 [(0, jR G l0), (1, jR G l1), (2, vI l2)] := hl
  exact w_X3_endsAt C (Nat.le_refl _) (Nat.le_refl _) M l0 l1 l2 h0 h1 h hO hl
set_option maxHeartbeats 4000000 in
theorem w_X3_firstEndOf_L5 {p : Program} {l : Launch} {e : Env} {R : Room} {s : State} {m : MethodId} {args : Array Value} {below : List Frame} {meth : Method} {c : Code} {H : Heap} {locs : List Loc} {ls : Array Slot} {G : jG}  (C : jCx p s m args meth c cX3_firstEndOf 3 RX3 (Cond.code yX3_firstEndOf cX3_firstEndOf 3 (some .int)) (some .int)) (hRf : 2 ≤ R.frames) (hRl : 43 ≤ R.locals)  (M : jM) (l0 l1 : Int) (h0 : jkd l0 = (3, 0)) (h1 : jkd l1 = (3, 0)) {fin : Int} (S : Int) {rr : (Int) ⊕ (Unit ⊕ Int)} (hf : f_X3_firstEndOf_L5 M l0 l1 S = some rr) (kc : ∀ q : Int, rr = .inl q → ∀ (H : Heap) (locs : List Loc) (ls : Array Slot), jOk G M s H locs → lv_has ls 3 [(0, jR G l0), (1, jR G l1), (2, vI q)] → W p l e R s m args below meth c H locs 0 0 (MQ below (jQ G (some (vI fin)) M) args s 0 0 (jA G)) (F0 m 5 ls [])) (kx0 : ∀ q : Unit, rr = .inr (.inl q) → ∀ (H : Heap) (locs : List Loc) (ls : Array Slot), jOk G M s H locs → lv_has ls 3 [] → W p l e R s m args below meth c H locs 0 0 (MQ below (jQ G (some (vI fin)) M) args s 0 0 (jA G)) (F0 m 30 ls [])) (kx1 : ∀ q : Int, rr = .inr (.inr q) → ∀ (H : Heap) (locs : List Loc) (ls : Array Slot), jOk G M s H locs → lv_has ls 3 [(2, vI q)] → W p l e R s m args below meth c H locs 0 0 (MQ below (jQ G (some (vI fin)) M) args s 0 0 (jA G)) (F0 m 22 ls [])) (hO : jOk G M s H locs) (hl : lv_has ls 3 [(0, jR G l0), (1, jR G l1), (2, vI S)]) : W p l e R s m args below meth c H locs 0 0 (MQ below (jQ G (some (vI fin)) M) args s 0 0 (jA G)) (F0 m 5 ls []) := by
  unfold f_X3_firstEndOf_L5 at hf
  refine lv_iload_n C.1 C.2.1 dX3_firstEndOf_5 rfl (lv_at hl 2 rfl) ?_
  refine lv_aload_n C.1 C.2.1 dX3_firstEndOf_6 rfl (lv_at hl 0 rfl) ?_
  refine j_get C hO (ci := 3) (k := 0) (v := vI (M l0 0)) h0 rfl inlX3 (by decide) kF_17_15 rfl rfl dX3_firstEndOf_7 ?_
  refine j_icmp_gt (tgt := 30) C rfl rfl dX3_firstEndOf_10 (by decide) (fun c1 => ?_) (fun c1 => ?_)
  · have hf := (if_pos c1).symm.trans hf
    exact kx0 _ (som_e hf).symm _ _ _ hO (lv_sub hl [] rfl)
  · have hf := (if_neg c1).symm.trans hf
    refine lv_aload_n C.1 C.2.1 dX3_firstEndOf_13 rfl (lv_at hl 0 rfl) ?_
    refine lv_aload_n C.1 C.2.1 dX3_firstEndOf_14 rfl (lv_at hl 1 rfl) ?_
    refine lv_iload_n C.1 C.2.1 dX3_firstEndOf_15 rfl (lv_at hl 2 rfl) ?_
    obtain ⟨r2, hr2, hf⟩ := bnd_e hf
    refine j_callV C hO (n := 2) (As := [jR G l1, vI S]) (st1 := [vI r2]) (c_X3_endsAt l G M l0 l1 S h0 h1 hr2) h0 rfl kC_24_23 kM_24_20 kI_24_21 kS_24_22 kN_3_8 ⟨by decide, by decide, by decide⟩ ⟨Nat.le_trans (by decide) hRf, Nat.le_trans (by decide) hRl⟩ rfl rfl rfl hl.1 rfl (Nat.le_of_ble_eq_true rfl) ⟨Nat.zero_le _, Nat.zero_le _⟩ dX3_firstEndOf_16 rfl (fun H locs hO => ?_)
    refine j_if_eq (tgt := 24) C rfl dX3_firstEndOf_19 (by decide) (fun c3 => ?_) (fun c3 => ?_)
    · have hf := (if_pos c3).symm.trans hf
      refine lv_iinc (v := Int32.ofInt (S + 1)) (lv' := [(2, vI (S + 1)), (0, jR G l0), (1, jR G l1)]) C.1 C.2.1 dX3_firstEndOf_24 hl (k := 2) rfl (Int32.ofInt_add _ _).symm (by decide) rfl (fun ls hl => ?_)
      refine lv_goto (tgt := 5) C.1 C.2.1 dX3_firstEndOf_27 (by decide) ?_
      exact kc _ (som_e hf).symm _ _ _ hO (lv_sub hl [1, 2, 0] rfl)
    · have hf := (if_neg c3).symm.trans hf
      exact kx1 _ (som_e hf).symm _ _ _ hO (lv_sub hl [2] rfl)
set_option maxHeartbeats 4000000 in
theorem w_X3_firstEndOf {p : Program} {l : Launch} {e : Env} {R : Room} {s : State} {m : MethodId} {args : Array Value} {below : List Frame} {meth : Method} {c : Code} {H : Heap} {locs : List Loc} {ls : Array Slot} {G : jG}  (C : jCx p s m args meth c cX3_firstEndOf 3 RX3 (Cond.code yX3_firstEndOf cX3_firstEndOf 3 (some .int)) (some .int)) (hRf : 2 ≤ R.frames) (hRl : 43 ≤ R.locals)  (M : jM) (l0 l1 : Int) (h0 : jkd l0 = (3, 0)) (h1 : jkd l1 = (3, 0)) {fin : Int} (hf : f_X3_firstEndOf M l0 l1 = some fin) (hO : jOk G M s H locs) (hl : lv_has ls 3 [(0, jR G l0), (1, jR G l1)]) : W p l e R s m args below meth c H locs 0 0 (MQ below (jQ G (some (vI fin)) M) args s 0 0 (jA G)) (F0 m 0 ls []) := by
  unfold f_X3_firstEndOf at hf
  refine lv_aload_n C.1 C.2.1 dX3_firstEndOf_0 rfl (lv_at hl 1 rfl) ?_
  refine j_get C hO (ci := 3) (k := 0) (v := vI (M l1 0)) h1 rfl inlX3 (by decide) kF_17_15 rfl rfl dX3_firstEndOf_1 ?_
  refine lv_istore_n (lv' := [(2, vI (M l1 0)), (0, jR G l0), (1, jR G l1)]) C.1 C.2.1 dX3_firstEndOf_4 rfl hl (by decide) rfl (fun ls hl => ?_)
  obtain ⟨x4, hx4, hf⟩ := bnd_e hf
  refine iter_e (P := fun Z => ∀ (H : Heap) (locs : List Loc) (ls : Array Slot), jOk G M s H locs → lv_has ls 3 [(0, jR G l0), (1, jR G l1), (2, vI Z)] → W p l e R s m args below meth c H locs 0 0 (MQ below (jQ G (some (vI fin)) M) args s 0 0 (jA G)) (F0 m 5 ls [])) (E := fun x => (∀ q : Unit, x = (.inl q) → ∀ (H : Heap) (locs : List Loc) (ls : Array Slot), jOk G M s H locs → lv_has ls 3 [] → W p l e R s m args below meth c H locs 0 0 (MQ below (jQ G (some (vI fin)) M) args s 0 0 (jA G)) (F0 m 30 ls [])) ∧ (∀ q : Int, x = (.inr q) → ∀ (H : Heap) (locs : List Loc) (ls : Array Slot), jOk G M s H locs → lv_has ls 3 [(2, vI q)] → W p l e R s m args below meth c H locs 0 0 (MQ below (jQ G (some (vI fin)) M) args s 0 0 (jA G)) (F0 m 22 ls []))) (fun Z rr hb kc kx H locs ls hO hl => w_X3_firstEndOf_L5 C hRf hRl M l0 l1 h0 h1 Z hb kc (fun q e => (kx _ e).1 q rfl) (fun q e => (kx _ e).2 q rfl) hO hl) 5000 (M l1 0) x4 hx4 ?_ _ _ _ hO (lv_sub hl [1, 2, 0] rfl)
  clear hO hl
  refine ⟨?_, ?_⟩
  · intro q5 eq5 H locs ls hO hl
    subst eq5
    have hf := sel_l hf
    refine lv_bipush (v := Int32.ofInt (-5)) C.1 C.2.1 dX3_firstEndOf_30 (by decide) ?_
    have hf := som_e hf
    subst hf
    exact j_iret C hO dX3_firstEndOf_32
  · intro q6 eq6 H locs ls hO hl
    subst eq6
    have hf := sel_r hf
    refine lv_iload_n C.1 C.2.1 dX3_firstEndOf_22 rfl (lv_at hl 0 rfl) ?_
    have hf := som_e hf
    subst hf
    exact j_iret C hO dX3_firstEndOf_23
set_option maxHeartbeats 1000000 in
theorem c_X3_firstEndOf (l : Launch) (G : jG)  (M : jM) (l0 l1 : Int) (h0 : jkd l0 = (3, 0)) (h1 : jkd l1 = (3, 0)) {fin : Int} (h : f_X3_firstEndOf M l0 l1 = some fin) : Met l yX3_firstEndOf (Cond.code yX3_firstEndOf cX3_firstEndOf 3 (some .int) :: wsL_law) ({ frames := 2, cells := 0, slots := 0, locals := 43 } : Room) (va_Pc [jR G l0, jR G l1] (fun U => jRep G M U)) (jQ G (some (vI fin)) M) 0 0 (jA G) := by
  refine Met.ofW (cc := cX3_firstEndOf) (maxL := 3) (ret := (some .int)) (by decide) rfl ?_
  intro p e s m args below meth c s₁ B hml hv
  obtain ⟨rfl, hR0⟩ := hv
  have C : jCx p s m ([jR G l0, jR G l1] : List Value).toArray meth c cX3_firstEndOf 3 RX3 (Cond.code yX3_firstEndOf cX3_firstEndOf 3 (some .int)) (some .int) := ⟨B.exec, B.bytes, hml, findClass_of_methodNamed B.named, atoms_spec B.pre, B.returns, B.notSynchronized⟩
  have hO := hR0.ok
  have hl := lv_entry ([jR G l0, jR G l1]) (n := 3) (Nat.le_of_ble_eq_true rfl)
  rw [lg_entry_eq]
  generalize (lg_sl ([jR G l0, jR G l1]) ++ List.replicate (3 - (lg_sl ([jR G l0, jR G l1])).length) Slot.unset).toArray = ls at hl ⊢
  have hl : lv_has ls 3 [(0, jR G l0), (1, jR G l1)] := hl
  exact w_X3_firstEndOf C (Nat.le_refl _) (Nat.le_refl _) M l0 l1 h0 h1 h hO hl
set_option maxHeartbeats 4000000 in
theorem w_X3_has {p : Program} {l : Launch} {e : Env} {R : Room} {s : State} {m : MethodId} {args : Array Value} {below : List Frame} {meth : Method} {c : Code} {H : Heap} {locs : List Loc} {ls : Array Slot} {G : jG}  (C : jCx p s m args meth c cX3_has 2 RX3 (Cond.code yX3_has cX3_has 2 (some .boolean)) (some .boolean)) (hRf : 3 ≤ R.frames) (hRl : 65 ≤ R.locals)  (M : jM) (l0 l1 : Int) (h0 : jkd l0 = (3, 0)) (h1 : jkd l1 = (3, 0)) {fin : Int} (hf : f_X3_has M l0 l1 = some fin) (hO : jOk G M s H locs) (hl : lv_has ls 2 [(0, jR G l0), (1, jR G l1)]) : W p l e R s m args below meth c H locs 0 0 (MQ below (jQ G (some (vI fin)) M) args s 0 0 (jA G)) (F0 m 0 ls []) := by
  unfold f_X3_has at hf
  refine lv_aload_n C.1 C.2.1 dX3_has_0 rfl (lv_at hl 0 rfl) ?_
  refine lv_aload_n C.1 C.2.1 dX3_has_1 rfl (lv_at hl 1 rfl) ?_
  obtain ⟨r1, hr1, hf⟩ := bnd_e hf
  refine j_callV C hO (n := 1) (As := [jR G l1]) (st1 := [vI r1]) (c_X3_firstEndOf l G M l0 l1 h0 h1 hr1) h0 rfl kC_24_19 kM_24_16 kI_24_17 kS_24_18 kN_3_8 ⟨by decide, by decide, by decide⟩ ⟨Nat.le_trans (by decide) hRf, Nat.le_trans (by decide) hRl⟩ rfl rfl rfl hl.1 rfl (Nat.le_of_ble_eq_true rfl) ⟨Nat.zero_le _, Nat.zero_le _⟩ dX3_has_2 rfl (fun H locs hO => ?_)
  refine lv_bipush (v := Int32.ofInt (-5)) C.1 C.2.1 dX3_has_5 (by decide) ?_
  refine j_icmp_eq (tgt := 14) C rfl (w32_id (by decide) (by decide)) dX3_has_7 (by decide) (fun c2 => ?_) (fun c2 => ?_)
  · have hf := (if_pos c2).symm.trans hf
    refine lv_iconst (v := Int32.ofInt 0) C.1 C.2.1 dX3_has_14 rfl ?_
    have hf := som_e hf
    subst hf
    exact j_zret C hO (Or.inl rfl) dX3_has_15
  · have hf := (if_neg c2).symm.trans hf
    refine lv_iconst (v := Int32.ofInt 1) C.1 C.2.1 dX3_has_10 rfl ?_
    refine lv_goto (tgt := 15) C.1 C.2.1 dX3_has_11 (by decide) ?_
    have hf := som_e hf
    subst hf
    exact j_zret C hO (Or.inr rfl) dX3_has_15
set_option maxHeartbeats 1000000 in
theorem c_X3_has (l : Launch) (G : jG)  (M : jM) (l0 l1 : Int) (h0 : jkd l0 = (3, 0)) (h1 : jkd l1 = (3, 0)) {fin : Int} (h : f_X3_has M l0 l1 = some fin) : Met l yX3_has (Cond.code yX3_has cX3_has 2 (some .boolean) :: wsL_law) ({ frames := 3, cells := 0, slots := 0, locals := 65 } : Room) (va_Pc [jR G l0, jR G l1] (fun U => jRep G M U)) (jQ G (some (vI fin)) M) 0 0 (jA G) := by
  refine Met.ofW (cc := cX3_has) (maxL := 2) (ret := (some .boolean)) (by decide) rfl ?_
  intro p e s m args below meth c s₁ B hml hv
  obtain ⟨rfl, hR0⟩ := hv
  have C : jCx p s m ([jR G l0, jR G l1] : List Value).toArray meth c cX3_has 2 RX3 (Cond.code yX3_has cX3_has 2 (some .boolean)) (some .boolean) := ⟨B.exec, B.bytes, hml, findClass_of_methodNamed B.named, atoms_spec B.pre, B.returns, B.notSynchronized⟩
  have hO := hR0.ok
  have hl := lv_entry ([jR G l0, jR G l1]) (n := 2) (Nat.le_of_ble_eq_true rfl)
  rw [lg_entry_eq]
  generalize (lg_sl ([jR G l0, jR G l1]) ++ List.replicate (2 - (lg_sl ([jR G l0, jR G l1])).length) Slot.unset).toArray = ls at hl ⊢
  have hl : lv_has ls 2 [(0, jR G l0), (1, jR G l1)] := hl
  exact w_X3_has C (Nat.le_refl _) (Nat.le_refl _) M l0 l1 h0 h1 h hO hl
set_option maxHeartbeats 4000000 in
theorem w_X3_isApart {p : Program} {l : Launch} {e : Env} {R : Room} {s : State} {m : MethodId} {args : Array Value} {below : List Frame} {meth : Method} {c : Code} {H : Heap} {locs : List Loc} {ls : Array Slot} {G : jG}  (C : jCx p s m args meth c cX3_isApart 2 RX3 (Cond.code yX3_isApart cX3_isApart 2 (some .boolean)) (some .boolean)) (hRf : 3 ≤ R.frames) (hRl : 65 ≤ R.locals)  (M : jM) (l0 l1 : Int) (h0 : jkd l0 = (3, 0)) (h1 : jkd l1 = (3, 0)) {fin : Int} (hf : f_X3_isApart M l0 l1 = some fin) (hO : jOk G M s H locs) (hl : lv_has ls 2 [(0, jR G l0), (1, jR G l1)]) : W p l e R s m args below meth c H locs 0 0 (MQ below (jQ G (some (vI fin)) M) args s 0 0 (jA G)) (F0 m 0 ls []) := by
  unfold f_X3_isApart at hf
  refine lv_aload_n C.1 C.2.1 dX3_isApart_0 rfl (lv_at hl 0 rfl) ?_
  refine lv_aload_n C.1 C.2.1 dX3_isApart_1 rfl (lv_at hl 1 rfl) ?_
  obtain ⟨r1, hr1, hf⟩ := bnd_e hf
  refine j_callV C hO (n := 1) (As := [jR G l1]) (st1 := [vI r1]) (c_X3_firstEndOf l G M l0 l1 h0 h1 hr1) h0 rfl kC_24_19 kM_24_16 kI_24_17 kS_24_18 kN_3_8 ⟨by decide, by decide, by decide⟩ ⟨Nat.le_trans (by decide) hRf, Nat.le_trans (by decide) hRl⟩ rfl rfl rfl hl.1 rfl (Nat.le_of_ble_eq_true rfl) ⟨Nat.zero_le _, Nat.zero_le _⟩ dX3_isApart_2 rfl (fun H locs hO => ?_)
  refine lv_bipush (v := Int32.ofInt (-5)) C.1 C.2.1 dX3_isApart_5 (by decide) ?_
  refine j_icmp_ne (tgt := 24) C rfl (w32_id (by decide) (by decide)) dX3_isApart_7 (by decide) (fun c2 => ?_) (fun c2 => ?_)
  · have hf := (if_neg c2).symm.trans hf
    refine lv_iconst (v := Int32.ofInt 0) C.1 C.2.1 dX3_isApart_24 rfl ?_
    have hf := som_e hf
    subst hf
    exact j_zret C hO (Or.inl rfl) dX3_isApart_25
  · have hf := (if_pos c2).symm.trans hf
    refine lv_aload_n C.1 C.2.1 dX3_isApart_10 rfl (lv_at hl 1 rfl) ?_
    refine lv_aload_n C.1 C.2.1 dX3_isApart_11 rfl (lv_at hl 0 rfl) ?_
    obtain ⟨r3, hr3, hf⟩ := bnd_e hf
    refine j_callV C hO (n := 1) (As := [jR G l0]) (st1 := [vI r3]) (c_X3_firstEndOf l G M l1 l0 h1 h0 hr3) h1 rfl kC_24_19 kM_24_16 kI_24_17 kS_24_18 kN_3_8 ⟨by decide, by decide, by decide⟩ ⟨Nat.le_trans (by decide) hRf, Nat.le_trans (by decide) hRl⟩ rfl rfl rfl hl.1 rfl (Nat.le_of_ble_eq_true rfl) ⟨Nat.zero_le _, Nat.zero_le _⟩ dX3_isApart_12 rfl (fun H locs hO => ?_)
    refine lv_bipush (v := Int32.ofInt (-5)) C.1 C.2.1 dX3_isApart_15 (by decide) ?_
    refine j_icmp_ne (tgt := 24) C rfl (w32_id (by decide) (by decide)) dX3_isApart_17 (by decide) (fun c4 => ?_) (fun c4 => ?_)
    · have hf := (if_neg c4).symm.trans hf
      refine lv_iconst (v := Int32.ofInt 0) C.1 C.2.1 dX3_isApart_24 rfl ?_
      have hf := som_e hf
      subst hf
      exact j_zret C hO (Or.inl rfl) dX3_isApart_25
    · have hf := (if_pos c4).symm.trans hf
      refine lv_iconst (v := Int32.ofInt 1) C.1 C.2.1 dX3_isApart_20 rfl ?_
      refine lv_goto (tgt := 25) C.1 C.2.1 dX3_isApart_21 (by decide) ?_
      have hf := som_e hf
      subst hf
      exact j_zret C hO (Or.inr rfl) dX3_isApart_25
set_option maxHeartbeats 1000000 in
theorem c_X3_isApart (l : Launch) (G : jG)  (M : jM) (l0 l1 : Int) (h0 : jkd l0 = (3, 0)) (h1 : jkd l1 = (3, 0)) {fin : Int} (h : f_X3_isApart M l0 l1 = some fin) : Met l yX3_isApart (Cond.code yX3_isApart cX3_isApart 2 (some .boolean) :: wsL_law) ({ frames := 3, cells := 0, slots := 0, locals := 65 } : Room) (va_Pc [jR G l0, jR G l1] (fun U => jRep G M U)) (jQ G (some (vI fin)) M) 0 0 (jA G) := by
  refine Met.ofW (cc := cX3_isApart) (maxL := 2) (ret := (some .boolean)) (by decide) rfl ?_
  intro p e s m args below meth c s₁ B hml hv
  obtain ⟨rfl, hR0⟩ := hv
  have C : jCx p s m ([jR G l0, jR G l1] : List Value).toArray meth c cX3_isApart 2 RX3 (Cond.code yX3_isApart cX3_isApart 2 (some .boolean)) (some .boolean) := ⟨B.exec, B.bytes, hml, findClass_of_methodNamed B.named, atoms_spec B.pre, B.returns, B.notSynchronized⟩
  have hO := hR0.ok
  have hl := lv_entry ([jR G l0, jR G l1]) (n := 2) (Nat.le_of_ble_eq_true rfl)
  rw [lg_entry_eq]
  generalize (lg_sl ([jR G l0, jR G l1]) ++ List.replicate (2 - (lg_sl ([jR G l0, jR G l1])).length) Slot.unset).toArray = ls at hl ⊢
  have hl : lv_has ls 2 [(0, jR G l0), (1, jR G l1)] := hl
  exact w_X3_isApart C (Nat.le_refl _) (Nat.le_refl _) M l0 l1 h0 h1 h hO hl
set_option maxHeartbeats 4000000 in
theorem w_X7_clear {p : Program} {l : Launch} {e : Env} {R : Room} {s : State} {m : MethodId} {args : Array Value} {below : List Frame} {meth : Method} {c : Code} {H : Heap} {locs : List Loc} {ls : Array Slot} {G : jG}  (C : jCx p s m args meth c cX7_clear 1 RX7 (Cond.code yX7_clear cX7_clear 1 none) none) (hRf : 0 ≤ R.frames) (hRl : 0 ≤ R.locals)  (M : jM) (l0 : Int) (h0 : jkd l0 = (7, 0)) {fin : jM} (hf : f_X7_clear M l0 = some fin) (hO : jOk G M s H locs) (hl : lv_has ls 1 [(0, jR G l0)]) : W p l e R s m args below meth c H locs 0 0 (MQ below (jQ G none fin) args s 0 0 (jA G)) (F0 m 0 ls []) := by
  unfold f_X7_clear at hf
  refine lv_aload_n C.1 C.2.1 dX7_clear_0 rfl (lv_at hl 0 rfl) ?_
  refine lv_iconst (v := Int32.ofInt 2) C.1 C.2.1 dX7_clear_1 rfl ?_
  obtain ⟨M1, hM1, hf⟩ := lt1_e hf
  refine j_put C hO (ci := 7) (k := 0) (x := 2) h0 rfl inlX7 tyX7_ok nmX7 (by decide) kF_4_2 rfl rfl rfl rfl (by simp [jfl]) (fs_7_0) dX7_clear_2 (fun H locs hO => ?_)
  rw [← hM1] at hO
  refine lv_aload_n C.1 C.2.1 dX7_clear_5 rfl (lv_at hl 0 rfl) ?_
  refine lv_iconst (v := Int32.ofInt 1) C.1 C.2.1 dX7_clear_6 rfl ?_
  obtain ⟨M2, hM2, hf⟩ := lt1_e hf
  refine j_put C hO (ci := 7) (k := 1) (x := 1) h0 rfl inlX7 tyX7_ok nmX7 (by decide) kF_4_3 rfl rfl rfl rfl (by simp [jfl]) (fs_7_1) dX7_clear_7 (fun H locs hO => ?_)
  rw [← hM2] at hO
  refine lv_aload_n C.1 C.2.1 dX7_clear_10 rfl (lv_at hl 0 rfl) ?_
  refine lv_bipush (v := Int32.ofInt 10) C.1 C.2.1 dX7_clear_11 (by decide) ?_
  obtain ⟨M3, hM3, hf⟩ := lt1_e hf
  refine j_put C hO (ci := 7) (k := 2) (x := 10) h0 rfl inlX7 tyX7_ok nmX7 (by decide) kF_4_4 rfl rfl rfl rfl (by simp [jfl]) (fs_7_2) dX7_clear_13 (fun H locs hO => ?_)
  rw [← hM3] at hO
  refine lv_aload_n C.1 C.2.1 dX7_clear_16 rfl (lv_at hl 0 rfl) ?_
  refine lv_iconst (v := Int32.ofInt 0) C.1 C.2.1 dX7_clear_17 rfl ?_
  obtain ⟨M4, hM4, hf⟩ := lt1_e hf
  refine j_put C hO (ci := 7) (k := 3) (x := 0) h0 rfl inlX7 tyX7_ok nmX7 (by decide) kF_4_5 rfl rfl rfl rfl (by simp [jfl]) (fs_7_3) dX7_clear_18 (fun H locs hO => ?_)
  rw [← hM4] at hO
  have hf := som_e hf
  subst hf
  exact j_vret C hO dX7_clear_21
set_option maxHeartbeats 1000000 in
theorem c_X7_clear (l : Launch) (G : jG)  (M : jM) (l0 : Int) (h0 : jkd l0 = (7, 0)) {fin : jM} (h : f_X7_clear M l0 = some fin) : Met l yX7_clear (Cond.code yX7_clear cX7_clear 1 none :: wsL_law) ({ frames := 0, cells := 0, slots := 0, locals := 0 } : Room) (va_Pc [jR G l0] (fun U => jRep G M U)) (jQ G none fin) 0 0 (jA G) := by
  refine Met.ofW (cc := cX7_clear) (maxL := 1) (ret := none) (by decide) rfl ?_
  intro p e s m args below meth c s₁ B hml hv
  obtain ⟨rfl, hR0⟩ := hv
  have C : jCx p s m ([jR G l0] : List Value).toArray meth c cX7_clear 1 RX7 (Cond.code yX7_clear cX7_clear 1 none) none := ⟨B.exec, B.bytes, hml, findClass_of_methodNamed B.named, atoms_spec B.pre, B.returns, B.notSynchronized⟩
  have hO := hR0.ok
  have hl := lv_entry ([jR G l0]) (n := 1) (Nat.le_of_ble_eq_true rfl)
  rw [lg_entry_eq]
  generalize (lg_sl ([jR G l0]) ++ List.replicate (1 - (lg_sl ([jR G l0])).length) Slot.unset).toArray = ls at hl ⊢
  have hl : lv_has ls 1 [(0, jR G l0)] := hl
  exact w_X7_clear C (Nat.le_refl _) (Nat.le_refl _) M l0 h0 h hO hl
set_option maxHeartbeats 4000000 in
theorem w_X7_copy_L34 {p : Program} {l : Launch} {e : Env} {R : Room} {s : State} {m : MethodId} {args : Array Value} {below : List Frame} {meth : Method} {c : Code} {H : Heap} {locs : List Loc} {ls : Array Slot} {G : jG}  (C : jCx p s m args meth c cX7_copy 3 RX7 (Cond.code yX7_copy cX7_copy 3 none) none) (hRf : 0 ≤ R.frames) (hRl : 0 ≤ R.locals)  (M : jM) (l0 l1 : Int) (h0 : jkd l0 = (7, 0)) (h1 : jkd l1 = (7, 0)) {fin : jM} (S : jM × Int) {rr : (jM × Int) ⊕ jM} (hf : f_X7_copy_L34 M l0 l1 S = some rr) (kc : ∀ q : jM × Int, rr = .inl q → ∀ (H : Heap) (locs : List Loc) (ls : Array Slot), jOk G q.1 s H locs → lv_has ls 3 [(0, jR G l0), (1, jR G l1), (2, vI q.2)] → W p l e R s m args below meth c H locs 0 0 (MQ below (jQ G none fin) args s 0 0 (jA G)) (F0 m 34 ls [])) (kx0 : ∀ q : jM, rr = .inr q → ∀ (H : Heap) (locs : List Loc) (ls : Array Slot), jOk G q s H locs → lv_has ls 3 [] → W p l e R s m args below meth c H locs 0 0 (MQ below (jQ G none fin) args s 0 0 (jA G)) (F0 m 70 ls [])) (hO : jOk G S.1 s H locs) (hl : lv_has ls 3 [(0, jR G l0), (1, jR G l1), (2, vI S.2)]) : W p l e R s m args below meth c H locs 0 0 (MQ below (jQ G none fin) args s 0 0 (jA G)) (F0 m 34 ls []) := by
  unfold f_X7_copy_L34 at hf
  refine lv_iload_n C.1 C.2.1 dX7_copy_34 rfl (lv_at hl 2 rfl) ?_
  refine lv_bipush (v := Int32.ofInt 10) C.1 C.2.1 dX7_copy_35 (by decide) ?_
  refine j_icmp_ge (tgt := 70) C rfl (w32_id (by decide) (by decide)) dX7_copy_37 (by decide) (fun c5 => ?_) (fun c5 => ?_)
  · have hf := (if_pos c5).symm.trans hf
    exact kx0 _ (som_e hf).symm _ _ _ hO (lv_sub hl [] rfl)
  · have hf := (if_neg c5).symm.trans hf
    refine lv_aload_n C.1 C.2.1 dX7_copy_40 rfl (lv_at hl 0 rfl) ?_
    refine j_get C hO (ci := 7) (k := 4) (v := jR G (jpt l0 4)) h0 rfl inlX7 (by decide) kF_3_19 rfl rfl dX7_copy_41 ?_
    refine lv_iload_n C.1 C.2.1 dX7_copy_44 rfl (lv_at hl 2 rfl) ?_
    refine lv_aload_n C.1 C.2.1 dX7_copy_45 rfl (lv_at hl 1 rfl) ?_
    refine j_get C hO (ci := 7) (k := 4) (v := jR G (jpt l1 4)) h1 rfl inlX7 (by decide) kF_3_19 rfl rfl dX7_copy_46 ?_
    refine lv_iload_n C.1 C.2.1 dX7_copy_49 rfl (lv_at hl 2 rfl) ?_
    obtain ⟨g6, hf⟩ := grd_e hf
    refine j_iald C hO (tp_7_4 h1) rfl g6.1 g6.2 dX7_copy_50 ?_
    obtain ⟨g7, hf⟩ := grd_e hf
    obtain ⟨M8, hM8, hf⟩ := lt1_e hf
    refine j_iast C hO (x := S.1 (jpt l1 4) (w32 S.2)) (tp_7_4 h0) rfl g7.1 g7.2 dX7_copy_51 (fun H locs hO => ?_)
    rw [← hM8] at hO
    refine lv_aload_n C.1 C.2.1 dX7_copy_52 rfl (lv_at hl 0 rfl) ?_
    refine j_get C hO (ci := 7) (k := 5) (v := jR G (jpt l0 5)) h0 rfl inlX7 (by decide) kF_3_21 rfl rfl dX7_copy_53 ?_
    refine lv_iload_n C.1 C.2.1 dX7_copy_56 rfl (lv_at hl 2 rfl) ?_
    refine lv_aload_n C.1 C.2.1 dX7_copy_57 rfl (lv_at hl 1 rfl) ?_
    refine j_get C hO (ci := 7) (k := 5) (v := jR G (jpt l1 5)) h1 rfl inlX7 (by decide) kF_3_21 rfl rfl dX7_copy_58 ?_
    refine lv_iload_n C.1 C.2.1 dX7_copy_61 rfl (lv_at hl 2 rfl) ?_
    obtain ⟨g9, hf⟩ := grd_e hf
    refine j_lald C hO (tp_7_5 h1) rfl g9.1 g9.2 dX7_copy_62 ?_
    obtain ⟨g10, hf⟩ := grd_e hf
    obtain ⟨M11, hM11, hf⟩ := lt1_e hf
    refine j_last C hO (x := M8 (jpt l1 5) (w32 S.2)) (tp_7_5 h0) rfl g10.1 g10.2 dX7_copy_63 (fun H locs hO => ?_)
    rw [← hM11] at hO
    refine lv_iinc (v := Int32.ofInt (S.2 + 1)) (lv' := [(2, vI (S.2 + 1)), (0, jR G l0), (1, jR G l1)]) C.1 C.2.1 dX7_copy_64 hl (k := 2) rfl (Int32.ofInt_add _ _).symm (by decide) rfl (fun ls hl => ?_)
    refine lv_goto (tgt := 34) C.1 C.2.1 dX7_copy_67 (by decide) ?_
    exact kc _ (som_e hf).symm _ _ _ hO (lv_sub hl [1, 2, 0] rfl)
set_option maxHeartbeats 4000000 in
theorem w_X7_copy {p : Program} {l : Launch} {e : Env} {R : Room} {s : State} {m : MethodId} {args : Array Value} {below : List Frame} {meth : Method} {c : Code} {H : Heap} {locs : List Loc} {ls : Array Slot} {G : jG}  (C : jCx p s m args meth c cX7_copy 3 RX7 (Cond.code yX7_copy cX7_copy 3 none) none) (hRf : 0 ≤ R.frames) (hRl : 0 ≤ R.locals)  (M : jM) (l0 l1 : Int) (h0 : jkd l0 = (7, 0)) (h1 : jkd l1 = (7, 0)) {fin : jM} (hf : f_X7_copy M l0 l1 = some fin) (hO : jOk G M s H locs) (hl : lv_has ls 3 [(0, jR G l0), (1, jR G l1)]) : W p l e R s m args below meth c H locs 0 0 (MQ below (jQ G none fin) args s 0 0 (jA G)) (F0 m 0 ls []) := by
  unfold f_X7_copy at hf
  refine lv_aload_n C.1 C.2.1 dX7_copy_0 rfl (lv_at hl 0 rfl) ?_
  refine lv_aload_n C.1 C.2.1 dX7_copy_1 rfl (lv_at hl 1 rfl) ?_
  refine j_get C hO (ci := 7) (k := 0) (v := vI (M l1 0)) h1 rfl inlX7 (by decide) kF_4_2 rfl rfl dX7_copy_2 ?_
  obtain ⟨M1, hM1, hf⟩ := lt1_e hf
  refine j_put C hO (ci := 7) (k := 0) (x := M l1 0) h0 rfl inlX7 tyX7_ok nmX7 (by decide) kF_4_2 rfl rfl rfl rfl (by simp [jfl]) (fs_7_0) dX7_copy_5 (fun H locs hO => ?_)
  rw [← hM1] at hO
  refine lv_aload_n C.1 C.2.1 dX7_copy_8 rfl (lv_at hl 0 rfl) ?_
  refine lv_aload_n C.1 C.2.1 dX7_copy_9 rfl (lv_at hl 1 rfl) ?_
  refine j_get C hO (ci := 7) (k := 1) (v := vI (M1 l1 1)) h1 rfl inlX7 (by decide) kF_4_3 rfl rfl dX7_copy_10 ?_
  obtain ⟨M2, hM2, hf⟩ := lt1_e hf
  refine j_put C hO (ci := 7) (k := 1) (x := M1 l1 1) h0 rfl inlX7 tyX7_ok nmX7 (by decide) kF_4_3 rfl rfl rfl rfl (by simp [jfl]) (fs_7_1) dX7_copy_13 (fun H locs hO => ?_)
  rw [← hM2] at hO
  refine lv_aload_n C.1 C.2.1 dX7_copy_16 rfl (lv_at hl 0 rfl) ?_
  refine lv_aload_n C.1 C.2.1 dX7_copy_17 rfl (lv_at hl 1 rfl) ?_
  refine j_get C hO (ci := 7) (k := 2) (v := vI (M2 l1 2)) h1 rfl inlX7 (by decide) kF_4_4 rfl rfl dX7_copy_18 ?_
  obtain ⟨M3, hM3, hf⟩ := lt1_e hf
  refine j_put C hO (ci := 7) (k := 2) (x := M2 l1 2) h0 rfl inlX7 tyX7_ok nmX7 (by decide) kF_4_4 rfl rfl rfl rfl (by simp [jfl]) (fs_7_2) dX7_copy_21 (fun H locs hO => ?_)
  rw [← hM3] at hO
  refine lv_aload_n C.1 C.2.1 dX7_copy_24 rfl (lv_at hl 0 rfl) ?_
  refine lv_aload_n C.1 C.2.1 dX7_copy_25 rfl (lv_at hl 1 rfl) ?_
  refine j_get C hO (ci := 7) (k := 3) (v := vI (M3 l1 3)) h1 rfl inlX7 (by decide) kF_4_5 rfl rfl dX7_copy_26 ?_
  obtain ⟨M4, hM4, hf⟩ := lt1_e hf
  refine j_put C hO (ci := 7) (k := 3) (x := M3 l1 3) h0 rfl inlX7 tyX7_ok nmX7 (by decide) kF_4_5 rfl rfl rfl rfl (by simp [jfl]) (fs_7_3) dX7_copy_29 (fun H locs hO => ?_)
  rw [← hM4] at hO
  refine lv_iconst (v := Int32.ofInt 0) C.1 C.2.1 dX7_copy_32 rfl ?_
  refine lv_istore_n (lv' := [(2, vI 0), (0, jR G l0), (1, jR G l1)]) C.1 C.2.1 dX7_copy_33 rfl hl (by decide) rfl (fun ls hl => ?_)
  obtain ⟨x12, hx12, hf⟩ := bnd_e hf
  refine iter_e (P := fun Z => ∀ (H : Heap) (locs : List Loc) (ls : Array Slot), jOk G Z.1 s H locs → lv_has ls 3 [(0, jR G l0), (1, jR G l1), (2, vI Z.2)] → W p l e R s m args below meth c H locs 0 0 (MQ below (jQ G none fin) args s 0 0 (jA G)) (F0 m 34 ls [])) (E := fun q => ∀ (H : Heap) (locs : List Loc) (ls : Array Slot), jOk G q s H locs → lv_has ls 3 [] → W p l e R s m args below meth c H locs 0 0 (MQ below (jQ G none fin) args s 0 0 (jA G)) (F0 m 70 ls [])) (fun Z rr hb kc kx H locs ls hO hl => w_X7_copy_L34 C hRf hRl M4 l0 l1 h0 h1 Z hb kc (fun q e => kx q e) hO hl) 5000 (M4, 0) x12 hx12 ?_ _ _ _ hO (lv_sub hl [1, 2, 0] rfl)
  clear hO hl
  intro H locs ls hO hl
  have hf := som_e hf
  subst hf
  exact j_vret C hO dX7_copy_70
set_option maxHeartbeats 1000000 in
theorem c_X7_copy (l : Launch) (G : jG)  (M : jM) (l0 l1 : Int) (h0 : jkd l0 = (7, 0)) (h1 : jkd l1 = (7, 0)) {fin : jM} (h : f_X7_copy M l0 l1 = some fin) : Met l yX7_copy (Cond.code yX7_copy cX7_copy 3 none :: wsL_law) ({ frames := 0, cells := 0, slots := 0, locals := 0 } : Room) (va_Pc [jR G l0, jR G l1] (fun U => jRep G M U)) (jQ G none fin) 0 0 (jA G) := by
  refine Met.ofW (cc := cX7_copy) (maxL := 3) (ret := none) (by decide) rfl ?_
  intro p e s m args below meth c s₁ B hml hv
  obtain ⟨rfl, hR0⟩ := hv
  have C : jCx p s m ([jR G l0, jR G l1] : List Value).toArray meth c cX7_copy 3 RX7 (Cond.code yX7_copy cX7_copy 3 none) none := ⟨B.exec, B.bytes, hml, findClass_of_methodNamed B.named, atoms_spec B.pre, B.returns, B.notSynchronized⟩
  have hO := hR0.ok
  have hl := lv_entry ([jR G l0, jR G l1]) (n := 3) (Nat.le_of_ble_eq_true rfl)
  rw [lg_entry_eq]
  generalize (lg_sl ([jR G l0, jR G l1]) ++ List.replicate (3 - (lg_sl ([jR G l0, jR G l1])).length) Slot.unset).toArray = ls at hl ⊢
  have hl : lv_has ls 3 [(0, jR G l0), (1, jR G l1)] := hl
  exact w_X7_copy C (Nat.le_refl _) (Nat.le_refl _) M l0 l1 h0 h1 h hO hl
set_option maxHeartbeats 4000000 in
theorem w_X7_addHeavy {p : Program} {l : Launch} {e : Env} {R : Room} {s : State} {m : MethodId} {args : Array Value} {below : List Frame} {meth : Method} {c : Code} {H : Heap} {locs : List Loc} {ls : Array Slot} {G : jG}  (C : jCx p s m args meth c cX7_addHeavy 4 RX7 (Cond.code yX7_addHeavy cX7_addHeavy 4 none) none) (hRf : 0 ≤ R.frames) (hRl : 0 ≤ R.locals)  (M : jM) (l0 l1 l2 : Int) (h0 : jkd l0 = (7, 0)) {fin : jM} (hf : f_X7_addHeavy M l0 l1 l2 = some fin) (hO : jOk G M s H locs) (hl : lv_has ls 4 [(0, jR G l0), (1, vI l1), (2, vL l2)]) : W p l e R s m args below meth c H locs 0 0 (MQ below (jQ G none fin) args s 0 0 (jA G)) (F0 m 0 ls []) := by
  unfold f_X7_addHeavy at hf
  refine lv_aload_n C.1 C.2.1 dX7_addHeavy_0 rfl (lv_at hl 0 rfl) ?_
  refine j_get C hO (ci := 7) (k := 3) (v := vI (M l0 3)) h0 rfl inlX7 (by decide) kF_4_5 rfl rfl dX7_addHeavy_1 ?_
  refine lv_bipush (v := Int32.ofInt 10) C.1 C.2.1 dX7_addHeavy_4 (by decide) ?_
  refine j_icmp_ge (tgt := 39) C rfl (w32_id (by decide) (by decide)) dX7_addHeavy_6 (by decide) (fun c1 => ?_) (fun c1 => ?_)
  · have hf := (if_pos c1).symm.trans hf
    have hf := som_e hf
    subst hf
    exact j_vret C hO dX7_addHeavy_39
  · have hf := (if_neg c1).symm.trans hf
    refine lv_aload_n C.1 C.2.1 dX7_addHeavy_9 rfl (lv_at hl 0 rfl) ?_
    refine j_get C hO (ci := 7) (k := 4) (v := jR G (jpt l0 4)) h0 rfl inlX7 (by decide) kF_3_19 rfl rfl dX7_addHeavy_10 ?_
    refine lv_aload_n C.1 C.2.1 dX7_addHeavy_13 rfl (lv_at hl 0 rfl) ?_
    refine j_get C hO (ci := 7) (k := 3) (v := vI (M l0 3)) h0 rfl inlX7 (by decide) kF_4_5 rfl rfl dX7_addHeavy_14 ?_
    refine lv_iload_n C.1 C.2.1 dX7_addHeavy_17 rfl (lv_at hl 1 rfl) ?_
    obtain ⟨g2, hf⟩ := grd_e hf
    obtain ⟨M3, hM3, hf⟩ := lt1_e hf
    refine j_iast C hO (x := l1) (tp_7_4 h0) rfl g2.1 g2.2 dX7_addHeavy_18 (fun H locs hO => ?_)
    rw [← hM3] at hO
    refine lv_aload_n C.1 C.2.1 dX7_addHeavy_19 rfl (lv_at hl 0 rfl) ?_
    refine j_get C hO (ci := 7) (k := 5) (v := jR G (jpt l0 5)) h0 rfl inlX7 (by decide) kF_3_21 rfl rfl dX7_addHeavy_20 ?_
    refine lv_aload_n C.1 C.2.1 dX7_addHeavy_23 rfl (lv_at hl 0 rfl) ?_
    refine j_get C hO (ci := 7) (k := 3) (v := vI (M3 l0 3)) h0 rfl inlX7 (by decide) kF_4_5 rfl rfl dX7_addHeavy_24 ?_
    refine lv_lload_n C.1 C.2.1 dX7_addHeavy_27 rfl (lv_at hl 2 rfl) ?_
    obtain ⟨g4, hf⟩ := grd_e hf
    obtain ⟨M5, hM5, hf⟩ := lt1_e hf
    refine j_last C hO (x := l2) (tp_7_5 h0) rfl g4.1 g4.2 dX7_addHeavy_28 (fun H locs hO => ?_)
    rw [← hM5] at hO
    refine lv_aload_n C.1 C.2.1 dX7_addHeavy_29 rfl (lv_at hl 0 rfl) ?_
    refine lv_dup C.1 C.2.1 dX7_addHeavy_30 rfl ?_
    refine j_get C hO (ci := 7) (k := 3) (v := vI (M5 l0 3)) h0 rfl inlX7 (by decide) kF_4_5 rfl rfl dX7_addHeavy_31 ?_
    refine lv_iconst (v := Int32.ofInt 1) C.1 C.2.1 dX7_addHeavy_34 rfl ?_
    refine j_iadd C dX7_addHeavy_35 ?_
    obtain ⟨M6, hM6, hf⟩ := lt1_e hf
    refine j_put C hO (ci := 7) (k := 3) (x := (M5 l0 3) + 1) h0 rfl inlX7 tyX7_ok nmX7 (by decide) kF_4_5 rfl rfl rfl rfl (by simp [jfl]) (fs_7_3) dX7_addHeavy_36 (fun H locs hO => ?_)
    rw [← hM6] at hO
    have hf := som_e hf
    subst hf
    exact j_vret C hO dX7_addHeavy_39
set_option maxHeartbeats 1000000 in
theorem c_X7_addHeavy (l : Launch) (G : jG)  (M : jM) (l0 l1 l2 : Int) (h0 : jkd l0 = (7, 0)) {fin : jM} (h : f_X7_addHeavy M l0 l1 l2 = some fin) : Met l yX7_addHeavy (Cond.code yX7_addHeavy cX7_addHeavy 4 none :: wsL_law) ({ frames := 0, cells := 0, slots := 0, locals := 0 } : Room) (va_Pc [jR G l0, vI l1, vL l2] (fun U => jRep G M U)) (jQ G none fin) 0 0 (jA G) := by
  refine Met.ofW (cc := cX7_addHeavy) (maxL := 4) (ret := none) (by decide) rfl ?_
  intro p e s m args below meth c s₁ B hml hv
  obtain ⟨rfl, hR0⟩ := hv
  have C : jCx p s m ([jR G l0, vI l1, vL l2] : List Value).toArray meth c cX7_addHeavy 4 RX7 (Cond.code yX7_addHeavy cX7_addHeavy 4 none) none := ⟨B.exec, B.bytes, hml, findClass_of_methodNamed B.named, atoms_spec B.pre, B.returns, B.notSynchronized⟩
  have hO := hR0.ok
  have hl := lv_entry ([jR G l0, vI l1, vL l2]) (n := 4) (Nat.le_of_ble_eq_true rfl)
  rw [lg_entry_eq]
  generalize (lg_sl ([jR G l0, vI l1, vL l2]) ++ List.replicate (4 - (lg_sl ([jR G l0, vI l1, vL l2])).length) Slot.unset).toArray = ls at hl ⊢
  have hl : lv_has ls 4 [(0, jR G l0), (1, vI l1), (2, vL l2)] := hl
  exact w_X7_addHeavy C (Nat.le_refl _) (Nat.le_refl _) M l0 l1 l2 h0 h hO hl
set_option maxHeartbeats 4000000 in
theorem w_X7_place {p : Program} {l : Launch} {e : Env} {R : Room} {s : State} {m : MethodId} {args : Array Value} {below : List Frame} {meth : Method} {c : Code} {H : Heap} {locs : List Loc} {ls : Array Slot} {G : jG}  (C : jCx p s m args meth c cX7_place 3 RX7 (Cond.code yX7_place cX7_place 3 (some .int)) (some .int)) (hRf : 0 ≤ R.frames) (hRl : 0 ≤ R.locals)  (M : jM) (l0 l1 l2 : Int) {fin : Int} (hf : f_X7_place M l0 l1 l2 = some fin) (hO : jOk G M s H locs) (hl : lv_has ls 3 [(0, vI l0), (1, vI l1), (2, vI l2)]) : W p l e R s m args below meth c H locs 0 0 (MQ below (jQ G (some (vI fin)) M) args s 0 0 (jA G)) (F0 m 0 ls []) := by
  unfold f_X7_place at hf
  refine lv_iload_n C.1 C.2.1 dX7_place_0 rfl (lv_at hl 0 rfl) ?_
  refine lv_iconst (v := Int32.ofInt 2) C.1 C.2.1 dX7_place_1 rfl ?_
  refine j_isub C dX7_place_2 ?_
  refine lv_iconst (v := Int32.ofInt 3) C.1 C.2.1 dX7_place_3 rfl ?_
  refine j_imul C dX7_place_4 ?_
  refine lv_iload_n C.1 C.2.1 dX7_place_5 rfl (lv_at hl 1 rfl) ?_
  refine j_iadd C dX7_place_6 ?_
  refine lv_bipush (v := Int32.ofInt 10) C.1 C.2.1 dX7_place_7 (by decide) ?_
  refine j_imul C dX7_place_9 ?_
  refine lv_iload_n C.1 C.2.1 dX7_place_10 rfl (lv_at hl 2 rfl) ?_
  refine j_iadd C dX7_place_11 ?_
  have hf := som_e hf
  subst hf
  exact j_iret C hO dX7_place_12
set_option maxHeartbeats 1000000 in
theorem c_X7_place (l : Launch) (G : jG)  (M : jM) (l0 l1 l2 : Int) {fin : Int} (h : f_X7_place M l0 l1 l2 = some fin) : Met l yX7_place (Cond.code yX7_place cX7_place 3 (some .int) :: wsL_law) ({ frames := 0, cells := 0, slots := 0, locals := 0 } : Room) (va_Pc [vI l0, vI l1, vI l2] (fun U => jRep G M U)) (jQ G (some (vI fin)) M) 0 0 (jA G) := by
  refine Met.ofW (cc := cX7_place) (maxL := 3) (ret := (some .int)) (by decide) rfl ?_
  intro p e s m args below meth c s₁ B hml hv
  obtain ⟨rfl, hR0⟩ := hv
  have C : jCx p s m ([vI l0, vI l1, vI l2] : List Value).toArray meth c cX7_place 3 RX7 (Cond.code yX7_place cX7_place 3 (some .int)) (some .int) := ⟨B.exec, B.bytes, hml, findClass_of_methodNamed B.named, atoms_spec B.pre, B.returns, B.notSynchronized⟩
  have hO := hR0.ok
  have hl := lv_entry ([vI l0, vI l1, vI l2]) (n := 3) (Nat.le_of_ble_eq_true rfl)
  rw [lg_entry_eq]
  generalize (lg_sl ([vI l0, vI l1, vI l2]) ++ List.replicate (3 - (lg_sl ([vI l0, vI l1, vI l2])).length) Slot.unset).toArray = ls at hl ⊢
  have hl : lv_has ls 3 [(0, vI l0), (1, vI l1), (2, vI l2)] := hl
  exact w_X7_place C (Nat.le_refl _) (Nat.le_refl _) M l0 l1 l2  h hO hl
set_option maxHeartbeats 4000000 in
theorem w_X7_weightOf_48 {p : Program} {l : Launch} {e : Env} {R : Room} {s : State} {m : MethodId} {args : Array Value} {below : List Frame} {meth : Method} {c : Code} {H : Heap} {locs : List Loc} {ls : Array Slot} {G : jG}  (C : jCx p s m args meth c cX7_weightOf 5 RX7 (Cond.code yX7_weightOf cX7_weightOf 5 (some .int)) (some .int)) (hRf : 1 ≤ R.frames) (hRl : 22 ≤ R.locals)  (M : jM) (l0 l1 l2 l3 l4 : Int) (h0 : jkd l0 = (7, 0)) {fin : Int} {rr : (Int × Int) ⊕ Int} (hf : f_X7_weightOf_48 M l0 l1 l2 l3 l4 = some rr) (kc : ∀ q : Int × Int, rr = .inl q → ∀ (H : Heap) (locs : List Loc) (ls : Array Slot), jOk G M s H locs → lv_has ls 5 [(0, jR G l0), (1, vI l1), (2, vI l2), (3, vI q.1), (4, vI q.2)] → W p l e R s m args below meth c H locs 0 0 (MQ below (jQ G (some (vI fin)) M) args s 0 0 (jA G)) (F0 m 5 ls [])) (kx0 : ∀ q : Int, rr = .inr q → ∀ (H : Heap) (locs : List Loc) (ls : Array Slot), jOk G M s H locs → lv_has ls 5 [(3, vI q)] → W p l e R s m args below meth c H locs 0 0 (MQ below (jQ G (some (vI fin)) M) args s 0 0 (jA G)) (F0 m 54 ls [])) (hO : jOk G M s H locs) (hl : lv_has ls 5 [(0, jR G l0), (1, vI l1), (2, vI l2), (3, vI l3), (4, vI l4)]) : W p l e R s m args below meth c H locs 0 0 (MQ below (jQ G (some (vI fin)) M) args s 0 0 (jA G)) (F0 m 48 ls []) := by
  unfold f_X7_weightOf_48 at hf
  refine lv_iinc (v := Int32.ofInt (l4 + 1)) (lv' := [(4, vI (l4 + 1)), (0, jR G l0), (1, vI l1), (2, vI l2), (3, vI l3)]) C.1 C.2.1 dX7_weightOf_48 hl (k := 4) rfl (Int32.ofInt_add _ _).symm (by decide) rfl (fun ls hl => ?_)
  refine lv_goto (tgt := 5) C.1 C.2.1 dX7_weightOf_51 (by decide) ?_
  exact kc _ (som_e hf).symm _ _ _ hO (lv_sub hl [1, 2, 3, 4, 0] rfl)
set_option maxHeartbeats 4000000 in
theorem w_X7_weightOf_L5 {p : Program} {l : Launch} {e : Env} {R : Room} {s : State} {m : MethodId} {args : Array Value} {below : List Frame} {meth : Method} {c : Code} {H : Heap} {locs : List Loc} {ls : Array Slot} {G : jG}  (C : jCx p s m args meth c cX7_weightOf 5 RX7 (Cond.code yX7_weightOf cX7_weightOf 5 (some .int)) (some .int)) (hRf : 1 ≤ R.frames) (hRl : 22 ≤ R.locals)  (M : jM) (l0 l1 l2 : Int) (h0 : jkd l0 = (7, 0)) {fin : Int} (S : Int × Int) {rr : (Int × Int) ⊕ Int} (hf : f_X7_weightOf_L5 M l0 l1 l2 S = some rr) (kc : ∀ q : Int × Int, rr = .inl q → ∀ (H : Heap) (locs : List Loc) (ls : Array Slot), jOk G M s H locs → lv_has ls 5 [(0, jR G l0), (1, vI l1), (2, vI l2), (3, vI q.1), (4, vI q.2)] → W p l e R s m args below meth c H locs 0 0 (MQ below (jQ G (some (vI fin)) M) args s 0 0 (jA G)) (F0 m 5 ls [])) (kx0 : ∀ q : Int, rr = .inr q → ∀ (H : Heap) (locs : List Loc) (ls : Array Slot), jOk G M s H locs → lv_has ls 5 [(3, vI q)] → W p l e R s m args below meth c H locs 0 0 (MQ below (jQ G (some (vI fin)) M) args s 0 0 (jA G)) (F0 m 54 ls [])) (hO : jOk G M s H locs) (hl : lv_has ls 5 [(0, jR G l0), (1, vI l1), (2, vI l2), (3, vI S.1), (4, vI S.2)]) : W p l e R s m args below meth c H locs 0 0 (MQ below (jQ G (some (vI fin)) M) args s 0 0 (jA G)) (F0 m 5 ls []) := by
  unfold f_X7_weightOf_L5 at hf
  refine lv_iload C.1 C.2.1 dX7_weightOf_5 (lv_at hl 4 rfl) ?_
  refine lv_aload_n C.1 C.2.1 dX7_weightOf_7 rfl (lv_at hl 0 rfl) ?_
  refine j_get C hO (ci := 7) (k := 3) (v := vI (M l0 3)) h0 rfl inlX7 (by decide) kF_4_5 rfl rfl dX7_weightOf_8 ?_
  refine j_icmp_ge (tgt := 54) C rfl rfl dX7_weightOf_11 (by decide) (fun c1 => ?_) (fun c1 => ?_)
  · have hf := (if_pos c1).symm.trans hf
    exact kx0 _ (som_e hf).symm _ _ _ hO (lv_sub hl [3] rfl)
  · have hf := (if_neg c1).symm.trans hf
    refine lv_aload_n C.1 C.2.1 dX7_weightOf_14 rfl (lv_at hl 0 rfl) ?_
    refine j_get C hO (ci := 7) (k := 5) (v := jR G (jpt l0 5)) h0 rfl inlX7 (by decide) kF_3_21 rfl rfl dX7_weightOf_15 ?_
    refine lv_iload C.1 C.2.1 dX7_weightOf_18 (lv_at hl 4 rfl) ?_
    obtain ⟨g2, hf⟩ := grd_e hf
    refine j_lald C hO (tp_7_5 h0) rfl g2.1 g2.2 dX7_weightOf_20 ?_
    refine lv_aload_n C.1 C.2.1 dX7_weightOf_21 rfl (lv_at hl 0 rfl) ?_
    refine j_get C hO (ci := 7) (k := 0) (v := vI (M l0 0)) h0 rfl inlX7 (by decide) kF_4_2 rfl rfl dX7_weightOf_22 ?_
    refine lv_iload_n C.1 C.2.1 dX7_weightOf_25 rfl (lv_at hl 1 rfl) ?_
    refine lv_iload_n C.1 C.2.1 dX7_weightOf_26 rfl (lv_at hl 2 rfl) ?_
    obtain ⟨r3, hr3, hf⟩ := bnd_e hf
    refine j_callS C hO (n := 3) (As := [vI (M l0 0), vI l1, vI l2]) (st1 := [vI r3, vL (M (jpt l0 5) (w32 S.2))]) (c_X7_place l G M (M l0 0) l1 l2  hr3) kC_11_23 kM_11_21 kT_11_22 kN_1_20 ⟨by decide, by decide, by decide⟩ ⟨Nat.le_trans (by decide) hRf, Nat.le_trans (by decide) hRl⟩ rfl rfl rfl hl.1 rfl (Nat.le_of_ble_eq_true rfl) ⟨Nat.zero_le _, Nat.zero_le _⟩ dX7_weightOf_27 rfl (fun H locs hO => ?_)
    refine j_lshr C dX7_weightOf_30 ?_
    refine lv_lconst (v := Int64.ofInt 1) C.1 C.2.1 dX7_weightOf_31 (by decide) ?_
    refine j_land C dX7_weightOf_32 ?_
    refine lv_lconst (v := Int64.ofInt 0) C.1 C.2.1 dX7_weightOf_33 (by decide) ?_
    refine j_lcmp_eq (tgt := 48) C rfl (w64_id (by decide) (by decide)) dX7_weightOf_34 dX7_weightOf_35 (by decide) (fun c4 => ?_) (fun c4 => ?_)
    · have hf := (if_pos c4).symm.trans hf
      exact w_X7_weightOf_48 C hRf hRl M l0 l1 l2 S.1 S.2 h0 hf kc kx0 hO (lv_sub hl [0, 1, 2, 3, 4] rfl)
    · have hf := (if_neg c4).symm.trans hf
      refine lv_iload_n C.1 C.2.1 dX7_weightOf_38 rfl (lv_at hl 3 rfl) ?_
      refine lv_aload_n C.1 C.2.1 dX7_weightOf_39 rfl (lv_at hl 0 rfl) ?_
      refine j_get C hO (ci := 7) (k := 4) (v := jR G (jpt l0 4)) h0 rfl inlX7 (by decide) kF_3_19 rfl rfl dX7_weightOf_40 ?_
      refine lv_iload C.1 C.2.1 dX7_weightOf_43 (lv_at hl 4 rfl) ?_
      obtain ⟨g5, hf⟩ := grd_e hf
      refine j_iald C hO (tp_7_4 h0) rfl g5.1 g5.2 dX7_weightOf_45 ?_
      refine j_iadd C dX7_weightOf_46 ?_
      refine lv_istore_n (lv' := [(3, vI (S.1 + (M (jpt l0 4) (w32 S.2)))), (0, jR G l0), (1, vI l1), (2, vI l2), (4, vI S.2)]) C.1 C.2.1 dX7_weightOf_47 rfl hl (by decide) rfl (fun ls hl => ?_)
      exact w_X7_weightOf_48 C hRf hRl M l0 l1 l2 (S.1 + (M (jpt l0 4) (w32 S.2))) S.2 h0 hf kc kx0 hO (lv_sub hl [1, 2, 3, 0, 4] rfl)
set_option maxHeartbeats 4000000 in
theorem w_X7_weightOf {p : Program} {l : Launch} {e : Env} {R : Room} {s : State} {m : MethodId} {args : Array Value} {below : List Frame} {meth : Method} {c : Code} {H : Heap} {locs : List Loc} {ls : Array Slot} {G : jG}  (C : jCx p s m args meth c cX7_weightOf 5 RX7 (Cond.code yX7_weightOf cX7_weightOf 5 (some .int)) (some .int)) (hRf : 1 ≤ R.frames) (hRl : 22 ≤ R.locals)  (M : jM) (l0 l1 l2 : Int) (h0 : jkd l0 = (7, 0)) {fin : Int} (hf : f_X7_weightOf M l0 l1 l2 = some fin) (hO : jOk G M s H locs) (hl : lv_has ls 5 [(0, jR G l0), (1, vI l1), (2, vI l2)]) : W p l e R s m args below meth c H locs 0 0 (MQ below (jQ G (some (vI fin)) M) args s 0 0 (jA G)) (F0 m 0 ls []) := by
  unfold f_X7_weightOf at hf
  refine lv_iconst (v := Int32.ofInt 1) C.1 C.2.1 dX7_weightOf_0 rfl ?_
  refine lv_istore_n (lv' := [(3, vI 1), (0, jR G l0), (1, vI l1), (2, vI l2)]) C.1 C.2.1 dX7_weightOf_1 rfl hl (by decide) rfl (fun ls hl => ?_)
  refine lv_iconst (v := Int32.ofInt 0) C.1 C.2.1 dX7_weightOf_2 rfl ?_
  refine lv_istore (lv' := [(4, vI 0), (3, vI 1), (0, jR G l0), (1, vI l1), (2, vI l2)]) C.1 C.2.1 dX7_weightOf_3 hl (by decide) rfl (fun ls hl => ?_)
  obtain ⟨x6, hx6, hf⟩ := bnd_e hf
  refine iter_e (P := fun Z => ∀ (H : Heap) (locs : List Loc) (ls : Array Slot), jOk G M s H locs → lv_has ls 5 [(0, jR G l0), (1, vI l1), (2, vI l2), (3, vI Z.1), (4, vI Z.2)] → W p l e R s m args below meth c H locs 0 0 (MQ below (jQ G (some (vI fin)) M) args s 0 0 (jA G)) (F0 m 5 ls [])) (E := fun q => ∀ (H : Heap) (locs : List Loc) (ls : Array Slot), jOk G M s H locs → lv_has ls 5 [(3, vI q)] → W p l e R s m args below meth c H locs 0 0 (MQ below (jQ G (some (vI fin)) M) args s 0 0 (jA G)) (F0 m 54 ls [])) (fun Z rr hb kc kx H locs ls hO hl => w_X7_weightOf_L5 C hRf hRl M l0 l1 l2 h0 Z hb kc (fun q e => kx q e) hO hl) 5000 (1, 0) x6 hx6 ?_ _ _ _ hO (lv_sub hl [2, 3, 4, 1, 0] rfl)
  clear hO hl
  intro H locs ls hO hl
  refine lv_iload_n C.1 C.2.1 dX7_weightOf_54 rfl (lv_at hl 0 rfl) ?_
  refine lv_iconst (v := Int32.ofInt 4) C.1 C.2.1 dX7_weightOf_55 rfl ?_
  refine j_mmin C kM_16_0 kT_7_15 kN_7_16 kC_7_17 hl.1 (Nat.le_trans (by decide) hRf) (Nat.le_trans (by decide) hRl) ⟨Nat.zero_le _, Nat.zero_le _⟩ (Nat.le_of_ble_eq_true rfl) dX7_weightOf_56 ?_
  have hf := som_e hf
  subst hf
  exact j_iret C hO dX7_weightOf_59
set_option maxHeartbeats 1000000 in
theorem c_X7_weightOf (l : Launch) (G : jG)  (M : jM) (l0 l1 l2 : Int) (h0 : jkd l0 = (7, 0)) {fin : Int} (h : f_X7_weightOf M l0 l1 l2 = some fin) : Met l yX7_weightOf (Cond.code yX7_weightOf cX7_weightOf 5 (some .int) :: wsL_law) ({ frames := 1, cells := 0, slots := 0, locals := 22 } : Room) (va_Pc [jR G l0, vI l1, vI l2] (fun U => jRep G M U)) (jQ G (some (vI fin)) M) 0 0 (jA G) := by
  refine Met.ofW (cc := cX7_weightOf) (maxL := 5) (ret := (some .int)) (by decide) rfl ?_
  intro p e s m args below meth c s₁ B hml hv
  obtain ⟨rfl, hR0⟩ := hv
  have C : jCx p s m ([jR G l0, vI l1, vI l2] : List Value).toArray meth c cX7_weightOf 5 RX7 (Cond.code yX7_weightOf cX7_weightOf 5 (some .int)) (some .int) := ⟨B.exec, B.bytes, hml, findClass_of_methodNamed B.named, atoms_spec B.pre, B.returns, B.notSynchronized⟩
  have hO := hR0.ok
  have hl := lv_entry ([jR G l0, vI l1, vI l2]) (n := 5) (Nat.le_of_ble_eq_true rfl)
  rw [lg_entry_eq]
  generalize (lg_sl ([jR G l0, vI l1, vI l2]) ++ List.replicate (5 - (lg_sl ([jR G l0, vI l1, vI l2])).length) Slot.unset).toArray = ls at hl ⊢
  have hl : lv_has ls 5 [(0, jR G l0), (1, vI l1), (2, vI l2)] := hl
  exact w_X7_weightOf C (Nat.le_refl _) (Nat.le_refl _) M l0 l1 l2 h0 h hO hl
set_option maxHeartbeats 4000000 in
theorem w_X7_holds {p : Program} {l : Launch} {e : Env} {R : Room} {s : State} {m : MethodId} {args : Array Value} {below : List Frame} {meth : Method} {c : Code} {H : Heap} {locs : List Loc} {ls : Array Slot} {G : jG}  (C : jCx p s m args meth c cX7_holds 3 RX7 (Cond.code yX7_holds cX7_holds 3 (some .boolean)) (some .boolean)) (hRf : 0 ≤ R.frames) (hRl : 0 ≤ R.locals)  (M : jM) (l0 l1 l2 : Int) {fin : Int} (hf : f_X7_holds M l0 l1 l2 = some fin) (hO : jOk G M s H locs) (hl : lv_has ls 3 [(0, vI l0), (1, vI l1), (2, vI l2)]) : W p l e R s m args below meth c H locs 0 0 (MQ below (jQ G (some (vI fin)) M) args s 0 0 (jA G)) (F0 m 0 ls []) := by
  unfold f_X7_holds at hf
  refine lv_iload_n C.1 C.2.1 dX7_holds_0 rfl (lv_at hl 1 rfl) ?_
  refine lv_bipush (v := Int32.ofInt 60) C.1 C.2.1 dX7_holds_1 (by decide) ?_
  refine j_icmp_ne (tgt := 17) C rfl (w32_id (by decide) (by decide)) dX7_holds_3 (by decide) (fun c1 => ?_) (fun c1 => ?_)
  · have hf := (if_neg c1).symm.trans hf
    refine lv_iload_n C.1 C.2.1 dX7_holds_17 rfl (lv_at hl 1 rfl) ?_
    refine lv_bipush (v := Int32.ofInt 62) C.1 C.2.1 dX7_holds_18 (by decide) ?_
    refine j_icmp_ne (tgt := 36) C rfl (w32_id (by decide) (by decide)) dX7_holds_20 (by decide) (fun c2 => ?_) (fun c2 => ?_)
    · have hf := (if_neg c2).symm.trans hf
      refine lv_iload_n C.1 C.2.1 dX7_holds_36 rfl (lv_at hl 0 rfl) ?_
      refine lv_iload_n C.1 C.2.1 dX7_holds_37 rfl (lv_at hl 2 rfl) ?_
      refine j_icmp_ne (tgt := 45) C rfl rfl dX7_holds_38 (by decide) (fun c3 => ?_) (fun c3 => ?_)
      · have hf := (if_neg c3).symm.trans hf
        refine lv_iconst (v := Int32.ofInt 0) C.1 C.2.1 dX7_holds_45 rfl ?_
        have hf := som_e hf
        subst hf
        exact j_zret C hO (Or.inl rfl) dX7_holds_46
      · have hf := (if_pos c3).symm.trans hf
        refine lv_iconst (v := Int32.ofInt 1) C.1 C.2.1 dX7_holds_41 rfl ?_
        refine lv_goto (tgt := 46) C.1 C.2.1 dX7_holds_42 (by decide) ?_
        have hf := som_e hf
        subst hf
        exact j_zret C hO (Or.inr rfl) dX7_holds_46
    · have hf := (if_pos c2).symm.trans hf
      refine lv_iload_n C.1 C.2.1 dX7_holds_23 rfl (lv_at hl 0 rfl) ?_
      refine lv_iload_n C.1 C.2.1 dX7_holds_24 rfl (lv_at hl 2 rfl) ?_
      refine j_icmp_le (tgt := 32) C rfl rfl dX7_holds_25 (by decide) (fun c4 => ?_) (fun c4 => ?_)
      · have hf := (if_pos c4).symm.trans hf
        refine lv_iconst (v := Int32.ofInt 0) C.1 C.2.1 dX7_holds_32 rfl ?_
        refine lv_goto (tgt := 46) C.1 C.2.1 dX7_holds_33 (by decide) ?_
        have hf := som_e hf
        subst hf
        exact j_zret C hO (Or.inl rfl) dX7_holds_46
      · have hf := (if_neg c4).symm.trans hf
        refine lv_iconst (v := Int32.ofInt 1) C.1 C.2.1 dX7_holds_28 rfl ?_
        refine lv_goto (tgt := 46) C.1 C.2.1 dX7_holds_29 (by decide) ?_
        have hf := som_e hf
        subst hf
        exact j_zret C hO (Or.inr rfl) dX7_holds_46
  · have hf := (if_pos c1).symm.trans hf
    refine lv_iload_n C.1 C.2.1 dX7_holds_6 rfl (lv_at hl 0 rfl) ?_
    refine lv_iload_n C.1 C.2.1 dX7_holds_7 rfl (lv_at hl 2 rfl) ?_
    refine j_icmp_ge (tgt := 15) C rfl rfl dX7_holds_8 (by decide) (fun c5 => ?_) (fun c5 => ?_)
    · have hf := (if_pos c5).symm.trans hf
      refine lv_iconst (v := Int32.ofInt 0) C.1 C.2.1 dX7_holds_15 rfl ?_
      have hf := som_e hf
      subst hf
      exact j_zret C hO (Or.inl rfl) dX7_holds_16
    · have hf := (if_neg c5).symm.trans hf
      refine lv_iconst (v := Int32.ofInt 1) C.1 C.2.1 dX7_holds_11 rfl ?_
      refine lv_goto (tgt := 16) C.1 C.2.1 dX7_holds_12 (by decide) ?_
      have hf := som_e hf
      subst hf
      exact j_zret C hO (Or.inr rfl) dX7_holds_16
set_option maxHeartbeats 1000000 in
theorem c_X7_holds (l : Launch) (G : jG)  (M : jM) (l0 l1 l2 : Int) {fin : Int} (h : f_X7_holds M l0 l1 l2 = some fin) : Met l yX7_holds (Cond.code yX7_holds cX7_holds 3 (some .boolean) :: wsL_law) ({ frames := 0, cells := 0, slots := 0, locals := 0 } : Room) (va_Pc [vI l0, vI l1, vI l2] (fun U => jRep G M U)) (jQ G (some (vI fin)) M) 0 0 (jA G) := by
  refine Met.ofW (cc := cX7_holds) (maxL := 3) (ret := (some .boolean)) (by decide) rfl ?_
  intro p e s m args below meth c s₁ B hml hv
  obtain ⟨rfl, hR0⟩ := hv
  have C : jCx p s m ([vI l0, vI l1, vI l2] : List Value).toArray meth c cX7_holds 3 RX7 (Cond.code yX7_holds cX7_holds 3 (some .boolean)) (some .boolean) := ⟨B.exec, B.bytes, hml, findClass_of_methodNamed B.named, atoms_spec B.pre, B.returns, B.notSynchronized⟩
  have hO := hR0.ok
  have hl := lv_entry ([vI l0, vI l1, vI l2]) (n := 3) (Nat.le_of_ble_eq_true rfl)
  rw [lg_entry_eq]
  generalize (lg_sl ([vI l0, vI l1, vI l2]) ++ List.replicate (3 - (lg_sl ([vI l0, vI l1, vI l2])).length) Slot.unset).toArray = ls at hl ⊢
  have hl : lv_has ls 3 [(0, vI l0), (1, vI l1), (2, vI l2)] := hl
  exact w_X7_holds C (Nat.le_refl _) (Nat.le_refl _) M l0 l1 l2  h hO hl
