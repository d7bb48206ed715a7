set_option maxHeartbeats 4000000 in
theorem w_X10_isRow {p : Program} {l : Launch} {e : Env} {R : Room} {s : State} {m : MethodId} {args : Array Value} {below : List Frame} {meth : Method} {c : Code} {H : Heap} {locs : List Loc} {ls : Array Slot} {G : jG}  (C : jCx p s m args meth c cX10_isRow 2 RX10 (Cond.code yX10_isRow cX10_isRow 2 (some .boolean)) (some .boolean)) (hRf : 1 ≤ R.frames) (hRl : 22 ≤ R.locals)  (M : jM) (l0 l1 : Int) (h0 : jkd l0 = (10, 0)) {fin : Int} (hf : f_X10_isRow M l0 l1 = some fin) (hO : jOk G M s H locs) (hl : lv_has ls 2 [(0, jR G l0), (1, vI l1)]) : W p l e R s m args below meth c H locs 0 0 (MQ below (jQ G (some (vI fin)) M) args s 0 0 (jA G)) (F0 m 0 ls []) := by
  unfold f_X10_isRow at hf
  refine lv_iload_n C.1 C.2.1 dX10_isRow_0 rfl (lv_at hl 1 rfl) ?_
  refine lv_iconst (v := Int32.ofInt 0) C.1 C.2.1 dX10_isRow_1 rfl ?_
  refine lv_aload_n C.1 C.2.1 dX10_isRow_2 rfl (lv_at hl 0 rfl) ?_
  refine j_get C hO (ci := 10) (k := 1) (v := jR G (jpt l0 1)) h0 rfl inlX10 (by decide) kF_5_23 rfl rfl dX10_isRow_3 ?_
  refine lv_iconst (v := Int32.ofInt 0) C.1 C.2.1 dX10_isRow_6 rfl ?_
  refine j_iald C hO (tp_10_1 h0) (w32_id (by decide) (by decide)) (by decide) (by decide) dX10_isRow_7 ?_
  refine lv_iconst (v := Int32.ofInt 1) C.1 C.2.1 dX10_isRow_8 rfl ?_
  refine j_isub C dX10_isRow_9 ?_
  obtain ⟨r1, hr1, hf⟩ := bnd_e hf
  refine j_callS C hO (n := 3) (As := [vI l1, vI 0, vI ((M (jpt l0 1) 0) - 1)]) (st1 := [vI r1]) (c_X10_in l G M l1 0 ((M (jpt l0 1) 0) - 1)  hr1) kC_7_1 kM_6_23 kT_7_0 kN_1_5 ⟨by decide, by decide, by decide⟩ ⟨Nat.le_trans (by decide) hRf, Nat.le_trans (by decide) hRl⟩ rfl rfl rfl hl.1 rfl (Nat.le_of_ble_eq_true rfl) ⟨Nat.zero_le _, Nat.zero_le _⟩ dX10_isRow_10 rfl (fun H locs hO => ?_)
  obtain ⟨g2, hf⟩ := grd_e hf
  have hf := som_e hf
  subst hf
  exact j_zret C hO g2 dX10_isRow_13
set_option maxHeartbeats 1000000 in
theorem c_X10_isRow (l : Launch) (G : jG)  (M : jM) (l0 l1 : Int) (h0 : jkd l0 = (10, 0)) {fin : Int} (h : f_X10_isRow M l0 l1 = some fin) : Met l yX10_isRow (Cond.code yX10_isRow cX10_isRow 2 (some .boolean) :: wsL_law) ({ frames := 1, cells := 0, slots := 0, locals := 22 } : Room) (va_Pc [jR G l0, vI l1] (fun U => jRep G M U)) (jQ G (some (vI fin)) M) 0 0 (jA G) := by
  refine Met.ofW (cc := cX10_isRow) (maxL := 2) (ret := (some .boolean)) (by decide) rfl ?_
  intro p e s m args below meth c s₁ B hml hv
  obtain ⟨rfl, hR0⟩ := hv
  have C : jCx p s m ([jR G l0, vI l1] : List Value).toArray meth c cX10_isRow 2 RX10 (Cond.code yX10_isRow cX10_isRow 2 (some .boolean)) (some .boolean) := ⟨B.exec, B.bytes, hml, findClass_of_methodNamed B.named, atoms_spec B.pre, B.returns, B.notSynchronized⟩
  have hO := hR0.ok
  have hl := lv_entry ([jR G l0, vI l1]) (n := 2) (Nat.le_of_ble_eq_true rfl)
  rw [lg_entry_eq]
  generalize (lg_sl ([jR G l0, vI l1]) ++ List.replicate (2 - (lg_sl ([jR G l0, vI l1])).length) Slot.unset).toArray = ls at hl ⊢
  have hl : lv_has ls 2 [(0, jR G l0), (1, vI l1)] := hl
  exact w_X10_isRow C (Nat.le_refl _) (Nat.le_refl _) M l0 l1 h0 h hO hl
set_option maxHeartbeats 4000000 in
theorem w_X10_isPlayer {p : Program} {l : Launch} {e : Env} {R : Room} {s : State} {m : MethodId} {args : Array Value} {below : List Frame} {meth : Method} {c : Code} {H : Heap} {locs : List Loc} {ls : Array Slot} {G : jG}  (C : jCx p s m args meth c cX10_isPlayer 2 RX10 (Cond.code yX10_isPlayer cX10_isPlayer 2 (some .boolean)) (some .boolean)) (hRf : 1 ≤ R.frames) (hRl : 22 ≤ R.locals)  (M : jM) (l0 l1 : Int) (h0 : jkd l0 = (10, 0)) {fin : Int} (hf : f_X10_isPlayer M l0 l1 = some fin) (hO : jOk G M s H locs) (hl : lv_has ls 2 [(0, jR G l0), (1, vI l1)]) : W p l e R s m args below meth c H locs 0 0 (MQ below (jQ G (some (vI fin)) M) args s 0 0 (jA G)) (F0 m 0 ls []) := by
  unfold f_X10_isPlayer at hf
  refine lv_iload_n C.1 C.2.1 dX10_isPlayer_0 rfl (lv_at hl 1 rfl) ?_
  refine lv_iconst (v := Int32.ofInt 0) C.1 C.2.1 dX10_isPlayer_1 rfl ?_
  refine lv_aload_n C.1 C.2.1 dX10_isPlayer_2 rfl (lv_at hl 0 rfl) ?_
  refine j_get C hO (ci := 10) (k := 1) (v := jR G (jpt l0 1)) h0 rfl inlX10 (by decide) kF_5_23 rfl rfl dX10_isPlayer_3 ?_
  refine lv_iconst (v := Int32.ofInt 1) C.1 C.2.1 dX10_isPlayer_6 rfl ?_
  refine j_iald C hO (tp_10_1 h0) (w32_id (by decide) (by decide)) (by decide) (by decide) dX10_isPlayer_7 ?_
  refine lv_iconst (v := Int32.ofInt 1) C.1 C.2.1 dX10_isPlayer_8 rfl ?_
  refine j_isub C dX10_isPlayer_9 ?_
  obtain ⟨r1, hr1, hf⟩ := bnd_e hf
  refine j_callS C hO (n := 3) (As := [vI l1, vI 0, vI ((M (jpt l0 1) 1) - 1)]) (st1 := [vI r1]) (c_X10_in l G M l1 0 ((M (jpt l0 1) 1) - 1)  hr1) kC_7_1 kM_6_23 kT_7_0 kN_1_5 ⟨by decide, by decide, by decide⟩ ⟨Nat.le_trans (by decide) hRf, Nat.le_trans (by decide) hRl⟩ rfl rfl rfl hl.1 rfl (Nat.le_of_ble_eq_true rfl) ⟨Nat.zero_le _, Nat.zero_le _⟩ dX10_isPlayer_10 rfl (fun H locs hO => ?_)
  obtain ⟨g2, hf⟩ := grd_e hf
  have hf := som_e hf
  subst hf
  exact j_zret C hO g2 dX10_isPlayer_13
set_option maxHeartbeats 1000000 in
theorem c_X10_isPlayer (l : Launch) (G : jG)  (M : jM) (l0 l1 : Int) (h0 : jkd l0 = (10, 0)) {fin : Int} (h : f_X10_isPlayer M l0 l1 = some fin) : Met l yX10_isPlayer (Cond.code yX10_isPlayer cX10_isPlayer 2 (some .boolean) :: wsL_law) ({ frames := 1, cells := 0, slots := 0, locals := 22 } : Room) (va_Pc [jR G l0, vI l1] (fun U => jRep G M U)) (jQ G (some (vI fin)) M) 0 0 (jA G) := by
  refine Met.ofW (cc := cX10_isPlayer) (maxL := 2) (ret := (some .boolean)) (by decide) rfl ?_
  intro p e s m args below meth c s₁ B hml hv
  obtain ⟨rfl, hR0⟩ := hv
  have C : jCx p s m ([jR G l0, vI l1] : List Value).toArray meth c cX10_isPlayer 2 RX10 (Cond.code yX10_isPlayer cX10_isPlayer 2 (some .boolean)) (some .boolean) := ⟨B.exec, B.bytes, hml, findClass_of_methodNamed B.named, atoms_spec B.pre, B.returns, B.notSynchronized⟩
  have hO := hR0.ok
  have hl := lv_entry ([jR G l0, vI l1]) (n := 2) (Nat.le_of_ble_eq_true rfl)
  rw [lg_entry_eq]
  generalize (lg_sl ([jR G l0, vI l1]) ++ List.replicate (2 - (lg_sl ([jR G l0, vI l1])).length) Slot.unset).toArray = ls at hl ⊢
  have hl : lv_has ls 2 [(0, jR G l0), (1, vI l1)] := hl
  exact w_X10_isPlayer C (Nat.le_refl _) (Nat.le_refl _) M l0 l1 h0 h hO hl
set_option maxHeartbeats 4000000 in
theorem w_X10_feed {p : Program} {l : Launch} {e : Env} {R : Room} {s : State} {m : MethodId} {args : Array Value} {below : List Frame} {meth : Method} {c : Code} {H : Heap} {locs : List Loc} {ls : Array Slot} {G : jG}  (C : jCx p s m args meth c cX10_feed 2 RX10 (Cond.code yX10_feed cX10_feed 2 (some .int)) (some .int)) (hRf : 1 ≤ R.frames) (hRl : 22 ≤ R.locals)  (M : jM) (l0 l1 : Int) (h0 : jkd l0 = (10, 0)) {fin : Int × jM} (hf : f_X10_feed M l0 l1 = some fin) (hO : jOk G M s H locs) (hl : lv_has ls 2 [(0, jR G l0), (1, vI l1)]) : W p l e R s m args below meth c H locs 0 0 (MQ below (jQ G (some (vI fin.1)) fin.2) args s 0 0 (jA G)) (F0 m 0 ls []) := by
  unfold f_X10_feed at hf
  refine lv_iload_n C.1 C.2.1 dX10_feed_0 rfl (lv_at hl 1 rfl) ?_
  refine lv_iconst (v := Int32.ofInt 0) C.1 C.2.1 dX10_feed_1 rfl ?_
  refine lv_bipush (v := Int32.ofInt 127) C.1 C.2.1 dX10_feed_2 (by decide) ?_
  obtain ⟨r1, hr1, hf⟩ := bnd_e hf
  refine j_callS C hO (n := 3) (As := [vI l1, vI 0, vI 127]) (st1 := [vI r1]) (c_X10_in l G M l1 0 127  hr1) kC_7_1 kM_6_23 kT_7_0 kN_1_5 ⟨by decide, by decide, by decide⟩ ⟨Nat.le_trans (by decide) hRf, Nat.le_trans (by decide) hRl⟩ rfl rfl rfl hl.1 rfl (Nat.le_of_ble_eq_true rfl) ⟨Nat.zero_le _, Nat.zero_le _⟩ dX10_feed_4 rfl (fun H locs hO => ?_)
  refine j_if_ne (tgt := 13) C rfl dX10_feed_7 (by decide) (fun c2 => ?_) (fun c2 => ?_)
  · have hf := (if_neg c2).symm.trans hf
    refine lv_aload_n C.1 C.2.1 dX10_feed_13 rfl (lv_at hl 0 rfl) ?_
    refine j_get C hO (ci := 10) (k := 1) (v := jR G (jpt l0 1)) h0 rfl inlX10 (by decide) kF_5_23 rfl rfl dX10_feed_14 ?_
    refine lv_iconst (v := Int32.ofInt 5) C.1 C.2.1 dX10_feed_17 rfl ?_
    refine j_iald C hO (tp_10_1 h0) (w32_id (by decide) (by decide)) (by decide) (by decide) dX10_feed_18 ?_
    refine lv_bipush (v := Int32.ofInt 100) C.1 C.2.1 dX10_feed_19 (by decide) ?_
    refine j_icmp_ne (tgt := 27) C rfl (w32_id (by decide) (by decide)) dX10_feed_21 (by decide) (fun c3 => ?_) (fun c3 => ?_)
    · have hf := (if_neg c3).symm.trans hf
      refine lv_aload_n C.1 C.2.1 dX10_feed_27 rfl (lv_at hl 0 rfl) ?_
      refine j_get C hO (ci := 10) (k := 1) (v := jR G (jpt l0 1)) h0 rfl inlX10 (by decide) kF_5_23 rfl rfl dX10_feed_28 ?_
      refine lv_sipush (v := Int32.ofInt 132) C.1 C.2.1 dX10_feed_31 (by decide) ?_
      refine lv_aload_n C.1 C.2.1 dX10_feed_34 rfl (lv_at hl 0 rfl) ?_
      refine j_get C hO (ci := 10) (k := 1) (v := jR G (jpt l0 1)) h0 rfl inlX10 (by decide) kF_5_23 rfl rfl dX10_feed_35 ?_
      refine lv_iconst (v := Int32.ofInt 5) C.1 C.2.1 dX10_feed_38 rfl ?_
      refine j_iald C hO (tp_10_1 h0) (w32_id (by decide) (by decide)) (by decide) (by decide) dX10_feed_39 ?_
      refine j_iadd C dX10_feed_40 ?_
      refine lv_iload_n C.1 C.2.1 dX10_feed_41 rfl (lv_at hl 1 rfl) ?_
      obtain ⟨g4, hf⟩ := grd_e hf
      obtain ⟨M5, hM5, hf⟩ := lt1_e hf
      refine j_iast C hO (x := l1) (tp_10_1 h0) rfl g4.1 g4.2 dX10_feed_42 (fun H locs hO => ?_)
      rw [← hM5] at hO
      refine lv_aload_n C.1 C.2.1 dX10_feed_43 rfl (lv_at hl 0 rfl) ?_
      refine j_get C hO (ci := 10) (k := 1) (v := jR G (jpt l0 1)) h0 rfl inlX10 (by decide) kF_5_23 rfl rfl dX10_feed_44 ?_
      refine lv_iconst (v := Int32.ofInt 5) C.1 C.2.1 dX10_feed_47 rfl ?_
      refine lv_dup2_11 C.1 C.2.1 dX10_feed_48 rfl rfl ?_
      refine j_iald C hO (tp_10_1 h0) (w32_id (by decide) (by decide)) (by decide) (by decide) dX10_feed_49 ?_
      refine lv_iconst (v := Int32.ofInt 1) C.1 C.2.1 dX10_feed_50 rfl ?_
      refine j_iadd C dX10_feed_51 ?_
      obtain ⟨M6, hM6, hf⟩ := lt1_e hf
      refine j_iast C hO (x := (M5 (jpt l0 1) 5) + 1) (tp_10_1 h0) (w32_id (by decide) (by decide)) (by decide) (by decide) dX10_feed_52 (fun H locs hO => ?_)
      rw [← hM6] at hO
      refine lv_aload_n C.1 C.2.1 dX10_feed_53 rfl (lv_at hl 0 rfl) ?_
      refine j_get C hO (ci := 10) (k := 1) (v := jR G (jpt l0 1)) h0 rfl inlX10 (by decide) kF_5_23 rfl rfl dX10_feed_54 ?_
      refine lv_iconst (v := Int32.ofInt 5) C.1 C.2.1 dX10_feed_57 rfl ?_
      refine j_iald C hO (tp_10_1 h0) (w32_id (by decide) (by decide)) (by decide) (by decide) dX10_feed_58 ?_
      have hf := som_e hf
      subst hf
      exact j_iret C hO dX10_feed_59
    · have hf := (if_pos c3).symm.trans hf
      refine lv_bipush (v := Int32.ofInt (-4)) C.1 C.2.1 dX10_feed_24 (by decide) ?_
      have hf := som_e hf
      subst hf
      exact j_iret C hO dX10_feed_26
  · have hf := (if_pos c2).symm.trans hf
    refine lv_bipush (v := Int32.ofInt (-2)) C.1 C.2.1 dX10_feed_10 (by decide) ?_
    have hf := som_e hf
    subst hf
    exact j_iret C hO dX10_feed_12
set_option maxHeartbeats 1000000 in
theorem c_X10_feed (l : Launch) (G : jG)  (M : jM) (l0 l1 : Int) (h0 : jkd l0 = (10, 0)) {fin : Int × jM} (h : f_X10_feed M l0 l1 = some fin) : Met l yX10_feed (Cond.code yX10_feed cX10_feed 2 (some .int) :: wsL_law) ({ frames := 1, cells := 0, slots := 0, locals := 22 } : Room) (va_Pc [jR G l0, vI l1] (fun U => jRep G M U)) (jQ G (some (vI fin.1)) fin.2) 0 0 (jA G) := by
  refine Met.ofW (cc := cX10_feed) (maxL := 2) (ret := (some .int)) (by decide) rfl ?_
  intro p e s m args below meth c s₁ B hml hv
  obtain ⟨rfl, hR0⟩ := hv
  have C : jCx p s m ([jR G l0, vI l1] : List Value).toArray meth c cX10_feed 2 RX10 (Cond.code yX10_feed cX10_feed 2 (some .int)) (some .int) := ⟨B.exec, B.bytes, hml, findClass_of_methodNamed B.named, atoms_spec B.pre, B.returns, B.notSynchronized⟩
  have hO := hR0.ok
  have hl := lv_entry ([jR G l0, vI l1]) (n := 2) (Nat.le_of_ble_eq_true rfl)
  rw [lg_entry_eq]
  generalize (lg_sl ([jR G l0, vI l1]) ++ List.replicate (2 - (lg_sl ([jR G l0, vI l1])).length) Slot.unset).toArray = ls at hl ⊢
  have hl : lv_has ls 2 [(0, jR G l0), (1, vI l1)] := hl
  exact w_X10_feed C (Nat.le_refl _) (Nat.le_refl _) M l0 l1 h0 h hO hl
set_option maxHeartbeats 4000000 in
theorem w_X10_here {p : Program} {l : Launch} {e : Env} {R : Room} {s : State} {m : MethodId} {args : Array Value} {below : List Frame} {meth : Method} {c : Code} {H : Heap} {locs : List Loc} {ls : Array Slot} {G : jG}  (C : jCx p s m args meth c cX10_here 1 RX10 (Cond.code yX10_here cX10_here 1 (some .int)) (some .int)) (hRf : 0 ≤ R.frames) (hRl : 0 ≤ R.locals)  (M : jM) (l0 : Int) (h0 : jkd l0 = (10, 0)) {fin : Int} (hf : f_X10_here M l0 = some fin) (hO : jOk G M s H locs) (hl : lv_has ls 1 [(0, jR G l0)]) : W p l e R s m args below meth c H locs 0 0 (MQ below (jQ G (some (vI fin)) M) args s 0 0 (jA G)) (F0 m 0 ls []) := by
  unfold f_X10_here at hf
  refine lv_aload_n C.1 C.2.1 dX10_here_0 rfl (lv_at hl 0 rfl) ?_
  refine j_get C hO (ci := 10) (k := 5) (v := vI (M l0 5)) h0 rfl inlX10 (by decide) kF_12_15 rfl rfl dX10_here_1 ?_
  refine lv_aload_n C.1 C.2.1 dX10_here_4 rfl (lv_at hl 0 rfl) ?_
  refine j_get C hO (ci := 10) (k := 6) (v := vI (M l0 6)) h0 rfl inlX10 (by decide) kF_12_14 rfl rfl dX10_here_5 ?_
  refine j_icmp_ge (tgt := 27) C rfl rfl dX10_here_8 (by decide) (fun c1 => ?_) (fun c1 => ?_)
  · have hf := (if_pos c1).symm.trans hf
    refine lv_iconst (v := Int32.ofInt (-1)) C.1 C.2.1 dX10_here_27 rfl ?_
    have hf := som_e hf
    subst hf
    exact j_iret C hO dX10_here_28
  · have hf := (if_neg c1).symm.trans hf
    refine lv_aload_n C.1 C.2.1 dX10_here_11 rfl (lv_at hl 0 rfl) ?_
    refine j_get C hO (ci := 10) (k := 1) (v := jR G (jpt l0 1)) h0 rfl inlX10 (by decide) kF_5_23 rfl rfl dX10_here_12 ?_
    refine lv_sipush (v := Int32.ofInt 132) C.1 C.2.1 dX10_here_15 (by decide) ?_
    refine lv_aload_n C.1 C.2.1 dX10_here_18 rfl (lv_at hl 0 rfl) ?_
    refine j_get C hO (ci := 10) (k := 5) (v := vI (M l0 5)) h0 rfl inlX10 (by decide) kF_12_15 rfl rfl dX10_here_19 ?_
    refine j_iadd C dX10_here_22 ?_
    obtain ⟨g2, hf⟩ := grd_e hf
    refine j_iald C hO (tp_10_1 h0) rfl g2.1 g2.2 dX10_here_23 ?_
    refine lv_goto (tgt := 28) C.1 C.2.1 dX10_here_24 (by decide) ?_
    have hf := som_e hf
    subst hf
    exact j_iret C hO dX10_here_28
set_option maxHeartbeats 1000000 in
theorem c_X10_here (l : Launch) (G : jG)  (M : jM) (l0 : Int) (h0 : jkd l0 = (10, 0)) {fin : Int} (h : f_X10_here M l0 = some fin) : Met l yX10_here (Cond.code yX10_here cX10_here 1 (some .int) :: wsL_law) ({ frames := 0, cells := 0, slots := 0, locals := 0 } : Room) (va_Pc [jR G l0] (fun U => jRep G M U)) (jQ G (some (vI fin)) M) 0 0 (jA G) := by
  refine Met.ofW (cc := cX10_here) (maxL := 1) (ret := (some .int)) (by decide) rfl ?_
  intro p e s m args below meth c s₁ B hml hv
  obtain ⟨rfl, hR0⟩ := hv
  have C : jCx p s m ([jR G l0] : List Value).toArray meth c cX10_here 1 RX10 (Cond.code yX10_here cX10_here 1 (some .int)) (some .int) := ⟨B.exec, B.bytes, hml, findClass_of_methodNamed B.named, atoms_spec B.pre, B.returns, B.notSynchronized⟩
  have hO := hR0.ok
  have hl := lv_entry ([jR G l0]) (n := 1) (Nat.le_of_ble_eq_true rfl)
  rw [lg_entry_eq]
  generalize (lg_sl ([jR G l0]) ++ List.replicate (1 - (lg_sl ([jR G l0])).length) Slot.unset).toArray = ls at hl ⊢
  have hl : lv_has ls 1 [(0, jR G l0)] := hl
  exact w_X10_here C (Nat.le_refl _) (Nat.le_refl _) M l0 h0 h hO hl
set_option maxHeartbeats 4000000 in
theorem w_X10_must_41 {p : Program} {l : Launch} {e : Env} {R : Room} {s : State} {m : MethodId} {args : Array Value} {below : List Frame} {meth : Method} {c : Code} {H : Heap} {locs : List Loc} {ls : Array Slot} {G : jG}  (C : jCx p s m args meth c cX10_must 2 RX10 (Cond.code yX10_must cX10_must 2 none) none) (hRf : 1 ≤ R.frames) (hRl : 20 ≤ R.locals)  (M : jM) (s0 s1 s2 : Int) (g0 : jkd s0 = (10, 0)) {fin : jM} (hf : f_X10_must_41 M s0 s1 s2 = some fin) (hO : jOk G M s H locs) (hl : lv_has ls 2 []) : W p l e R s m args below meth c H locs 0 0 (MQ below (jQ G none fin) args s 0 0 (jA G)) (F0 m 41 ls [vI s2, vI s1, jR G s0]) := by
  unfold f_X10_must_41 at hf
  refine j_iadd C dX10_must_41 ?_
  obtain ⟨M5, hM5, hf⟩ := lt1_e hf
  refine j_put C hO (ci := 10) (k := 5) (x := s1 + s2) g0 rfl inlX10 tyX10_ok nmX10 (by decide) kF_12_15 rfl rfl rfl rfl (by simp [jfl]) (fs_10_5) dX10_must_42 (fun H locs hO => ?_)
  rw [← hM5] at hO
  have hf := som_e hf
  subst hf
  exact j_vret C hO dX10_must_45
set_option maxHeartbeats 4000000 in
theorem w_X10_must_21 {p : Program} {l : Launch} {e : Env} {R : Room} {s : State} {m : MethodId} {args : Array Value} {below : List Frame} {meth : Method} {c : Code} {H : Heap} {locs : List Loc} {ls : Array Slot} {G : jG}  (C : jCx p s m args meth c cX10_must 2 RX10 (Cond.code yX10_must cX10_must 2 none) none) (hRf : 1 ≤ R.frames) (hRl : 20 ≤ R.locals)  (M : jM) (l0 s0 s1 : Int) (h0 : jkd l0 = (10, 0)) (g0 : jkd s0 = (10, 0)) {fin : jM} (hf : f_X10_must_21 M l0 s0 s1 = some fin) (hO : jOk G M s H locs) (hl : lv_has ls 2 [(0, jR G l0)]) : W p l e R s m args below meth c H locs 0 0 (MQ below (jQ G none fin) args s 0 0 (jA G)) (F0 m 21 ls [vI s1, jR G s0]) := by
  unfold f_X10_must_21 at hf
  obtain ⟨g2, hf⟩ := grd_e hf
  obtain ⟨M3, hM3, hf⟩ := lt1_e hf
  refine j_put C hO (ci := 10) (k := 7) (x := s1) g0 rfl inlX10 tyX10_ok nmX10 (by decide) kF_12_16 rfl rfl (jz_n g2) (jz_f g2) (by simp [jfl]) (fs_10_7) dX10_must_21 (fun H locs hO => ?_)
  rw [← hM3] at hO
  refine lv_aload_n C.1 C.2.1 dX10_must_24 rfl (lv_at hl 0 rfl) ?_
  refine lv_dup C.1 C.2.1 dX10_must_25 rfl ?_
  refine j_get C hO (ci := 10) (k := 5) (v := vI (M3 l0 5)) h0 rfl inlX10 (by decide) kF_12_15 rfl rfl dX10_must_26 ?_
  refine lv_aload_n C.1 C.2.1 dX10_must_29 rfl (lv_at hl 0 rfl) ?_
  refine j_get C hO (ci := 10) (k := 7) (v := vI (M3 l0 7)) h0 rfl inlX10 (by decide) kF_12_16 rfl rfl dX10_must_30 ?_
  refine j_if_eq (tgt := 40) C rfl dX10_must_33 (by decide) (fun c4 => ?_) (fun c4 => ?_)
  · have hf := (if_pos c4).symm.trans hf
    refine lv_iconst (v := Int32.ofInt 1) C.1 C.2.1 dX10_must_40 rfl ?_
    exact w_X10_must_41 C hRf hRl M3 l0 (M3 l0 5) 1 h0 hf hO (lv_sub hl [] rfl)
  · have hf := (if_neg c4).symm.trans hf
    refine lv_iconst (v := Int32.ofInt 0) C.1 C.2.1 dX10_must_36 rfl ?_
    refine lv_goto (tgt := 41) C.1 C.2.1 dX10_must_37 (by decide) ?_
    exact w_X10_must_41 C hRf hRl M3 l0 (M3 l0 5) 0 h0 hf hO (lv_sub hl [] rfl)
set_option maxHeartbeats 4000000 in
theorem w_X10_must_16 {p : Program} {l : Launch} {e : Env} {R : Room} {s : State} {m : MethodId} {args : Array Value} {below : List Frame} {meth : Method} {c : Code} {H : Heap} {locs : List Loc} {ls : Array Slot} {G : jG}  (C : jCx p s m args meth c cX10_must 2 RX10 (Cond.code yX10_must cX10_must 2 none) none) (hRf : 1 ≤ R.frames) (hRl : 20 ≤ R.locals)  (M : jM) (l0 s0 : Int) (h0 : jkd l0 = (10, 0)) (g0 : jkd s0 = (10, 0)) {fin : jM} (hf : f_X10_must_16 M l0 s0 = some fin) (hO : jOk G M s H locs) (hl : lv_has ls 2 [(0, jR G l0)]) : W p l e R s m args below meth c H locs 0 0 (MQ below (jQ G none fin) args s 0 0 (jA G)) (F0 m 16 ls [jR G s0]) := by
  unfold f_X10_must_16 at hf
  refine lv_iconst (v := Int32.ofInt 1) C.1 C.2.1 dX10_must_16 rfl ?_
  refine lv_goto (tgt := 21) C.1 C.2.1 dX10_must_17 (by decide) ?_
  exact w_X10_must_21 C hRf hRl M l0 s0 1 h0 g0 hf hO (lv_sub hl [0] rfl)
set_option maxHeartbeats 4000000 in
theorem w_X10_must {p : Program} {l : Launch} {e : Env} {R : Room} {s : State} {m : MethodId} {args : Array Value} {below : List Frame} {meth : Method} {c : Code} {H : Heap} {locs : List Loc} {ls : Array Slot} {G : jG}  (C : jCx p s m args meth c cX10_must 2 RX10 (Cond.code yX10_must cX10_must 2 none) none) (hRf : 1 ≤ R.frames) (hRl : 20 ≤ R.locals)  (M : jM) (l0 l1 : Int) (h0 : jkd l0 = (10, 0)) {fin : jM} (hf : f_X10_must M l0 l1 = some fin) (hO : jOk G M s H locs) (hl : lv_has ls 2 [(0, jR G l0), (1, vI l1)]) : W p l e R s m args below meth c H locs 0 0 (MQ below (jQ G none fin) args s 0 0 (jA G)) (F0 m 0 ls []) := by
  unfold f_X10_must at hf
  refine lv_aload_n C.1 C.2.1 dX10_must_0 rfl (lv_at hl 0 rfl) ?_
  refine lv_aload_n C.1 C.2.1 dX10_must_1 rfl (lv_at hl 0 rfl) ?_
  refine j_get C hO (ci := 10) (k := 7) (v := vI (M l0 7)) h0 rfl inlX10 (by decide) kF_12_16 rfl rfl dX10_must_2 ?_
  refine j_if_ne (tgt := 16) C rfl dX10_must_5 (by decide) (fun c1 => ?_) (fun c1 => ?_)
  · have hf := (if_neg c1).symm.trans hf
    exact w_X10_must_16 C hRf hRl M l0 l0 h0 h0 hf hO (lv_sub hl [0] rfl)
  · have hf := (if_pos c1).symm.trans hf
    refine lv_aload_n C.1 C.2.1 dX10_must_8 rfl (lv_at hl 0 rfl) ?_
    obtain ⟨r6, hr6, hf⟩ := bnd_e hf
    refine j_callV C hO (n := 0) (As := []) (st1 := [vI r6, jR G l0]) (c_X10_here l G M l0 h0 hr6) h0 rfl kC_13_1 kM_12_22 kI_12_23 kS_13_0 kN_1_5 ⟨by decide, by decide, by decide⟩ ⟨Nat.le_trans (by decide) hRf, Nat.le_trans (by decide) hRl⟩ rfl rfl rfl hl.1 rfl (Nat.le_of_ble_eq_true rfl) ⟨Nat.zero_le _, Nat.zero_le _⟩ dX10_must_9 rfl (fun H locs hO => ?_)
    refine lv_iload_n C.1 C.2.1 dX10_must_12 rfl (lv_at hl 1 rfl) ?_
    refine j_icmp_eq (tgt := 20) C rfl rfl dX10_must_13 (by decide) (fun c7 => ?_) (fun c7 => ?_)
    · have hf := (if_pos c7).symm.trans hf
      refine lv_iconst (v := Int32.ofInt 0) C.1 C.2.1 dX10_must_20 rfl ?_
      exact w_X10_must_21 C hRf hRl M l0 l0 0 h0 h0 hf hO (lv_sub hl [0] rfl)
    · have hf := (if_neg c7).symm.trans hf
      exact w_X10_must_16 C hRf hRl M l0 l0 h0 h0 hf hO (lv_sub hl [0] rfl)
set_option maxHeartbeats 1000000 in
theorem c_X10_must (l : Launch) (G : jG)  (M : jM) (l0 l1 : Int) (h0 : jkd l0 = (10, 0)) {fin : jM} (h : f_X10_must M l0 l1 = some fin) : Met l yX10_must (Cond.code yX10_must cX10_must 2 none :: wsL_law) ({ frames := 1, cells := 0, slots := 0, locals := 20 } : Room) (va_Pc [jR G l0, vI l1] (fun U => jRep G M U)) (jQ G none fin) 0 0 (jA G) := by
  refine Met.ofW (cc := cX10_must) (maxL := 2) (ret := none) (by decide) rfl ?_
  intro p e s m args below meth c s₁ B hml hv
  obtain ⟨rfl, hR0⟩ := hv
  have C : jCx p s m ([jR G l0, vI l1] : List Value).toArray meth c cX10_must 2 RX10 (Cond.code yX10_must cX10_must 2 none) none := ⟨B.exec, B.bytes, hml, findClass_of_methodNamed B.named, atoms_spec B.pre, B.returns, B.notSynchronized⟩
  have hO := hR0.ok
  have hl := lv_entry ([jR G l0, vI l1]) (n := 2) (Nat.le_of_ble_eq_true rfl)
  rw [lg_entry_eq]
  generalize (lg_sl ([jR G l0, vI l1]) ++ List.replicate (2 - (lg_sl ([jR G l0, vI l1])).length) Slot.unset).toArray = ls at hl ⊢
  have hl : lv_has ls 2 [(0, jR G l0), (1, vI l1)] := hl
  exact w_X10_must C (Nat.le_refl _) (Nat.le_refl _) M l0 l1 h0 h hO hl
set_option maxHeartbeats 4000000 in
theorem w_X10_spells_L2 {p : Program} {l : Launch} {e : Env} {R : Room} {s : State} {m : MethodId} {args : Array Value} {below : List Frame} {meth : Method} {c : Code} {H : Heap} {locs : List Loc} {ls : Array Slot} {G : jG}  (C : jCx p s m args meth c cX10_spells 3 RX10 (Cond.code yX10_spells cX10_spells 3 none) none) (hRf : 6 ≤ R.frames) (hRl : 200 ≤ R.locals)  (M : jM) (l0 l1 : Int) (h0 : jkd l0 = (10, 0)) (h1 : 0 ≤ l1 ∧ l1 < 6) {fin : jM} (S : jM × Int) {rr : (jM × Int) ⊕ jM} (hf : f_X10_spells_L2 M l0 l1 S = some rr) (kc : ∀ q : jM × Int, rr = .inl q → ∀ (H : Heap) (locs : List Loc) (ls : Array Slot), jOk G q.1 s H locs → lv_has ls 3 [(0, jR G l0), (1, jS G l1), (2, vI q.2)] → W p l e R s m args below meth c H locs 0 0 (MQ below (jQ G none fin) args s 0 0 (jA G)) (F0 m 2 ls [])) (kx0 : ∀ q : jM, rr = .inr q → ∀ (H : Heap) (locs : List Loc) (ls : Array Slot), jOk G q s H locs → lv_has ls 3 [] → W p l e R s m args below meth c H locs 0 0 (MQ below (jQ G none fin) args s 0 0 (jA G)) (F0 m 25 ls [])) (hO : jOk G S.1 s H locs) (hl : lv_has ls 3 [(0, jR G l0), (1, jS G l1), (2, vI S.2)]) : W p l e R s m args below meth c H locs 0 0 (MQ below (jQ G none fin) args s 0 0 (jA G)) (F0 m 2 ls []) := by
  unfold f_X10_spells_L2 at hf
  refine lv_iload_n C.1 C.2.1 dX10_spells_2 rfl (lv_at hl 2 rfl) ?_
  refine lv_aload_n C.1 C.2.1 dX10_spells_3 rfl (lv_at hl 1 rfl) ?_
  refine j_slen C hO h1 hl.1 (Nat.le_trans (by decide) hRf) (Nat.le_trans (by decide) hRl) kM_13_6 (Nat.le_of_ble_eq_true rfl) ⟨Nat.zero_le _, Nat.zero_le _⟩ dX10_spells_4 (fun H locs hO => ?_)
  refine j_icmp_ge (tgt := 25) C rfl rfl dX10_spells_7 (by decide) (fun c1 => ?_) (fun c1 => ?_)
  · have hf := (if_pos c1).symm.trans hf
    exact kx0 _ (som_e hf).symm _ _ _ hO (lv_sub hl [] rfl)
  · have hf := (if_neg c1).symm.trans hf
    refine lv_aload_n C.1 C.2.1 dX10_spells_10 rfl (lv_at hl 0 rfl) ?_
    refine lv_aload_n C.1 C.2.1 dX10_spells_11 rfl (lv_at hl 1 rfl) ?_
    refine lv_iload_n C.1 C.2.1 dX10_spells_12 rfl (lv_at hl 2 rfl) ?_
    obtain ⟨g2, hf⟩ := grd_e hf
    refine j_schar C hO h1 rfl g2.1 g2.2 hl.1 (Nat.le_trans (by decide) hRf) (Nat.le_trans (by decide) hRl) kM_13_7 (Nat.le_of_ble_eq_true rfl) ⟨Nat.zero_le _, Nat.zero_le _⟩ dX10_spells_13 (fun H locs hO => ?_)
    obtain ⟨r3, hr3, hf⟩ := bnd_e hf
    refine j_callV C hO (n := 1) (As := [vI (jtxC l1 (w32 S.2))]) (st1 := []) (c_X10_must l G S.1 l0 (jtxC l1 (w32 S.2)) h0 hr3) h0 rfl kC_13_11 kM_13_8 kI_13_9 kS_13_10 kN_1_5 ⟨by decide, by decide, by decide⟩ ⟨Nat.le_trans (by decide) hRf, Nat.le_trans (by decide) hRl⟩ rfl rfl rfl hl.1 rfl (Nat.le_of_ble_eq_true rfl) ⟨Nat.zero_le _, Nat.zero_le _⟩ dX10_spells_16 rfl (fun H locs hO => ?_)
    refine lv_iinc (v := Int32.ofInt (S.2 + 1)) (lv' := [(2, vI (S.2 + 1)), (0, jR G l0), (1, jS G l1)]) C.1 C.2.1 dX10_spells_19 hl (k := 2) rfl (Int32.ofInt_add _ _).symm (by decide) rfl (fun ls hl => ?_)
    refine lv_goto (tgt := 2) C.1 C.2.1 dX10_spells_22 (by decide) ?_
    exact kc _ (som_e hf).symm _ _ _ hO (lv_sub hl [1, 2, 0] rfl)
set_option maxHeartbeats 4000000 in
theorem w_X10_spells {p : Program} {l : Launch} {e : Env} {R : Room} {s : State} {m : MethodId} {args : Array Value} {below : List Frame} {meth : Method} {c : Code} {H : Heap} {locs : List Loc} {ls : Array Slot} {G : jG}  (C : jCx p s m args meth c cX10_spells 3 RX10 (Cond.code yX10_spells cX10_spells 3 none) none) (hRf : 6 ≤ R.frames) (hRl : 200 ≤ R.locals)  (M : jM) (l0 l1 : Int) (h0 : jkd l0 = (10, 0)) (h1 : 0 ≤ l1 ∧ l1 < 6) {fin : jM} (hf : f_X10_spells M l0 l1 = some fin) (hO : jOk G M s H locs) (hl : lv_has ls 3 [(0, jR G l0), (1, jS G l1)]) : W p l e R s m args below meth c H locs 0 0 (MQ below (jQ G none fin) args s 0 0 (jA G)) (F0 m 0 ls []) := by
  unfold f_X10_spells at hf
  refine lv_iconst (v := Int32.ofInt 0) C.1 C.2.1 dX10_spells_0 rfl ?_
  refine lv_istore_n (lv' := [(2, vI 0), (0, jR G l0), (1, jS G l1)]) C.1 C.2.1 dX10_spells_1 rfl hl (by decide) rfl (fun ls hl => ?_)
  obtain ⟨x4, hx4, hf⟩ := bnd_e hf
  refine iter_e (P := fun Z => ∀ (H : Heap) (locs : List Loc) (ls : Array Slot), jOk G Z.1 s H locs → lv_has ls 3 [(0, jR G l0), (1, jS G l1), (2, vI Z.2)] → W p l e R s m args below meth c H locs 0 0 (MQ below (jQ G none fin) args s 0 0 (jA G)) (F0 m 2 ls [])) (E := fun q => ∀ (H : Heap) (locs : List Loc) (ls : Array Slot), jOk G q s H locs → lv_has ls 3 [] → W p l e R s m args below meth c H locs 0 0 (MQ below (jQ G none fin) args s 0 0 (jA G)) (F0 m 25 ls [])) (fun Z rr hb kc kx H locs ls hO hl => w_X10_spells_L2 C hRf hRl M l0 l1 h0 h1 Z hb kc (fun q e => kx q e) hO hl) 5000 (M, 0) x4 hx4 ?_ _ _ _ hO (lv_sub hl [1, 2, 0] rfl)
  clear hO hl
  intro H locs ls hO hl
  have hf := som_e hf
  subst hf
  exact j_vret C hO dX10_spells_25
set_option maxHeartbeats 1000000 in
theorem c_X10_spells (l : Launch) (G : jG)  (M : jM) (l0 l1 : Int) (h0 : jkd l0 = (10, 0)) (h1 : 0 ≤ l1 ∧ l1 < 6) {fin : jM} (h : f_X10_spells M l0 l1 = some fin) : Met l yX10_spells (Cond.code yX10_spells cX10_spells 3 none :: wsL_law) ({ frames := 6, cells := 0, slots := 0, locals := 200 } : Room) (va_Pc [jR G l0, jS G l1] (fun U => jRep G M U)) (jQ G none fin) 0 0 (jA G) := by
  refine Met.ofW (cc := cX10_spells) (maxL := 3) (ret := none) (by decide) rfl ?_
  intro p e s m args below meth c s₁ B hml hv
  obtain ⟨rfl, hR0⟩ := hv
  have C : jCx p s m ([jR G l0, jS G l1] : List Value).toArray meth c cX10_spells 3 RX10 (Cond.code yX10_spells cX10_spells 3 none) none := ⟨B.exec, B.bytes, hml, findClass_of_methodNamed B.named, atoms_spec B.pre, B.returns, B.notSynchronized⟩
  have hO := hR0.ok
  have hl := lv_entry ([jR G l0, jS G l1]) (n := 3) (Nat.le_of_ble_eq_true rfl)
  rw [lg_entry_eq]
  generalize (lg_sl ([jR G l0, jS G l1]) ++ List.replicate (3 - (lg_sl ([jR G l0, jS G l1])).length) Slot.unset).toArray = ls at hl ⊢
  have hl : lv_has ls 3 [(0, jR G l0), (1, jS G l1)] := hl
  exact w_X10_spells C (Nat.le_refl _) (Nat.le_refl _) M l0 l1 h0 h1 h hO hl
set_option maxHeartbeats 4000000 in
theorem w_X10_figures_68 {p : Program} {l : Launch} {e : Env} {R : Room} {s : State} {m : MethodId} {args : Array Value} {below : List Frame} {meth : Method} {c : Code} {H : Heap} {locs : List Loc} {ls : Array Slot} {G : jG}  (C : jCx p s m args meth c cX10_figures 3 RX10 (Cond.code yX10_figures cX10_figures 3 (some .int)) (some .int)) (hRf : 1 ≤ R.frames) (hRl : 22 ≤ R.locals)  (M : jM) (l0 l1 l2 : Int) (h0 : jkd l0 = (10, 0)) {fin : Int × jM} {rr : (jM × Int × Int) ⊕ ((jM × Int))} (hf : f_X10_figures_68 M l0 l1 l2 = some rr) (kc : ∀ q : jM × Int × Int, rr = .inl q → ∀ (H : Heap) (locs : List Loc) (ls : Array Slot), jOk G q.1 s H locs → lv_has ls 3 [(0, jR G l0), (1, vI q.2.1), (2, vI q.2.2)] → W p l e R s m args below meth c H locs 0 0 (MQ below (jQ G (some (vI fin.1)) fin.2) args s 0 0 (jA G)) (F0 m 34 ls [])) (kx0 : ∀ q : jM × Int, rr = .inr q → ∀ (H : Heap) (locs : List Loc) (ls : Array Slot), jOk G q.1 s H locs → lv_has ls 3 [(1, vI q.2)] → W p l e R s m args below meth c H locs 0 0 (MQ below (jQ G (some (vI fin.1)) fin.2) args s 0 0 (jA G)) (F0 m 97 ls [])) (hO : jOk G M s H locs) (hl : lv_has ls 3 [(0, jR G l0), (1, vI l1), (2, vI l2)]) : W p l e R s m args below meth c H locs 0 0 (MQ below (jQ G (some (vI fin.1)) fin.2) args s 0 0 (jA G)) (F0 m 68 ls []) := by
  unfold f_X10_figures_68 at hf
  refine lv_bipush (v := Int32.ofInt 10) C.1 C.2.1 dX10_figures_68 (by decide) ?_
  refine lv_iload_n C.1 C.2.1 dX10_figures_70 rfl (lv_at hl 1 rfl) ?_
  refine j_imul C dX10_figures_71 ?_
  refine lv_aload_n C.1 C.2.1 dX10_figures_72 rfl (lv_at hl 0 rfl) ?_
  obtain ⟨r10, hr10, hf⟩ := bnd_e hf
  refine j_callV C hO (n := 0) (As := []) (st1 := [vI r10, vI (10 * l1)]) (c_X10_here l G M l0 h0 hr10) h0 rfl kC_13_1 kM_12_22 kI_12_23 kS_13_0 kN_1_5 ⟨by decide, by decide, by decide⟩ ⟨Nat.le_trans (by decide) hRf, Nat.le_trans (by decide) hRl⟩ rfl rfl rfl hl.1 rfl (Nat.le_of_ble_eq_true rfl) ⟨Nat.zero_le _, Nat.zero_le _⟩ dX10_figures_73 rfl (fun H locs hO => ?_)
  refine j_iadd C dX10_figures_76 ?_
  refine lv_bipush (v := Int32.ofInt 48) C.1 C.2.1 dX10_figures_77 (by decide) ?_
  refine j_isub C dX10_figures_79 ?_
  refine lv_istore_n (lv' := [(1, vI (((10 * l1) + r10) - 48)), (0, jR G l0), (2, vI l2)]) C.1 C.2.1 dX10_figures_80 rfl hl (by decide) rfl (fun ls hl => ?_)
  refine lv_aload_n C.1 C.2.1 dX10_figures_81 rfl (lv_at hl 1 rfl) ?_
  refine lv_dup C.1 C.2.1 dX10_figures_82 rfl ?_
  refine j_get C hO (ci := 10) (k := 5) (v := vI (M l0 5)) h0 rfl inlX10 (by decide) kF_12_15 rfl rfl dX10_figures_83 ?_
  refine lv_iconst (v := Int32.ofInt 1) C.1 C.2.1 dX10_figures_86 rfl ?_
  refine j_iadd C dX10_figures_87 ?_
  obtain ⟨M11, hM11, hf⟩ := lt1_e hf
  refine j_put C hO (ci := 10) (k := 5) (x := (M l0 5) + 1) h0 rfl inlX10 tyX10_ok nmX10 (by decide) kF_12_15 rfl rfl rfl rfl (by simp [jfl]) (fs_10_5) dX10_figures_88 (fun H locs hO => ?_)
  rw [← hM11] at hO
  refine lv_iinc (v := Int32.ofInt (l2 + 1)) (lv' := [(2, vI (l2 + 1)), (1, vI (((10 * l1) + r10) - 48)), (0, jR G l0)]) C.1 C.2.1 dX10_figures_91 hl (k := 2) rfl (Int32.ofInt_add _ _).symm (by decide) rfl (fun ls hl => ?_)
  refine lv_goto (tgt := 34) C.1 C.2.1 dX10_figures_94 (by decide) ?_
  exact kc _ (som_e hf).symm _ _ _ hO (lv_sub hl [2, 1, 0] rfl)
set_option maxHeartbeats 4000000 in
theorem w_X10_figures_L34 {p : Program} {l : Launch} {e : Env} {R : Room} {s : State} {m : MethodId} {args : Array Value} {below : List Frame} {meth : Method} {c : Code} {H : Heap} {locs : List Loc} {ls : Array Slot} {G : jG}  (C : jCx p s m args meth c cX10_figures 3 RX10 (Cond.code yX10_figures cX10_figures 3 (some .int)) (some .int)) (hRf : 1 ≤ R.frames) (hRl : 22 ≤ R.locals)  (M : jM) (l0 : Int) (h0 : jkd l0 = (10, 0)) {fin : Int × jM} (S : jM × Int × Int) {rr : (jM × Int × Int) ⊕ ((jM × Int))} (hf : f_X10_figures_L34 M l0 S = some rr) (kc : ∀ q : jM × Int × Int, rr = .inl q → ∀ (H : Heap) (locs : List Loc) (ls : Array Slot), jOk G q.1 s H locs → lv_has ls 3 [(0, jR G l0), (1, vI q.2.1), (2, vI q.2.2)] → W p l e R s m args below meth c H locs 0 0 (MQ below (jQ G (some (vI fin.1)) fin.2) args s 0 0 (jA G)) (F0 m 34 ls [])) (kx0 : ∀ q : jM × Int, rr = .inr q → ∀ (H : Heap) (locs : List Loc) (ls : Array Slot), jOk G q.1 s H locs → lv_has ls 3 [(1, vI q.2)] → W p l e R s m args below meth c H locs 0 0 (MQ below (jQ G (some (vI fin.1)) fin.2) args s 0 0 (jA G)) (F0 m 97 ls [])) (hO : jOk G S.1 s H locs) (hl : lv_has ls 3 [(0, jR G l0), (1, vI S.2.1), (2, vI S.2.2)]) : W p l e R s m args below meth c H locs 0 0 (MQ below (jQ G (some (vI fin.1)) fin.2) args s 0 0 (jA G)) (F0 m 34 ls []) := by
  unfold f_X10_figures_L34 at hf
  refine lv_iload_n C.1 C.2.1 dX10_figures_34 rfl (lv_at hl 2 rfl) ?_
  refine lv_iconst (v := Int32.ofInt 2) C.1 C.2.1 dX10_figures_35 rfl ?_
  refine j_icmp_ge (tgt := 97) C rfl (w32_id (by decide) (by decide)) dX10_figures_36 (by decide) (fun c4 => ?_) (fun c4 => ?_)
  · have hf := (if_pos c4).symm.trans hf
    exact kx0 _ (som_e hf).symm _ _ _ hO (lv_sub hl [1] rfl)
  · have hf := (if_neg c4).symm.trans hf
    refine lv_aload_n C.1 C.2.1 dX10_figures_39 rfl (lv_at hl 0 rfl) ?_
    refine j_get C hO (ci := 10) (k := 7) (v := vI (S.1 l0 7)) h0 rfl inlX10 (by decide) kF_12_16 rfl rfl dX10_figures_40 ?_
    refine j_if_ne (tgt := 97) C rfl dX10_figures_43 (by decide) (fun c5 => ?_) (fun c5 => ?_)
    · have hf := (if_neg c5).symm.trans hf
      exact kx0 _ (som_e hf).symm _ _ _ hO (lv_sub hl [1] rfl)
    · have hf := (if_pos c5).symm.trans hf
      refine lv_aload_n C.1 C.2.1 dX10_figures_46 rfl (lv_at hl 0 rfl) ?_
      obtain ⟨r6, hr6, hf⟩ := bnd_e hf
      refine j_callV C hO (n := 0) (As := []) (st1 := [vI r6]) (c_X10_here l G S.1 l0 h0 hr6) h0 rfl kC_13_1 kM_12_22 kI_12_23 kS_13_0 kN_1_5 ⟨by decide, by decide, by decide⟩ ⟨Nat.le_trans (by decide) hRf, Nat.le_trans (by decide) hRl⟩ rfl rfl rfl hl.1 rfl (Nat.le_of_ble_eq_true rfl) ⟨Nat.zero_le _, Nat.zero_le _⟩ dX10_figures_47 rfl (fun H locs hO => ?_)
      refine lv_bipush (v := Int32.ofInt 48) C.1 C.2.1 dX10_figures_50 (by decide) ?_
      refine lv_bipush (v := Int32.ofInt 57) C.1 C.2.1 dX10_figures_52 (by decide) ?_
      obtain ⟨r7, hr7, hf⟩ := bnd_e hf
      refine j_callS C hO (n := 3) (As := [vI r6, vI 48, vI 57]) (st1 := [vI r7]) (c_X10_in l G S.1 r6 48 57  hr7) kC_7_1 kM_6_23 kT_7_0 kN_1_5 ⟨by decide, by decide, by decide⟩ ⟨Nat.le_trans (by decide) hRf, Nat.le_trans (by decide) hRl⟩ rfl rfl rfl hl.1 rfl (Nat.le_of_ble_eq_true rfl) ⟨Nat.zero_le _, Nat.zero_le _⟩ dX10_figures_54 rfl (fun H locs hO => ?_)
      refine j_if_eq (tgt := 97) C rfl dX10_figures_57 (by decide) (fun c8 => ?_) (fun c8 => ?_)
      · have hf := (if_pos c8).symm.trans hf
        exact kx0 _ (som_e hf).symm _ _ _ hO (lv_sub hl [1] rfl)
      · have hf := (if_neg c8).symm.trans hf
        refine lv_iload_n C.1 C.2.1 dX10_figures_60 rfl (lv_at hl 2 rfl) ?_
        refine j_if_eq (tgt := 68) C rfl dX10_figures_61 (by decide) (fun c9 => ?_) (fun c9 => ?_)
        · have hf := (if_pos c9).symm.trans hf
          exact w_X10_figures_68 C hRf hRl S.1 l0 S.2.1 S.2.2 h0 hf kc kx0 hO (lv_sub hl [0, 1, 2] rfl)
        · have hf := (if_neg c9).symm.trans hf
          refine lv_iload_n C.1 C.2.1 dX10_figures_64 rfl (lv_at hl 1 rfl) ?_
          refine j_if_le (tgt := 97) C rfl dX10_figures_65 (by decide) (fun c12 => ?_) (fun c12 => ?_)
          · have hf := (if_pos c12).symm.trans hf
            exact kx0 _ (som_e hf).symm _ _ _ hO (lv_sub hl [1] rfl)
          · have hf := (if_neg c12).symm.trans hf
            exact w_X10_figures_68 C hRf hRl S.1 l0 S.2.1 S.2.2 h0 hf kc kx0 hO (lv_sub hl [0, 1, 2] rfl)
set_option maxHeartbeats 4000000 in
theorem w_X10_figures_27 {p : Program} {l : Launch} {e : Env} {R : Room} {s : State} {m : MethodId} {args : Array Value} {below : List Frame} {meth : Method} {c : Code} {H : Heap} {locs : List Loc} {ls : Array Slot} {G : jG}  (C : jCx p s m args meth c cX10_figures 3 RX10 (Cond.code yX10_figures cX10_figures 3 (some .int)) (some .int)) (hRf : 1 ≤ R.frames) (hRl : 22 ≤ R.locals)  (M : jM) (l0 s0 s1 : Int) (h0 : jkd l0 = (10, 0)) (g0 : jkd s0 = (10, 0)) {fin : Int × jM} (hf : f_X10_figures_27 M l0 s0 s1 = some fin) (hO : jOk G M s H locs) (hl : lv_has ls 3 [(0, jR G l0)]) : W p l e R s m args below meth c H locs 0 0 (MQ below (jQ G (some (vI fin.1)) fin.2) args s 0 0 (jA G)) (F0 m 27 ls [vI s1, jR G s0]) := by
  unfold f_X10_figures_27 at hf
  obtain ⟨g2, hf⟩ := grd_e hf
  obtain ⟨M3, hM3, hf⟩ := lt1_e hf
  refine j_put C hO (ci := 10) (k := 7) (x := s1) g0 rfl inlX10 tyX10_ok nmX10 (by decide) kF_12_16 rfl rfl (jz_n g2) (jz_f g2) (by simp [jfl]) (fs_10_7) dX10_figures_27 (fun H locs hO => ?_)
  rw [← hM3] at hO
  refine lv_iconst (v := Int32.ofInt 0) C.1 C.2.1 dX10_figures_30 rfl ?_
  refine lv_istore_n (lv' := [(1, vI 0), (0, jR G l0)]) C.1 C.2.1 dX10_figures_31 rfl hl (by decide) rfl (fun ls hl => ?_)
  refine lv_iconst (v := Int32.ofInt 0) C.1 C.2.1 dX10_figures_32 rfl ?_
  refine lv_istore_n (lv' := [(2, vI 0), (1, vI 0), (0, jR G l0)]) C.1 C.2.1 dX10_figures_33 rfl hl (by decide) rfl (fun ls hl => ?_)
  obtain ⟨x13, hx13, hf⟩ := bnd_e hf
  refine iter_e (P := fun Z => ∀ (H : Heap) (locs : List Loc) (ls : Array Slot), jOk G Z.1 s H locs → lv_has ls 3 [(0, jR G l0), (1, vI Z.2.1), (2, vI Z.2.2)] → W p l e R s m args below meth c H locs 0 0 (MQ below (jQ G (some (vI fin.1)) fin.2) args s 0 0 (jA G)) (F0 m 34 ls [])) (E := fun q => ∀ (H : Heap) (locs : List Loc) (ls : Array Slot), jOk G q.1 s H locs → lv_has ls 3 [(1, vI q.2)] → W p l e R s m args below meth c H locs 0 0 (MQ below (jQ G (some (vI fin.1)) fin.2) args s 0 0 (jA G)) (F0 m 97 ls [])) (fun Z rr hb kc kx H locs ls hO hl => w_X10_figures_L34 C hRf hRl M3 l0 h0 Z hb kc (fun q e => kx q e) hO hl) 5000 (M3, 0, 0) x13 hx13 ?_ _ _ _ hO (lv_sub hl [2, 1, 0] rfl)
  clear hO hl
  intro H locs ls hO hl
  refine lv_iload_n C.1 C.2.1 dX10_figures_97 rfl (lv_at hl 0 rfl) ?_
  have hf := som_e hf
  subst hf
  exact j_iret C hO dX10_figures_98
set_option maxHeartbeats 4000000 in
theorem w_X10_figures_22 {p : Program} {l : Launch} {e : Env} {R : Room} {s : State} {m : MethodId} {args : Array Value} {below : List Frame} {meth : Method} {c : Code} {H : Heap} {locs : List Loc} {ls : Array Slot} {G : jG}  (C : jCx p s m args meth c cX10_figures 3 RX10 (Cond.code yX10_figures cX10_figures 3 (some .int)) (some .int)) (hRf : 1 ≤ R.frames) (hRl : 22 ≤ R.locals)  (M : jM) (l0 s0 : Int) (h0 : jkd l0 = (10, 0)) (g0 : jkd s0 = (10, 0)) {fin : Int × jM} (hf : f_X10_figures_22 M l0 s0 = some fin) (hO : jOk G M s H locs) (hl : lv_has ls 3 [(0, jR G l0)]) : W p l e R s m args below meth c H locs 0 0 (MQ below (jQ G (some (vI fin.1)) fin.2) args s 0 0 (jA G)) (F0 m 22 ls [jR G s0]) := by
  unfold f_X10_figures_22 at hf
  refine lv_iconst (v := Int32.ofInt 1) C.1 C.2.1 dX10_figures_22 rfl ?_
  refine lv_goto (tgt := 27) C.1 C.2.1 dX10_figures_23 (by decide) ?_
  exact w_X10_figures_27 C hRf hRl M l0 s0 1 h0 g0 hf hO (lv_sub hl [0] rfl)
set_option maxHeartbeats 4000000 in
theorem w_X10_figures {p : Program} {l : Launch} {e : Env} {R : Room} {s : State} {m : MethodId} {args : Array Value} {below : List Frame} {meth : Method} {c : Code} {H : Heap} {locs : List Loc} {ls : Array Slot} {G : jG}  (C : jCx p s m args meth c cX10_figures 3 RX10 (Cond.code yX10_figures cX10_figures 3 (some .int)) (some .int)) (hRf : 1 ≤ R.frames) (hRl : 22 ≤ R.locals)  (M : jM) (l0 : Int) (h0 : jkd l0 = (10, 0)) {fin : Int × jM} (hf : f_X10_figures M l0 = some fin) (hO : jOk G M s H locs) (hl : lv_has ls 3 [(0, jR G l0)]) : W p l e R s m args below meth c H locs 0 0 (MQ below (jQ G (some (vI fin.1)) fin.2) args s 0 0 (jA G)) (F0 m 0 ls []) := by
  unfold f_X10_figures at hf
  refine lv_aload_n C.1 C.2.1 dX10_figures_0 rfl (lv_at hl 0 rfl) ?_
  refine lv_aload_n C.1 C.2.1 dX10_figures_1 rfl (lv_at hl 0 rfl) ?_
  refine j_get C hO (ci := 10) (k := 7) (v := vI (M l0 7)) h0 rfl inlX10 (by decide) kF_12_16 rfl rfl dX10_figures_2 ?_
  refine j_if_ne (tgt := 22) C rfl dX10_figures_5 (by decide) (fun c1 => ?_) (fun c1 => ?_)
  · have hf := (if_neg c1).symm.trans hf
    exact w_X10_figures_22 C hRf hRl M l0 l0 h0 h0 hf hO (lv_sub hl [0] rfl)
  · have hf := (if_pos c1).symm.trans hf
    refine lv_aload_n C.1 C.2.1 dX10_figures_8 rfl (lv_at hl 0 rfl) ?_
    obtain ⟨r14, hr14, hf⟩ := bnd_e hf
    refine j_callV C hO (n := 0) (As := []) (st1 := [vI r14, jR G l0]) (c_X10_here l G M l0 h0 hr14) h0 rfl kC_13_1 kM_12_22 kI_12_23 kS_13_0 kN_1_5 ⟨by decide, by decide, by decide⟩ ⟨Nat.le_trans (by decide) hRf, Nat.le_trans (by decide) hRl⟩ rfl rfl rfl hl.1 rfl (Nat.le_of_ble_eq_true rfl) ⟨Nat.zero_le _, Nat.zero_le _⟩ dX10_figures_9 rfl (fun H locs hO => ?_)
    refine lv_bipush (v := Int32.ofInt 48) C.1 C.2.1 dX10_figures_12 (by decide) ?_
    refine lv_bipush (v := Int32.ofInt 57) C.1 C.2.1 dX10_figures_14 (by decide) ?_
    obtain ⟨r15, hr15, hf⟩ := bnd_e hf
    refine j_callS C hO (n := 3) (As := [vI r14, vI 48, vI 57]) (st1 := [vI r15, jR G l0]) (c_X10_in l G M r14 48 57  hr15) kC_7_1 kM_6_23 kT_7_0 kN_1_5 ⟨by decide, by decide, by decide⟩ ⟨Nat.le_trans (by decide) hRf, Nat.le_trans (by decide) hRl⟩ rfl rfl rfl hl.1 rfl (Nat.le_of_ble_eq_true rfl) ⟨Nat.zero_le _, Nat.zero_le _⟩ dX10_figures_16 rfl (fun H locs hO => ?_)
    refine j_if_ne (tgt := 26) C rfl dX10_figures_19 (by decide) (fun c16 => ?_) (fun c16 => ?_)
    · have hf := (if_neg c16).symm.trans hf
      refine lv_iconst (v := Int32.ofInt 0) C.1 C.2.1 dX10_figures_26 rfl ?_
      exact w_X10_figures_27 C hRf hRl M l0 l0 0 h0 h0 hf hO (lv_sub hl [0] rfl)
    · have hf := (if_pos c16).symm.trans hf
      exact w_X10_figures_22 C hRf hRl M l0 l0 h0 h0 hf hO (lv_sub hl [0] rfl)
set_option maxHeartbeats 1000000 in
theorem c_X10_figures (l : Launch) (G : jG)  (M : jM) (l0 : Int) (h0 : jkd l0 = (10, 0)) {fin : Int × jM} (h : f_X10_figures M l0 = some fin) : Met l yX10_figures (Cond.code yX10_figures cX10_figures 3 (some .int) :: wsL_law) ({ frames := 1, cells := 0, slots := 0, locals := 22 } : Room) (va_Pc [jR G l0] (fun U => jRep G M U)) (jQ G (some (vI fin.1)) fin.2) 0 0 (jA G) := by
  refine Met.ofW (cc := cX10_figures) (maxL := 3) (ret := (some .int)) (by decide) rfl ?_
  intro p e s m args below meth c s₁ B hml hv
  obtain ⟨rfl, hR0⟩ := hv
  have C : jCx p s m ([jR G l0] : List Value).toArray meth c cX10_figures 3 RX10 (Cond.code yX10_figures cX10_figures 3 (some .int)) (some .int) := ⟨B.exec, B.bytes, hml, findClass_of_methodNamed B.named, atoms_spec B.pre, B.returns, B.notSynchronized⟩
  have hO := hR0.ok
  have hl := lv_entry ([jR G l0]) (n := 3) (Nat.le_of_ble_eq_true rfl)
  rw [lg_entry_eq]
  generalize (lg_sl ([jR G l0]) ++ List.replicate (3 - (lg_sl ([jR G l0])).length) Slot.unset).toArray = ls at hl ⊢
  have hl : lv_has ls 3 [(0, jR G l0)] := hl
  exact w_X10_figures C (Nat.le_refl _) (Nat.le_refl _) M l0 h0 h hO hl
set_option maxHeartbeats 4000000 in
theorem w_X10_among_L2 {p : Program} {l : Launch} {e : Env} {R : Room} {s : State} {m : MethodId} {args : Array Value} {below : List Frame} {meth : Method} {c : Code} {H : Heap} {locs : List Loc} {ls : Array Slot} {G : jG}  (C : jCx p s m args meth c cX10_among 3 RX10 (Cond.code yX10_among cX10_among 3 (some .int)) (some .int)) (hRf : 6 ≤ R.frames) (hRl : 200 ≤ R.locals)  (M : jM) (l0 l1 : Int) (h0 : jkd l0 = (10, 0)) (h1 : 0 ≤ l1 ∧ l1 < 6) {fin : Int × jM} (S : Int) {rr : (Int) ⊕ (Unit ⊕ Int)} (hf : f_X10_among_L2 M l0 l1 S = some rr) (kc : ∀ q : Int, rr = .inl q → ∀ (H : Heap) (locs : List Loc) (ls : Array Slot), jOk G M s H locs → lv_has ls 3 [(0, jR G l0), (1, jS G l1), (2, vI q)] → W p l e R s m args below meth c H locs 0 0 (MQ below (jQ G (some (vI fin.1)) fin.2) args s 0 0 (jA G)) (F0 m 2 ls [])) (kx0 : ∀ q : Unit, rr = .inr (.inl q) → ∀ (H : Heap) (locs : List Loc) (ls : Array Slot), jOk G M s H locs → lv_has ls 3 [] → W p l e R s m args below meth c H locs 0 0 (MQ below (jQ G (some (vI fin.1)) fin.2) args s 0 0 (jA G)) (F0 m 40 ls [])) (kx1 : ∀ q : Int, rr = .inr (.inr q) → ∀ (H : Heap) (locs : List Loc) (ls : Array Slot), jOk G M s H locs → lv_has ls 3 [(0, jR G l0), (2, vI q)] → W p l e R s m args below meth c H locs 0 0 (MQ below (jQ G (some (vI fin.1)) fin.2) args s 0 0 (jA G)) (F0 m 22 ls [])) (hO : jOk G M s H locs) (hl : lv_has ls 3 [(0, jR G l0), (1, jS G l1), (2, vI S)]) : W p l e R s m args below meth c H locs 0 0 (MQ below (jQ G (some (vI fin.1)) fin.2) args s 0 0 (jA G)) (F0 m 2 ls []) := by
  unfold f_X10_among_L2 at hf
  refine lv_iload_n C.1 C.2.1 dX10_among_2 rfl (lv_at hl 2 rfl) ?_
  refine lv_aload_n C.1 C.2.1 dX10_among_3 rfl (lv_at hl 1 rfl) ?_
  refine j_slen C hO h1 hl.1 (Nat.le_trans (by decide) hRf) (Nat.le_trans (by decide) hRl) kM_13_6 (Nat.le_of_ble_eq_true rfl) ⟨Nat.zero_le _, Nat.zero_le _⟩ dX10_among_4 (fun H locs hO => ?_)
  refine j_icmp_ge (tgt := 40) C rfl rfl dX10_among_7 (by decide) (fun c1 => ?_) (fun c1 => ?_)
  · have hf := (if_pos c1).symm.trans hf
    exact kx0 _ (som_e hf).symm _ _ _ hO (lv_sub hl [] rfl)
  · have hf := (if_neg c1).symm.trans hf
    refine lv_aload_n C.1 C.2.1 dX10_among_10 rfl (lv_at hl 0 rfl) ?_
    obtain ⟨r2, hr2, hf⟩ := bnd_e hf
    refine j_callV C hO (n := 0) (As := []) (st1 := [vI r2]) (c_X10_here l G M l0 h0 hr2) h0 rfl kC_13_1 kM_12_22 kI_12_23 kS_13_0 kN_1_5 ⟨by decide, by decide, by decide⟩ ⟨Nat.le_trans (by decide) hRf, Nat.le_trans (by decide) hRl⟩ rfl rfl rfl hl.1 rfl (Nat.le_of_ble_eq_true rfl) ⟨Nat.zero_le _, Nat.zero_le _⟩ dX10_among_11 rfl (fun H locs hO => ?_)
    refine lv_aload_n C.1 C.2.1 dX10_among_14 rfl (lv_at hl 1 rfl) ?_
    refine lv_iload_n C.1 C.2.1 dX10_among_15 rfl (lv_at hl 2 rfl) ?_
    obtain ⟨g3, hf⟩ := grd_e hf
    refine j_schar C hO h1 rfl g3.1 g3.2 hl.1 (Nat.le_trans (by decide) hRf) (Nat.le_trans (by decide) hRl) kM_13_7 (Nat.le_of_ble_eq_true rfl) ⟨Nat.zero_le _, Nat.zero_le _⟩ dX10_among_16 (fun H locs hO => ?_)
    refine j_icmp_ne (tgt := 34) C rfl rfl dX10_among_19 (by decide) (fun c4 => ?_) (fun c4 => ?_)
    · have hf := (if_neg c4).symm.trans hf
      refine lv_iinc (v := Int32.ofInt (S + 1)) (lv' := [(2, vI (S + 1)), (0, jR G l0), (1, jS G l1)]) C.1 C.2.1 dX10_among_34 hl (k := 2) rfl (Int32.ofInt_add _ _).symm (by decide) rfl (fun ls hl => ?_)
      refine lv_goto (tgt := 2) C.1 C.2.1 dX10_among_37 (by decide) ?_
      exact kc _ (som_e hf).symm _ _ _ hO (lv_sub hl [1, 2, 0] rfl)
    · have hf := (if_pos c4).symm.trans hf
      exact kx1 _ (som_e hf).symm _ _ _ hO (lv_sub hl [0, 2] rfl)
set_option maxHeartbeats 4000000 in
theorem w_X10_among {p : Program} {l : Launch} {e : Env} {R : Room} {s : State} {m : MethodId} {args : Array Value} {below : List Frame} {meth : Method} {c : Code} {H : Heap} {locs : List Loc} {ls : Array Slot} {G : jG}  (C : jCx p s m args meth c cX10_among 3 RX10 (Cond.code yX10_among cX10_among 3 (some .int)) (some .int)) (hRf : 6 ≤ R.frames) (hRl : 200 ≤ R.locals)  (M : jM) (l0 l1 : Int) (h0 : jkd l0 = (10, 0)) (h1 : 0 ≤ l1 ∧ l1 < 6) {fin : Int × jM} (hf : f_X10_among M l0 l1 = some fin) (hO : jOk G M s H locs) (hl : lv_has ls 3 [(0, jR G l0), (1, jS G l1)]) : W p l e R s m args below meth c H locs 0 0 (MQ below (jQ G (some (vI fin.1)) fin.2) args s 0 0 (jA G)) (F0 m 0 ls []) := by
  unfold f_X10_among at hf
  refine lv_iconst (v := Int32.ofInt 0) C.1 C.2.1 dX10_among_0 rfl ?_
  refine lv_istore_n (lv' := [(2, vI 0), (0, jR G l0), (1, jS G l1)]) C.1 C.2.1 dX10_among_1 rfl hl (by decide) rfl (fun ls hl => ?_)
  obtain ⟨x5, hx5, hf⟩ := bnd_e hf
  refine iter_e (P := fun Z => ∀ (H : Heap) (locs : List Loc) (ls : Array Slot), jOk G M s H locs → lv_has ls 3 [(0, jR G l0), (1, jS G l1), (2, vI Z)] → W p l e R s m args below meth c H locs 0 0 (MQ below (jQ G (some (vI fin.1)) fin.2) args s 0 0 (jA G)) (F0 m 2 ls [])) (E := fun x => (∀ q : Unit, x = (.inl q) → ∀ (H : Heap) (locs : List Loc) (ls : Array Slot), jOk G M s H locs → lv_has ls 3 [] → W p l e R s m args below meth c H locs 0 0 (MQ below (jQ G (some (vI fin.1)) fin.2) args s 0 0 (jA G)) (F0 m 40 ls [])) ∧ (∀ q : Int, x = (.inr q) → ∀ (H : Heap) (locs : List Loc) (ls : Array Slot), jOk G M s H locs → lv_has ls 3 [(0, jR G l0), (2, vI q)] → W p l e R s m args below meth c H locs 0 0 (MQ below (jQ G (some (vI fin.1)) fin.2) args s 0 0 (jA G)) (F0 m 22 ls []))) (fun Z rr hb kc kx H locs ls hO hl => w_X10_among_L2 C hRf hRl M l0 l1 h0 h1 Z hb kc (fun q e => (kx _ e).1 q rfl) (fun q e => (kx _ e).2 q rfl) hO hl) 5000 0 x5 hx5 ?_ _ _ _ hO (lv_sub hl [1, 2, 0] rfl)
  clear hO hl
  refine ⟨?_, ?_⟩
  · intro q6 eq6 H locs ls hO hl
    subst eq6
    have hf := sel_l hf
    refine lv_iconst (v := Int32.ofInt (-1)) C.1 C.2.1 dX10_among_40 rfl ?_
    have hf := som_e hf
    subst hf
    exact j_iret C hO dX10_among_41
  · intro q7 eq7 H locs ls hO hl
    subst eq7
    have hf := sel_r hf
    refine lv_aload_n C.1 C.2.1 dX10_among_22 rfl (lv_at hl 0 rfl) ?_
    refine lv_dup C.1 C.2.1 dX10_among_23 rfl ?_
    refine j_get C hO (ci := 10) (k := 5) (v := vI (M l0 5)) h0 rfl inlX10 (by decide) kF_12_15 rfl rfl dX10_among_24 ?_
    refine lv_iconst (v := Int32.ofInt 1) C.1 C.2.1 dX10_among_27 rfl ?_
    refine j_iadd C dX10_among_28 ?_
    obtain ⟨M8, hM8, hf⟩ := lt1_e hf
    refine j_put C hO (ci := 10) (k := 5) (x := (M l0 5) + 1) h0 rfl inlX10 tyX10_ok nmX10 (by decide) kF_12_15 rfl rfl rfl rfl (by simp [jfl]) (fs_10_5) dX10_among_29 (fun H locs hO => ?_)
    rw [← hM8] at hO
    refine lv_iload_n C.1 C.2.1 dX10_among_32 rfl (lv_at hl 1 rfl) ?_
    have hf := som_e hf
    subst hf
    exact j_iret C hO dX10_among_33
set_option maxHeartbeats 1000000 in
theorem c_X10_among (l : Launch) (G : jG)  (M : jM) (l0 l1 : Int) (h0 : jkd l0 = (10, 0)) (h1 : 0 ≤ l1 ∧ l1 < 6) {fin : Int × jM} (h : f_X10_among M l0 l1 = some fin) : Met l yX10_among (Cond.code yX10_among cX10_among 3 (some .int) :: wsL_law) ({ frames := 6, cells := 0, slots := 0, locals := 200 } : Room) (va_Pc [jR G l0, jS G l1] (fun U => jRep G M U)) (jQ G (some (vI fin.1)) fin.2) 0 0 (jA G) := by
  refine Met.ofW (cc := cX10_among) (maxL := 3) (ret := (some .int)) (by decide) rfl ?_
  intro p e s m args below meth c s₁ B hml hv
  obtain ⟨rfl, hR0⟩ := hv
  have C : jCx p s m ([jR G l0, jS G l1] : List Value).toArray meth c cX10_among 3 RX10 (Cond.code yX10_among cX10_among 3 (some .int)) (some .int) := ⟨B.exec, B.bytes, hml, findClass_of_methodNamed B.named, atoms_spec B.pre, B.returns, B.notSynchronized⟩
  have hO := hR0.ok
  have hl := lv_entry ([jR G l0, jS G l1]) (n := 3) (Nat.le_of_ble_eq_true rfl)
  rw [lg_entry_eq]
  generalize (lg_sl ([jR G l0, jS G l1]) ++ List.replicate (3 - (lg_sl ([jR G l0, jS G l1])).length) Slot.unset).toArray = ls at hl ⊢
  have hl : lv_has ls 3 [(0, jR G l0), (1, jS G l1)] := hl
  exact w_X10_among C (Nat.le_refl _) (Nat.le_refl _) M l0 l1 h0 h1 h hO hl
set_option maxHeartbeats 4000000 in
theorem w_X10_emits {p : Program} {l : Launch} {e : Env} {R : Room} {s : State} {m : MethodId} {args : Array Value} {below : List Frame} {meth : Method} {c : Code} {H : Heap} {locs : List Loc} {ls : Array Slot} {G : jG}  (C : jCx p s m args meth c cX10_emits 2 RX10 (Cond.code yX10_emits cX10_emits 2 none) none) (hRf : 0 ≤ R.frames) (hRl : 0 ≤ R.locals)  (M : jM) (l0 l1 : Int) (h0 : jkd l0 = (10, 0)) {fin : jM} (hf : f_X10_emits M l0 l1 = some fin) (hO : jOk G M s H locs) (hl : lv_has ls 2 [(0, jR G l0), (1, vI l1)]) : W p l e R s m args below meth c H locs 0 0 (MQ below (jQ G none fin) args s 0 0 (jA G)) (F0 m 0 ls []) := by
  unfold f_X10_emits at hf
  refine lv_aload_n C.1 C.2.1 dX10_emits_0 rfl (lv_at hl 0 rfl) ?_
  refine j_get C hO (ci := 10) (k := 7) (v := vI (M l0 7)) h0 rfl inlX10 (by decide) kF_12_16 rfl rfl dX10_emits_1 ?_
  refine j_if_ne (tgt := 56) C rfl dX10_emits_4 (by decide) (fun c1 => ?_) (fun c1 => ?_)
  · have hf := (if_neg c1).symm.trans hf
    have hf := som_e hf
    subst hf
    exact j_vret C hO dX10_emits_56
  · have hf := (if_pos c1).symm.trans hf
    refine lv_aload_n C.1 C.2.1 dX10_emits_7 rfl (lv_at hl 0 rfl) ?_
    refine j_get C hO (ci := 10) (k := 1) (v := jR G (jpt l0 1)) h0 rfl inlX10 (by decide) kF_5_23 rfl rfl dX10_emits_8 ?_
    refine lv_sipush (v := Int32.ofInt 252) C.1 C.2.1 dX10_emits_11 (by decide) ?_
    refine lv_sipush (v := Int32.ofInt 140) C.1 C.2.1 dX10_emits_14 (by decide) ?_
    refine lv_aload_n C.1 C.2.1 dX10_emits_17 rfl (lv_at hl 0 rfl) ?_
    refine j_get C hO (ci := 10) (k := 4) (v := vI (M l0 4)) h0 rfl inlX10 (by decide) kF_12_13 rfl rfl dX10_emits_18 ?_
    refine j_imul C dX10_emits_21 ?_
    refine j_iadd C dX10_emits_22 ?_
    refine lv_aload_n C.1 C.2.1 dX10_emits_23 rfl (lv_at hl 0 rfl) ?_
    refine j_get C hO (ci := 10) (k := 1) (v := jR G (jpt l0 1)) h0 rfl inlX10 (by decide) kF_5_23 rfl rfl dX10_emits_24 ?_
    refine lv_sipush (v := Int32.ofInt 247) C.1 C.2.1 dX10_emits_27 (by decide) ?_
    refine lv_aload_n C.1 C.2.1 dX10_emits_30 rfl (lv_at hl 0 rfl) ?_
    refine j_get C hO (ci := 10) (k := 4) (v := vI (M l0 4)) h0 rfl inlX10 (by decide) kF_12_13 rfl rfl dX10_emits_31 ?_
    refine j_iadd C dX10_emits_34 ?_
    obtain ⟨g2, hf⟩ := grd_e hf
    refine j_iald C hO (tp_10_1 h0) rfl g2.1 g2.2 dX10_emits_35 ?_
    refine j_iadd C dX10_emits_36 ?_
    refine lv_iload_n C.1 C.2.1 dX10_emits_37 rfl (lv_at hl 1 rfl) ?_
    obtain ⟨g3, hf⟩ := grd_e hf
    obtain ⟨M4, hM4, hf⟩ := lt1_e hf
    refine j_iast C hO (x := l1) (tp_10_1 h0) rfl g3.1 g3.2 dX10_emits_38 (fun H locs hO => ?_)
    rw [← hM4] at hO
    refine lv_aload_n C.1 C.2.1 dX10_emits_39 rfl (lv_at hl 0 rfl) ?_
    refine j_get C hO (ci := 10) (k := 1) (v := jR G (jpt l0 1)) h0 rfl inlX10 (by decide) kF_5_23 rfl rfl dX10_emits_40 ?_
    refine lv_sipush (v := Int32.ofInt 247) C.1 C.2.1 dX10_emits_43 (by decide) ?_
    refine lv_aload_n C.1 C.2.1 dX10_emits_46 rfl (lv_at hl 0 rfl) ?_
    refine j_get C hO (ci := 10) (k := 4) (v := vI (M4 l0 4)) h0 rfl inlX10 (by decide) kF_12_13 rfl rfl dX10_emits_47 ?_
    refine j_iadd C dX10_emits_50 ?_
    refine lv_dup2_11 C.1 C.2.1 dX10_emits_51 rfl rfl ?_
    obtain ⟨g5, hf⟩ := grd_e hf
    refine j_iald C hO (tp_10_1 h0) rfl g5.1 g5.2 dX10_emits_52 ?_
    refine lv_iconst (v := Int32.ofInt 1) C.1 C.2.1 dX10_emits_53 rfl ?_
    refine j_iadd C dX10_emits_54 ?_
    obtain ⟨g6, hf⟩ := grd_e hf
    obtain ⟨M7, hM7, hf⟩ := lt1_e hf
    refine j_iast C hO (x := (M4 (jpt l0 1) (w32 (247 + (M4 l0 4)))) + 1) (tp_10_1 h0) rfl g6.1 g6.2 dX10_emits_55 (fun H locs hO => ?_)
    rw [← hM7] at hO
    have hf := som_e hf
    subst hf
    exact j_vret C hO dX10_emits_56
set_option maxHeartbeats 1000000 in
theorem c_X10_emits (l : Launch) (G : jG)  (M : jM) (l0 l1 : Int) (h0 : jkd l0 = (10, 0)) {fin : jM} (h : f_X10_emits M l0 l1 = some fin) : Met l yX10_emits (Cond.code yX10_emits cX10_emits 2 none :: wsL_law) ({ frames := 0, cells := 0, slots := 0, locals := 0 } : Room) (va_Pc [jR G l0, vI l1] (fun U => jRep G M U)) (jQ G none fin) 0 0 (jA G) := by
  refine Met.ofW (cc := cX10_emits) (maxL := 2) (ret := none) (by decide) rfl ?_
  intro p e s m args below meth c s₁ B hml hv
  obtain ⟨rfl, hR0⟩ := hv
  have C : jCx p s m ([jR G l0, vI l1] : List Value).toArray meth c cX10_emits 2 RX10 (Cond.code yX10_emits cX10_emits 2 none) none := ⟨B.exec, B.bytes, hml, findClass_of_methodNamed B.named, atoms_spec B.pre, B.returns, B.notSynchronized⟩
  have hO := hR0.ok
  have hl := lv_entry ([jR G l0, vI l1]) (n := 2) (Nat.le_of_ble_eq_true rfl)
  rw [lg_entry_eq]
  generalize (lg_sl ([jR G l0, vI l1]) ++ List.replicate (2 - (lg_sl ([jR G l0, vI l1])).length) Slot.unset).toArray = ls at hl ⊢
  have hl : lv_has ls 2 [(0, jR G l0), (1, vI l1)] := hl
  exact w_X10_emits C (Nat.le_refl _) (Nat.le_refl _) M l0 l1 h0 h hO hl
set_option maxHeartbeats 4000000 in
theorem w_X10_some_L4 {p : Program} {l : Launch} {e : Env} {R : Room} {s : State} {m : MethodId} {args : Array Value} {below : List Frame} {meth : Method} {c : Code} {H : Heap} {locs : List Loc} {ls : Array Slot} {G : jG} {Fd Ld : Nat} {r_X10_some : jM → Int → Option jM} {r_X10_every : jM → Int → Option jM} {r_X10_factor : jM → Int → Option jM} (C : jCx p s m args meth c cX10_some 1 RX10 (Cond.code yX10_some cX10_some 1 none) none) (hRf : 1 ≤ R.frames) (hRl : 21 ≤ R.locals) (Hr_X10_some : ∀ (G : jG) (M : jM) (a0 : Int) (q : jM), r_X10_some M a0 = some q → jkd a0 = (10, 0) → Met l yX10_some (Cond.code yX10_some cX10_some 1 none :: wsL_law) ({ frames := Fd, cells := 0, slots := 0, locals := Ld } : Room) (va_Pc [jR G a0] (fun U => jRep G M U)) (jQ G none q) 0 0 (jA G)) (Hr_X10_every : ∀ (G : jG) (M : jM) (a0 : Int) (q : jM), r_X10_every M a0 = some q → jkd a0 = (10, 0) → Met l yX10_every (Cond.code yX10_every cX10_every 1 none :: wsL_law) ({ frames := Fd, cells := 0, slots := 0, locals := Ld } : Room) (va_Pc [jR G a0] (fun U => jRep G M U)) (jQ G none q) 0 0 (jA G)) (Hr_X10_factor : ∀ (G : jG) (M : jM) (a0 : Int) (q : jM), r_X10_factor M a0 = some q → jkd a0 = (10, 0) → Met l yX10_factor (Cond.code yX10_factor cX10_factor 5 none :: wsL_law) ({ frames := Fd, cells := 0, slots := 0, locals := Ld } : Room) (va_Pc [jR G a0] (fun U => jRep G M U)) (jQ G none q) 0 0 (jA G)) (hFd : Fd + 1 ≤ R.frames) (hLd : Ld + 24 ≤ R.locals) (M : jM) (l0 : Int) (h0 : jkd l0 = (10, 0)) {fin : jM} (S : jM) {rr : (jM) ⊕ jM} (hf : f_X10_some_L4 r_X10_some r_X10_every r_X10_factor M l0 S = some rr) (kc : ∀ q : jM, rr = .inl q → ∀ (H : Heap) (locs : List Loc) (ls : Array Slot), jOk G q s H locs → lv_has ls 1 [(0, jR G l0)] → W p l e R s m args below meth c H locs 0 0 (MQ below (jQ G none fin) args s 0 0 (jA G)) (F0 m 4 ls [])) (kx0 : ∀ q : jM, rr = .inr q → ∀ (H : Heap) (locs : List Loc) (ls : Array Slot), jOk G q s H locs → lv_has ls 1 [] → W p l e R s m args below meth c H locs 0 0 (MQ below (jQ G none fin) args s 0 0 (jA G)) (F0 m 43 ls [])) (hO : jOk G S s H locs) (hl : lv_has ls 1 [(0, jR G l0)]) : W p l e R s m args below meth c H locs 0 0 (MQ below (jQ G none fin) args s 0 0 (jA G)) (F0 m 4 ls []) := by
  unfold f_X10_some_L4 at hf
  refine lv_aload_n C.1 C.2.1 dX10_some_4 rfl (lv_at hl 0 rfl) ?_
  refine j_get C hO (ci := 10) (k := 7) (v := vI (S l0 7)) h0 rfl inlX10 (by decide) kF_12_16 rfl rfl dX10_some_5 ?_
  refine j_if_ne (tgt := 43) C rfl dX10_some_8 (by decide) (fun c2 => ?_) (fun c2 => ?_)
  · have hf := (if_neg c2).symm.trans hf
    exact kx0 _ (som_e hf).symm _ _ _ hO (lv_sub hl [] rfl)
  · have hf := (if_pos c2).symm.trans hf
    refine lv_aload_n C.1 C.2.1 dX10_some_11 rfl (lv_at hl 0 rfl) ?_
    obtain ⟨r3, hr3, hf⟩ := bnd_e hf
    refine j_callV C hO (n := 0) (As := []) (st1 := [vI r3]) (c_X10_here l G S l0 h0 hr3) h0 rfl kC_13_1 kM_12_22 kI_12_23 kS_13_0 kN_1_5 ⟨by decide, by decide, by decide⟩ ⟨Nat.le_trans (by decide) hRf, Nat.le_trans (by decide) hRl⟩ rfl rfl rfl hl.1 rfl (Nat.le_of_ble_eq_true rfl) ⟨Nat.zero_le _, Nat.zero_le _⟩ dX10_some_12 rfl (fun H locs hO => ?_)
    refine lv_bipush (v := Int32.ofInt 124) C.1 C.2.1 dX10_some_15 (by decide) ?_
    refine j_icmp_ne (tgt := 43) C rfl (w32_id (by decide) (by decide)) dX10_some_17 (by decide) (fun c4 => ?_) (fun c4 => ?_)
    · have hf := (if_neg c4).symm.trans hf
      exact kx0 _ (som_e hf).symm _ _ _ hO (lv_sub hl [] rfl)
    · have hf := (if_pos c4).symm.trans hf
      refine lv_aload_n C.1 C.2.1 dX10_some_20 rfl (lv_at hl 0 rfl) ?_
      refine lv_dup C.1 C.2.1 dX10_some_21 rfl ?_
      refine j_get C hO (ci := 10) (k := 5) (v := vI (S l0 5)) h0 rfl inlX10 (by decide) kF_12_15 rfl rfl dX10_some_22 ?_
      refine lv_iconst (v := Int32.ofInt 1) C.1 C.2.1 dX10_some_25 rfl ?_
      refine j_iadd C dX10_some_26 ?_
      obtain ⟨M5, hM5, hf⟩ := lt1_e hf
      refine j_put C hO (ci := 10) (k := 5) (x := (S l0 5) + 1) h0 rfl inlX10 tyX10_ok nmX10 (by decide) kF_12_15 rfl rfl rfl rfl (by simp [jfl]) (fs_10_5) dX10_some_27 (fun H locs hO => ?_)
      rw [← hM5] at hO
      refine lv_aload_n C.1 C.2.1 dX10_some_30 rfl (lv_at hl 0 rfl) ?_
      obtain ⟨r6, hr6, hf⟩ := bnd_e hf
      refine j_callV C hO (n := 0) (As := []) (st1 := []) (Hr_X10_every G M5 l0 r6 hr6 h0) h0 rfl kC_14_3 kM_13_20 kI_13_21 kS_13_22 kN_1_5 ⟨by decide, by decide, by decide⟩ ⟨hFd, jle (by decide) hLd⟩ rfl rfl rfl hl.1 rfl (Nat.le_of_ble_eq_true rfl) ⟨Nat.zero_le _, Nat.zero_le _⟩ dX10_some_31 rfl (fun H locs hO => ?_)
      refine lv_aload_n C.1 C.2.1 dX10_some_34 rfl (lv_at hl 0 rfl) ?_
      refine lv_bipush (v := Int32.ofInt (-3)) C.1 C.2.1 dX10_some_35 (by decide) ?_
      obtain ⟨r7, hr7, hf⟩ := bnd_e hf
      refine j_callV C hO (n := 1) (As := [vI (-3)]) (st1 := []) (c_X10_emits l G r6 l0 (-3) h0 hr7) h0 rfl kC_14_2 kM_13_23 kI_14_0 kS_14_1 kN_1_5 ⟨by decide, by decide, by decide⟩ ⟨Nat.le_trans (by decide) hRf, Nat.le_trans (by decide) hRl⟩ rfl rfl rfl hl.1 rfl (Nat.le_of_ble_eq_true rfl) ⟨Nat.zero_le _, Nat.zero_le _⟩ dX10_some_37 rfl (fun H locs hO => ?_)
      refine lv_goto (tgt := 4) C.1 C.2.1 dX10_some_40 (by decide) ?_
      exact kc _ (som_e hf).symm _ _ _ hO (lv_sub hl [0] rfl)
set_option maxHeartbeats 4000000 in
theorem w_X10_some {p : Program} {l : Launch} {e : Env} {R : Room} {s : State} {m : MethodId} {args : Array Value} {below : List Frame} {meth : Method} {c : Code} {H : Heap} {locs : List Loc} {ls : Array Slot} {G : jG} {Fd Ld : Nat} {r_X10_some : jM → Int → Option jM} {r_X10_every : jM → Int → Option jM} {r_X10_factor : jM → Int → Option jM} (C : jCx p s m args meth c cX10_some 1 RX10 (Cond.code yX10_some cX10_some 1 none) none) (hRf : 1 ≤ R.frames) (hRl : 21 ≤ R.locals) (Hr_X10_some : ∀ (G : jG) (M : jM) (a0 : Int) (q : jM), r_X10_some M a0 = some q → jkd a0 = (10, 0) → Met l yX10_some (Cond.code yX10_some cX10_some 1 none :: wsL_law) ({ frames := Fd, cells := 0, slots := 0, locals := Ld } : Room) (va_Pc [jR G a0] (fun U => jRep G M U)) (jQ G none q) 0 0 (jA G)) (Hr_X10_every : ∀ (G : jG) (M : jM) (a0 : Int) (q : jM), r_X10_every M a0 = some q → jkd a0 = (10, 0) → Met l yX10_every (Cond.code yX10_every cX10_every 1 none :: wsL_law) ({ frames := Fd, cells := 0, slots := 0, locals := Ld } : Room) (va_Pc [jR G a0] (fun U => jRep G M U)) (jQ G none q) 0 0 (jA G)) (Hr_X10_factor : ∀ (G : jG) (M : jM) (a0 : Int) (q : jM), r_X10_factor M a0 = some q → jkd a0 = (10, 0) → Met l yX10_factor (Cond.code yX10_factor cX10_factor 5 none :: wsL_law) ({ frames := Fd, cells := 0, slots := 0, locals := Ld } : Room) (va_Pc [jR G a0] (fun U => jRep G M U)) (jQ G none q) 0 0 (jA G)) (hFd : Fd + 1 ≤ R.frames) (hLd : Ld + 24 ≤ R.locals) (M : jM) (l0 : Int) (h0 : jkd l0 = (10, 0)) {fin : jM} (hf : fb_X10_some r_X10_some r_X10_every r_X10_factor M l0 = some fin) (hO : jOk G M s H locs) (hl : lv_has ls 1 [(0, jR G l0)]) : W p l e R s m args below meth c H locs 0 0 (MQ below (jQ G none fin) args s 0 0 (jA G)) (F0 m 0 ls []) := by
  unfold fb_X10_some at hf
  refine lv_aload_n C.1 C.2.1 dX10_some_0 rfl (lv_at hl 0 rfl) ?_
  obtain ⟨r1, hr1, hf⟩ := bnd_e hf
  refine j_callV C hO (n := 0) (As := []) (st1 := []) (Hr_X10_every G M l0 r1 hr1 h0) h0 rfl kC_14_3 kM_13_20 kI_13_21 kS_13_22 kN_1_5 ⟨by decide, by decide, by decide⟩ ⟨hFd, jle (by decide) hLd⟩ rfl rfl rfl hl.1 rfl (Nat.le_of_ble_eq_true rfl) ⟨Nat.zero_le _, Nat.zero_le _⟩ dX10_some_1 rfl (fun H locs hO => ?_)
  obtain ⟨x8, hx8, hf⟩ := bnd_e hf
  refine iter_e (P := fun Z => ∀ (H : Heap) (locs : List Loc) (ls : Array Slot), jOk G Z s H locs → lv_has ls 1 [(0, jR G l0)] → W p l e R s m args below meth c H locs 0 0 (MQ below (jQ G none fin) args s 0 0 (jA G)) (F0 m 4 ls [])) (E := fun q => ∀ (H : Heap) (locs : List Loc) (ls : Array Slot), jOk G q s H locs → lv_has ls 1 [] → W p l e R s m args below meth c H locs 0 0 (MQ below (jQ G none fin) args s 0 0 (jA G)) (F0 m 43 ls [])) (fun Z rr hb kc kx H locs ls hO hl => w_X10_some_L4 C hRf hRl Hr_X10_some Hr_X10_every Hr_X10_factor hFd hLd r1 l0 h0 Z hb kc (fun q e => kx q e) hO hl) 5000 r1 x8 hx8 ?_ _ _ _ hO (lv_sub hl [0] rfl)
  clear hO hl
  intro H locs ls hO hl
  have hf := som_e hf
  subst hf
  exact j_vret C hO dX10_some_43
set_option maxHeartbeats 1000000 in
theorem cb_X10_some (l : Launch) (G : jG) {Fd Ld F0 L0 : Nat} (hF0 : 1 ≤ F0) (hL0 : 21 ≤ L0) (r_X10_some : jM → Int → Option jM) (r_X10_every : jM → Int → Option jM) (r_X10_factor : jM → Int → Option jM) (Hr_X10_some : ∀ (G : jG) (M : jM) (a0 : Int) (q : jM), r_X10_some M a0 = some q → jkd a0 = (10, 0) → Met l yX10_some (Cond.code yX10_some cX10_some 1 none :: wsL_law) ({ frames := Fd, cells := 0, slots := 0, locals := Ld } : Room) (va_Pc [jR G a0] (fun U => jRep G M U)) (jQ G none q) 0 0 (jA G)) (Hr_X10_every : ∀ (G : jG) (M : jM) (a0 : Int) (q : jM), r_X10_every M a0 = some q → jkd a0 = (10, 0) → Met l yX10_every (Cond.code yX10_every cX10_every 1 none :: wsL_law) ({ frames := Fd, cells := 0, slots := 0, locals := Ld } : Room) (va_Pc [jR G a0] (fun U => jRep G M U)) (jQ G none q) 0 0 (jA G)) (Hr_X10_factor : ∀ (G : jG) (M : jM) (a0 : Int) (q : jM), r_X10_factor M a0 = some q → jkd a0 = (10, 0) → Met l yX10_factor (Cond.code yX10_factor cX10_factor 5 none :: wsL_law) ({ frames := Fd, cells := 0, slots := 0, locals := Ld } : Room) (va_Pc [jR G a0] (fun U => jRep G M U)) (jQ G none q) 0 0 (jA G)) (hFd : Fd + 1 ≤ F0) (hLd : Ld + 24 ≤ L0) (M : jM) (l0 : Int) (h0 : jkd l0 = (10, 0)) {fin : jM} (h : fb_X10_some r_X10_some r_X10_every r_X10_factor M l0 = some fin) : Met l yX10_some (Cond.code yX10_some cX10_some 1 none :: wsL_law) ({ frames := F0, cells := 0, slots := 0, locals := L0 } : Room) (va_Pc [jR G l0] (fun U => jRep G M U)) (jQ G none fin) 0 0 (jA G) := by
  refine Met.ofW (cc := cX10_some) (maxL := 1) (ret := none) (by decide) rfl ?_
  intro p e s m args below meth c s₁ B hml hv
  obtain ⟨rfl, hR0⟩ := hv
  have C : jCx p s m ([jR G l0] : List Value).toArray meth c cX10_some 1 RX10 (Cond.code yX10_some cX10_some 1 none) none := ⟨B.exec, B.bytes, hml, findClass_of_methodNamed B.named, atoms_spec B.pre, B.returns, B.notSynchronized⟩
  have hO := hR0.ok
  have hl := lv_entry ([jR G l0]) (n := 1) (Nat.le_of_ble_eq_true rfl)
  rw [lg_entry_eq]
  generalize (lg_sl ([jR G l0]) ++ List.replicate (1 - (lg_sl ([jR G l0])).length) Slot.unset).toArray = ls at hl ⊢
  have hl : lv_has ls 1 [(0, jR G l0)] := hl
  exact w_X10_some C hF0 hL0 Hr_X10_some Hr_X10_every Hr_X10_factor hFd hLd M l0 h0 h hO hl
set_option maxHeartbeats 4000000 in
theorem w_X10_every_L4 {p : Program} {l : Launch} {e : Env} {R : Room} {s : State} {m : MethodId} {args : Array Value} {below : List Frame} {meth : Method} {c : Code} {H : Heap} {locs : List Loc} {ls : Array Slot} {G : jG} {Fd Ld : Nat} {r_X10_some : jM → Int → Option jM} {r_X10_every : jM → Int → Option jM} {r_X10_factor : jM → Int → Option jM} (C : jCx p s m args meth c cX10_every 1 RX10 (Cond.code yX10_every cX10_every 1 none) none) (hRf : 1 ≤ R.frames) (hRl : 21 ≤ R.locals) (Hr_X10_some : ∀ (G : jG) (M : jM) (a0 : Int) (q : jM), r_X10_some M a0 = some q → jkd a0 = (10, 0) → Met l yX10_some (Cond.code yX10_some cX10_some 1 none :: wsL_law) ({ frames := Fd, cells := 0, slots := 0, locals := Ld } : Room) (va_Pc [jR G a0] (fun U => jRep G M U)) (jQ G none q) 0 0 (jA G)) (Hr_X10_every : ∀ (G : jG) (M : jM) (a0 : Int) (q : jM), r_X10_every M a0 = some q → jkd a0 = (10, 0) → Met l yX10_every (Cond.code yX10_every cX10_every 1 none :: wsL_law) ({ frames := Fd, cells := 0, slots := 0, locals := Ld } : Room) (va_Pc [jR G a0] (fun U => jRep G M U)) (jQ G none q) 0 0 (jA G)) (Hr_X10_factor : ∀ (G : jG) (M : jM) (a0 : Int) (q : jM), r_X10_factor M a0 = some q → jkd a0 = (10, 0) → Met l yX10_factor (Cond.code yX10_factor cX10_factor 5 none :: wsL_law) ({ frames := Fd, cells := 0, slots := 0, locals := Ld } : Room) (va_Pc [jR G a0] (fun U => jRep G M U)) (jQ G none q) 0 0 (jA G)) (hFd : Fd + 1 ≤ R.frames) (hLd : Ld + 24 ≤ R.locals) (M : jM) (l0 : Int) (h0 : jkd l0 = (10, 0)) {fin : jM} (S : jM) {rr : (jM) ⊕ jM} (hf : f_X10_every_L4 r_X10_some r_X10_every r_X10_factor M l0 S = some rr) (kc : ∀ q : jM, rr = .inl q → ∀ (H : Heap) (locs : List Loc) (ls : Array Slot), jOk G q s H locs → lv_has ls 1 [(0, jR G l0)] → W p l e R s m args below meth c H locs 0 0 (MQ below (jQ G none fin) args s 0 0 (jA G)) (F0 m 4 ls [])) (kx0 : ∀ q : jM, rr = .inr q → ∀ (H : Heap) (locs : List Loc) (ls : Array Slot), jOk G q s H locs → lv_has ls 1 [] → W p l e R s m args below meth c H locs 0 0 (MQ below (jQ G none fin) args s 0 0 (jA G)) (F0 m 43 ls [])) (hO : jOk G S s H locs) (hl : lv_has ls 1 [(0, jR G l0)]) : W p l e R s m args below meth c H locs 0 0 (MQ below (jQ G none fin) args s 0 0 (jA G)) (F0 m 4 ls []) := by
  unfold f_X10_every_L4 at hf
  refine lv_aload_n C.1 C.2.1 dX10_every_4 rfl (lv_at hl 0 rfl) ?_
  refine j_get C hO (ci := 10) (k := 7) (v := vI (S l0 7)) h0 rfl inlX10 (by decide) kF_12_16 rfl rfl dX10_every_5 ?_
  refine j_if_ne (tgt := 43) C rfl dX10_every_8 (by decide) (fun c2 => ?_) (fun c2 => ?_)
  · have hf := (if_neg c2).symm.trans hf
    exact kx0 _ (som_e hf).symm _ _ _ hO (lv_sub hl [] rfl)
  · have hf := (if_pos c2).symm.trans hf
    refine lv_aload_n C.1 C.2.1 dX10_every_11 rfl (lv_at hl 0 rfl) ?_
    obtain ⟨r3, hr3, hf⟩ := bnd_e hf
    refine j_callV C hO (n := 0) (As := []) (st1 := [vI r3]) (c_X10_here l G S l0 h0 hr3) h0 rfl kC_13_1 kM_12_22 kI_12_23 kS_13_0 kN_1_5 ⟨by decide, by decide, by decide⟩ ⟨Nat.le_trans (by decide) hRf, Nat.le_trans (by decide) hRl⟩ rfl rfl rfl hl.1 rfl (Nat.le_of_ble_eq_true rfl) ⟨Nat.zero_le _, Nat.zero_le _⟩ dX10_every_12 rfl (fun H locs hO => ?_)
    refine lv_bipush (v := Int32.ofInt 38) C.1 C.2.1 dX10_every_15 (by decide) ?_
    refine j_icmp_ne (tgt := 43) C rfl (w32_id (by decide) (by decide)) dX10_every_17 (by decide) (fun c4 => ?_) (fun c4 => ?_)
    · have hf := (if_neg c4).symm.trans hf
      exact kx0 _ (som_e hf).symm _ _ _ hO (lv_sub hl [] rfl)
    · have hf := (if_pos c4).symm.trans hf
      refine lv_aload_n C.1 C.2.1 dX10_every_20 rfl (lv_at hl 0 rfl) ?_
      refine lv_dup C.1 C.2.1 dX10_every_21 rfl ?_
      refine j_get C hO (ci := 10) (k := 5) (v := vI (S l0 5)) h0 rfl inlX10 (by decide) kF_12_15 rfl rfl dX10_every_22 ?_
      refine lv_iconst (v := Int32.ofInt 1) C.1 C.2.1 dX10_every_25 rfl ?_
      refine j_iadd C dX10_every_26 ?_
      obtain ⟨M5, hM5, hf⟩ := lt1_e hf
      refine j_put C hO (ci := 10) (k := 5) (x := (S l0 5) + 1) h0 rfl inlX10 tyX10_ok nmX10 (by decide) kF_12_15 rfl rfl rfl rfl (by simp [jfl]) (fs_10_5) dX10_every_27 (fun H locs hO => ?_)
      rw [← hM5] at hO
      refine lv_aload_n C.1 C.2.1 dX10_every_30 rfl (lv_at hl 0 rfl) ?_
      obtain ⟨r6, hr6, hf⟩ := bnd_e hf
      refine j_callV C hO (n := 0) (As := []) (st1 := []) (Hr_X10_factor G M5 l0 r6 hr6 h0) h0 rfl kC_14_7 kM_14_4 kI_14_5 kS_14_6 kN_1_5 ⟨by decide, by decide, by decide⟩ ⟨hFd, jle (by decide) hLd⟩ rfl rfl rfl hl.1 rfl (Nat.le_of_ble_eq_true rfl) ⟨Nat.zero_le _, Nat.zero_le _⟩ dX10_every_31 rfl (fun H locs hO => ?_)
      refine lv_aload_n C.1 C.2.1 dX10_every_34 rfl (lv_at hl 0 rfl) ?_
      refine lv_bipush (v := Int32.ofInt (-2)) C.1 C.2.1 dX10_every_35 (by decide) ?_
      obtain ⟨r7, hr7, hf⟩ := bnd_e hf
      refine j_callV C hO (n := 1) (As := [vI (-2)]) (st1 := []) (c_X10_emits l G r6 l0 (-2) h0 hr7) h0 rfl kC_14_2 kM_13_23 kI_14_0 kS_14_1 kN_1_5 ⟨by decide, by decide, by decide⟩ ⟨Nat.le_trans (by decide) hRf, Nat.le_trans (by decide) hRl⟩ rfl rfl rfl hl.1 rfl (Nat.le_of_ble_eq_true rfl) ⟨Nat.zero_le _, Nat.zero_le _⟩ dX10_every_37 rfl (fun H locs hO => ?_)
      refine lv_goto (tgt := 4) C.1 C.2.1 dX10_every_40 (by decide) ?_
      exact kc _ (som_e hf).symm _ _ _ hO (lv_sub hl [0] rfl)
set_option maxHeartbeats 4000000 in
theorem w_X10_every {p : Program} {l : Launch} {e : Env} {R : Room} {s : State} {m : MethodId} {args : Array Value} {below : List Frame} {meth : Method} {c : Code} {H : Heap} {locs : List Loc} {ls : Array Slot} {G : jG} {Fd Ld : Nat} {r_X10_some : jM → Int → Option jM} {r_X10_every : jM → Int → Option jM} {r_X10_factor : jM → Int → Option jM} (C : jCx p s m args meth c cX10_every 1 RX10 (Cond.code yX10_every cX10_every 1 none) none) (hRf : 1 ≤ R.frames) (hRl : 21 ≤ R.locals) (Hr_X10_some : ∀ (G : jG) (M : jM) (a0 : Int) (q : jM), r_X10_some M a0 = some q → jkd a0 = (10, 0) → Met l yX10_some (Cond.code yX10_some cX10_some 1 none :: wsL_law) ({ frames := Fd, cells := 0, slots := 0, locals := Ld } : Room) (va_Pc [jR G a0] (fun U => jRep G M U)) (jQ G none q) 0 0 (jA G)) (Hr_X10_every : ∀ (G : jG) (M : jM) (a0 : Int) (q : jM), r_X10_every M a0 = some q → jkd a0 = (10, 0) → Met l yX10_every (Cond.code yX10_every cX10_every 1 none :: wsL_law) ({ frames := Fd, cells := 0, slots := 0, locals := Ld } : Room) (va_Pc [jR G a0] (fun U => jRep G M U)) (jQ G none q) 0 0 (jA G)) (Hr_X10_factor : ∀ (G : jG) (M : jM) (a0 : Int) (q : jM), r_X10_factor M a0 = some q → jkd a0 = (10, 0) → Met l yX10_factor (Cond.code yX10_factor cX10_factor 5 none :: wsL_law) ({ frames := Fd, cells := 0, slots := 0, locals := Ld } : Room) (va_Pc [jR G a0] (fun U => jRep G M U)) (jQ G none q) 0 0 (jA G)) (hFd : Fd + 1 ≤ R.frames) (hLd : Ld + 24 ≤ R.locals) (M : jM) (l0 : Int) (h0 : jkd l0 = (10, 0)) {fin : jM} (hf : fb_X10_every r_X10_some r_X10_every r_X10_factor M l0 = some fin) (hO : jOk G M s H locs) (hl : lv_has ls 1 [(0, jR G l0)]) : W p l e R s m args below meth c H locs 0 0 (MQ below (jQ G none fin) args s 0 0 (jA G)) (F0 m 0 ls []) := by
  unfold fb_X10_every at hf
  refine lv_aload_n C.1 C.2.1 dX10_every_0 rfl (lv_at hl 0 rfl) ?_
  obtain ⟨r1, hr1, hf⟩ := bnd_e hf
  refine j_callV C hO (n := 0) (As := []) (st1 := []) (Hr_X10_factor G M l0 r1 hr1 h0) h0 rfl kC_14_7 kM_14_4 kI_14_5 kS_14_6 kN_1_5 ⟨by decide, by decide, by decide⟩ ⟨hFd, jle (by decide) hLd⟩ rfl rfl rfl hl.1 rfl (Nat.le_of_ble_eq_true rfl) ⟨Nat.zero_le _, Nat.zero_le _⟩ dX10_every_1 rfl (fun H locs hO => ?_)
  obtain ⟨x8, hx8, hf⟩ := bnd_e hf
  refine iter_e (P := fun Z => ∀ (H : Heap) (locs : List Loc) (ls : Array Slot), jOk G Z s H locs → lv_has ls 1 [(0, jR G l0)] → W p l e R s m args below meth c H locs 0 0 (MQ below (jQ G none fin) args s 0 0 (jA G)) (F0 m 4 ls [])) (E := fun q => ∀ (H : Heap) (locs : List Loc) (ls : Array Slot), jOk G q s H locs → lv_has ls 1 [] → W p l e R s m args below meth c H locs 0 0 (MQ below (jQ G none fin) args s 0 0 (jA G)) (F0 m 43 ls [])) (fun Z rr hb kc kx H locs ls hO hl => w_X10_every_L4 C hRf hRl Hr_X10_some Hr_X10_every Hr_X10_factor hFd hLd r1 l0 h0 Z hb kc (fun q e => kx q e) hO hl) 5000 r1 x8 hx8 ?_ _ _ _ hO (lv_sub hl [0] rfl)
  clear hO hl
  intro H locs ls hO hl
  have hf := som_e hf
  subst hf
  exact j_vret C hO dX10_every_43
set_option maxHeartbeats 1000000 in
theorem cb_X10_every (l : Launch) (G : jG) {Fd Ld F0 L0 : Nat} (hF0 : 1 ≤ F0) (hL0 : 21 ≤ L0) (r_X10_some : jM → Int → Option jM) (r_X10_every : jM → Int → Option jM) (r_X10_factor : jM → Int → Option jM) (Hr_X10_some : ∀ (G : jG) (M : jM) (a0 : Int) (q : jM), r_X10_some M a0 = some q → jkd a0 = (10, 0) → Met l yX10_some (Cond.code yX10_some cX10_some 1 none :: wsL_law) ({ frames := Fd, cells := 0, slots := 0, locals := Ld } : Room) (va_Pc [jR G a0] (fun U => jRep G M U)) (jQ G none q) 0 0 (jA G)) (Hr_X10_every : ∀ (G : jG) (M : jM) (a0 : Int) (q : jM), r_X10_every M a0 = some q → jkd a0 = (10, 0) → Met l yX10_every (Cond.code yX10_every cX10_every 1 none :: wsL_law) ({ frames := Fd, cells := 0, slots := 0, locals := Ld } : Room) (va_Pc [jR G a0] (fun U => jRep G M U)) (jQ G none q) 0 0 (jA G)) (Hr_X10_factor : ∀ (G : jG) (M : jM) (a0 : Int) (q : jM), r_X10_factor M a0 = some q → jkd a0 = (10, 0) → Met l yX10_factor (Cond.code yX10_factor cX10_factor 5 none :: wsL_law) ({ frames := Fd, cells := 0, slots := 0, locals := Ld } : Room) (va_Pc [jR G a0] (fun U => jRep G M U)) (jQ G none q) 0 0 (jA G)) (hFd : Fd + 1 ≤ F0) (hLd : Ld + 24 ≤ L0) (M : jM) (l0 : Int) (h0 : jkd l0 = (10, 0)) {fin : jM} (h : fb_X10_every r_X10_some r_X10_every r_X10_factor M l0 = some fin) : Met l yX10_every (Cond.code yX10_every cX10_every 1 none :: wsL_law) ({ frames := F0, cells := 0, slots := 0, locals := L0 } : Room) (va_Pc [jR G l0] (fun U => jRep G M U)) (jQ G none fin) 0 0 (jA G) := by
  refine Met.ofW (cc := cX10_every) (maxL := 1) (ret := none) (by decide) rfl ?_
  intro p e s m args below meth c s₁ B hml hv
  obtain ⟨rfl, hR0⟩ := hv
  have C : jCx p s m ([jR G l0] : List Value).toArray meth c cX10_every 1 RX10 (Cond.code yX10_every cX10_every 1 none) none := ⟨B.exec, B.bytes, hml, findClass_of_methodNamed B.named, atoms_spec B.pre, B.returns, B.notSynchronized⟩
  have hO := hR0.ok
  have hl := lv_entry ([jR G l0]) (n := 1) (Nat.le_of_ble_eq_true rfl)
  rw [lg_entry_eq]
  generalize (lg_sl ([jR G l0]) ++ List.replicate (1 - (lg_sl ([jR G l0])).length) Slot.unset).toArray = ls at hl ⊢
  have hl : lv_has ls 1 [(0, jR G l0)] := hl
  exact w_X10_every C hF0 hL0 Hr_X10_some Hr_X10_every Hr_X10_factor hFd hLd M l0 h0 h hO hl
set_option maxHeartbeats 4000000 in
theorem w_X10_factor_101 {p : Program} {l : Launch} {e : Env} {R : Room} {s : State} {m : MethodId} {args : Array Value} {below : List Frame} {meth : Method} {c : Code} {H : Heap} {locs : List Loc} {ls : Array Slot} {G : jG} {Fd Ld : Nat} {r_X10_some : jM → Int → Option jM} {r_X10_every : jM → Int → Option jM} {r_X10_factor : jM → Int → Option jM} (C : jCx p s m args meth c cX10_factor 5 RX10 (Cond.code yX10_factor cX10_factor 5 none) none) (hRf : 7 ≤ R.frames) (hRl : 222 ≤ R.locals) (Hr_X10_some : ∀ (G : jG) (M : jM) (a0 : Int) (q : jM), r_X10_some M a0 = some q → jkd a0 = (10, 0) → Met l yX10_some (Cond.code yX10_some cX10_some 1 none :: wsL_law) ({ frames := Fd, cells := 0, slots := 0, locals := Ld } : Room) (va_Pc [jR G a0] (fun U => jRep G M U)) (jQ G none q) 0 0 (jA G)) (Hr_X10_every : ∀ (G : jG) (M : jM) (a0 : Int) (q : jM), r_X10_every M a0 = some q → jkd a0 = (10, 0) → Met l yX10_every (Cond.code yX10_every cX10_every 1 none :: wsL_law) ({ frames := Fd, cells := 0, slots := 0, locals := Ld } : Room) (va_Pc [jR G a0] (fun U => jRep G M U)) (jQ G none q) 0 0 (jA G)) (Hr_X10_factor : ∀ (G : jG) (M : jM) (a0 : Int) (q : jM), r_X10_factor M a0 = some q → jkd a0 = (10, 0) → Met l yX10_factor (Cond.code yX10_factor cX10_factor 5 none :: wsL_law) ({ frames := Fd, cells := 0, slots := 0, locals := Ld } : Room) (va_Pc [jR G a0] (fun U => jRep G M U)) (jQ G none q) 0 0 (jA G)) (hFd : Fd + 1 ≤ R.frames) (hLd : Ld + 24 ≤ R.locals) (M : jM) (l0 : Int) (h0 : jkd l0 = (10, 0)) {fin : jM} (hf : f_X10_factor_101 r_X10_some r_X10_every r_X10_factor M l0 = some fin) (hO : jOk G M s H locs) (hl : lv_has ls 5 [(0, jR G l0)]) : W p l e R s m args below meth c H locs 0 0 (MQ below (jQ G none fin) args s 0 0 (jA G)) (F0 m 101 ls []) := by
  unfold f_X10_factor_101 at hf
  refine lv_aload_n C.1 C.2.1 dX10_factor_101 rfl (lv_at hl 0 rfl) ?_
  refine lv_dup C.1 C.2.1 dX10_factor_102 rfl ?_
  refine j_get C hO (ci := 10) (k := 8) (v := vI (M l0 8)) h0 rfl inlX10 (by decide) kF_12_17 rfl rfl dX10_factor_103 ?_
  refine lv_iconst (v := Int32.ofInt 1) C.1 C.2.1 dX10_factor_106 rfl ?_
  refine j_isub C dX10_factor_107 ?_
  obtain ⟨M13, hM13, hf⟩ := lt1_e hf
  refine j_put C hO (ci := 10) (k := 8) (x := (M l0 8) - 1) h0 rfl inlX10 tyX10_ok nmX10 (by decide) kF_12_17 rfl rfl rfl rfl (by simp [jfl]) (fs_10_8) dX10_factor_108 (fun H locs hO => ?_)
  rw [← hM13] at hO
  have hf := som_e hf
  subst hf
  exact j_vret C hO dX10_factor_111
set_option maxHeartbeats 4000000 in
theorem w_X10_factor_69 {p : Program} {l : Launch} {e : Env} {R : Room} {s : State} {m : MethodId} {args : Array Value} {below : List Frame} {meth : Method} {c : Code} {H : Heap} {locs : List Loc} {ls : Array Slot} {G : jG} {Fd Ld : Nat} {r_X10_some : jM → Int → Option jM} {r_X10_every : jM → Int → Option jM} {r_X10_factor : jM → Int → Option jM} (C : jCx p s m args meth c cX10_factor 5 RX10 (Cond.code yX10_factor cX10_factor 5 none) none) (hRf : 7 ≤ R.frames) (hRl : 222 ≤ R.locals) (Hr_X10_some : ∀ (G : jG) (M : jM) (a0 : Int) (q : jM), r_X10_some M a0 = some q → jkd a0 = (10, 0) → Met l yX10_some (Cond.code yX10_some cX10_some 1 none :: wsL_law) ({ frames := Fd, cells := 0, slots := 0, locals := Ld } : Room) (va_Pc [jR G a0] (fun U => jRep G M U)) (jQ G none q) 0 0 (jA G)) (Hr_X10_every : ∀ (G : jG) (M : jM) (a0 : Int) (q : jM), r_X10_every M a0 = some q → jkd a0 = (10, 0) → Met l yX10_every (Cond.code yX10_every cX10_every 1 none :: wsL_law) ({ frames := Fd, cells := 0, slots := 0, locals := Ld } : Room) (va_Pc [jR G a0] (fun U => jRep G M U)) (jQ G none q) 0 0 (jA G)) (Hr_X10_factor : ∀ (G : jG) (M : jM) (a0 : Int) (q : jM), r_X10_factor M a0 = some q → jkd a0 = (10, 0) → Met l yX10_factor (Cond.code yX10_factor cX10_factor 5 none :: wsL_law) ({ frames := Fd, cells := 0, slots := 0, locals := Ld } : Room) (va_Pc [jR G a0] (fun U => jRep G M U)) (jQ G none q) 0 0 (jA G)) (hFd : Fd + 1 ≤ R.frames) (hLd : Ld + 24 ≤ R.locals) (M : jM) (l0 l1 s0 s1 s2 : Int) (h0 : jkd l0 = (10, 0)) (g0 : jkd s0 = (10, 0)) {fin : jM} (hf : f_X10_factor_69 r_X10_some r_X10_every r_X10_factor M l0 l1 s0 s1 s2 = some fin) (hO : jOk G M s H locs) (hl : lv_has ls 5 [(0, jR G l0), (1, vI l1)]) : W p l e R s m args below meth c H locs 0 0 (MQ below (jQ G none fin) args s 0 0 (jA G)) (F0 m 69 ls [vI s2, vI s1, jR G s0]) := by
  unfold f_X10_factor_69 at hf
  refine j_iadd C dX10_factor_69 ?_
  obtain ⟨M9, hM9, hf⟩ := lt1_e hf
  refine j_put C hO (ci := 10) (k := 5) (x := s1 + s2) g0 rfl inlX10 tyX10_ok nmX10 (by decide) kF_12_15 rfl rfl rfl rfl (by simp [jfl]) (fs_10_5) dX10_factor_70 (fun H locs hO => ?_)
  rw [← hM9] at hO
  refine lv_iload_n C.1 C.2.1 dX10_factor_73 rfl (lv_at hl 1 rfl) ?_
  refine lv_bipush (v := Int32.ofInt 33) C.1 C.2.1 dX10_factor_74 (by decide) ?_
  refine j_icmp_ne (tgt := 91) C rfl (w32_id (by decide) (by decide)) dX10_factor_76 (by decide) (fun c10 => ?_) (fun c10 => ?_)
  · have hf := (if_neg c10).symm.trans hf
    refine lv_aload_n C.1 C.2.1 dX10_factor_91 rfl (lv_at hl 0 rfl) ?_
    obtain ⟨r11, hr11, hf⟩ := bnd_e hf
    refine j_callV C hO (n := 0) (As := []) (st1 := []) (Hr_X10_some G M9 l0 r11 hr11 h0) h0 rfl kC_13_19 kM_13_16 kI_13_17 kS_13_18 kN_1_5 ⟨by decide, by decide, by decide⟩ ⟨hFd, jle (by decide) hLd⟩ rfl rfl rfl hl.1 rfl (Nat.le_of_ble_eq_true rfl) ⟨Nat.zero_le _, Nat.zero_le _⟩ dX10_factor_92 rfl (fun H locs hO => ?_)
    refine lv_aload_n C.1 C.2.1 dX10_factor_95 rfl (lv_at hl 0 rfl) ?_
    refine lv_bipush (v := Int32.ofInt 41) C.1 C.2.1 dX10_factor_96 (by decide) ?_
    obtain ⟨r12, hr12, hf⟩ := bnd_e hf
    refine j_callV C hO (n := 1) (As := [vI 41]) (st1 := []) (c_X10_must l G r11 l0 41 h0 hr12) h0 rfl kC_13_11 kM_13_8 kI_13_9 kS_13_10 kN_1_5 ⟨by decide, by decide, by decide⟩ ⟨Nat.le_trans (by decide) hRf, Nat.le_trans (by decide) hRl⟩ rfl rfl rfl hl.1 rfl (Nat.le_of_ble_eq_true rfl) ⟨Nat.zero_le _, Nat.zero_le _⟩ dX10_factor_98 rfl (fun H locs hO => ?_)
    exact w_X10_factor_101 C hRf hRl Hr_X10_some Hr_X10_every Hr_X10_factor hFd hLd r12 l0 h0 hf hO (lv_sub hl [0] rfl)
  · have hf := (if_pos c10).symm.trans hf
    refine lv_aload_n C.1 C.2.1 dX10_factor_79 rfl (lv_at hl 0 rfl) ?_
    obtain ⟨r14, hr14, hf⟩ := bnd_e hf
    refine j_callV C hO (n := 0) (As := []) (st1 := []) (Hr_X10_factor G M9 l0 r14 hr14 h0) h0 rfl kC_14_7 kM_14_4 kI_14_5 kS_14_6 kN_1_5 ⟨by decide, by decide, by decide⟩ ⟨hFd, jle (by decide) hLd⟩ rfl rfl rfl hl.1 rfl (Nat.le_of_ble_eq_true rfl) ⟨Nat.zero_le _, Nat.zero_le _⟩ dX10_factor_80 rfl (fun H locs hO => ?_)
    refine lv_aload_n C.1 C.2.1 dX10_factor_83 rfl (lv_at hl 0 rfl) ?_
    refine lv_iconst (v := Int32.ofInt (-1)) C.1 C.2.1 dX10_factor_84 rfl ?_
    obtain ⟨r15, hr15, hf⟩ := bnd_e hf
    refine j_callV C hO (n := 1) (As := [vI (-1)]) (st1 := []) (c_X10_emits l G r14 l0 (-1) h0 hr15) h0 rfl kC_14_2 kM_13_23 kI_14_0 kS_14_1 kN_1_5 ⟨by decide, by decide, by decide⟩ ⟨Nat.le_trans (by decide) hRf, Nat.le_trans (by decide) hRl⟩ rfl rfl rfl hl.1 rfl (Nat.le_of_ble_eq_true rfl) ⟨Nat.zero_le _, Nat.zero_le _⟩ dX10_factor_85 rfl (fun H locs hO => ?_)
    refine lv_goto (tgt := 101) C.1 C.2.1 dX10_factor_88 (by decide) ?_
    exact w_X10_factor_101 C hRf hRl Hr_X10_some Hr_X10_every Hr_X10_factor hFd hLd r15 l0 h0 hf hO (lv_sub hl [0] rfl)
set_option maxHeartbeats 4000000 in
theorem w_X10_factor_39 {p : Program} {l : Launch} {e : Env} {R : Room} {s : State} {m : MethodId} {args : Array Value} {below : List Frame} {meth : Method} {c : Code} {H : Heap} {locs : List Loc} {ls : Array Slot} {G : jG} {Fd Ld : Nat} {r_X10_some : jM → Int → Option jM} {r_X10_every : jM → Int → Option jM} {r_X10_factor : jM → Int → Option jM} (C : jCx p s m args meth c cX10_factor 5 RX10 (Cond.code yX10_factor cX10_factor 5 none) none) (hRf : 7 ≤ R.frames) (hRl : 222 ≤ R.locals) (Hr_X10_some : ∀ (G : jG) (M : jM) (a0 : Int) (q : jM), r_X10_some M a0 = some q → jkd a0 = (10, 0) → Met l yX10_some (Cond.code yX10_some cX10_some 1 none :: wsL_law) ({ frames := Fd, cells := 0, slots := 0, locals := Ld } : Room) (va_Pc [jR G a0] (fun U => jRep G M U)) (jQ G none q) 0 0 (jA G)) (Hr_X10_every : ∀ (G : jG) (M : jM) (a0 : Int) (q : jM), r_X10_every M a0 = some q → jkd a0 = (10, 0) → Met l yX10_every (Cond.code yX10_every cX10_every 1 none :: wsL_law) ({ frames := Fd, cells := 0, slots := 0, locals := Ld } : Room) (va_Pc [jR G a0] (fun U => jRep G M U)) (jQ G none q) 0 0 (jA G)) (Hr_X10_factor : ∀ (G : jG) (M : jM) (a0 : Int) (q : jM), r_X10_factor M a0 = some q → jkd a0 = (10, 0) → Met l yX10_factor (Cond.code yX10_factor cX10_factor 5 none :: wsL_law) ({ frames := Fd, cells := 0, slots := 0, locals := Ld } : Room) (va_Pc [jR G a0] (fun U => jRep G M U)) (jQ G none q) 0 0 (jA G)) (hFd : Fd + 1 ≤ R.frames) (hLd : Ld + 24 ≤ R.locals) (M : jM) (l0 l1 s0 s1 : Int) (h0 : jkd l0 = (10, 0)) (g0 : jkd s0 = (10, 0)) {fin : jM} (hf : f_X10_factor_39 r_X10_some r_X10_every r_X10_factor M l0 l1 s0 s1 = some fin) (hO : jOk G M s H locs) (hl : lv_has ls 5 [(0, jR G l0), (1, vI l1)]) : W p l e R s m args below meth c H locs 0 0 (MQ below (jQ G none fin) args s 0 0 (jA G)) (F0 m 39 ls [vI s1, jR G s0]) := by
  unfold f_X10_factor_39 at hf
  obtain ⟨g5, hf⟩ := grd_e hf
  obtain ⟨M6, hM6, hf⟩ := lt1_e hf
  refine j_put C hO (ci := 10) (k := 7) (x := s1) g0 rfl inlX10 tyX10_ok nmX10 (by decide) kF_12_16 rfl rfl (jz_n g5) (jz_f g5) (by simp [jfl]) (fs_10_7) dX10_factor_39 (fun H locs hO => ?_)
  rw [← hM6] at hO
  refine lv_aload_n C.1 C.2.1 dX10_factor_42 rfl (lv_at hl 0 rfl) ?_
  refine lv_dup C.1 C.2.1 dX10_factor_43 rfl ?_
  refine j_get C hO (ci := 10) (k := 8) (v := vI (M6 l0 8)) h0 rfl inlX10 (by decide) kF_12_17 rfl rfl dX10_factor_44 ?_
  refine lv_iconst (v := Int32.ofInt 1) C.1 C.2.1 dX10_factor_47 rfl ?_
  refine j_iadd C dX10_factor_48 ?_
  obtain ⟨M7, hM7, hf⟩ := lt1_e hf
  refine j_put C hO (ci := 10) (k := 8) (x := (M6 l0 8) + 1) h0 rfl inlX10 tyX10_ok nmX10 (by decide) kF_12_17 rfl rfl rfl rfl (by simp [jfl]) (fs_10_8) dX10_factor_49 (fun H locs hO => ?_)
  rw [← hM7] at hO
  refine lv_aload_n C.1 C.2.1 dX10_factor_52 rfl (lv_at hl 0 rfl) ?_
  refine lv_dup C.1 C.2.1 dX10_factor_53 rfl ?_
  refine j_get C hO (ci := 10) (k := 5) (v := vI (M7 l0 5)) h0 rfl inlX10 (by decide) kF_12_15 rfl rfl dX10_factor_54 ?_
  refine lv_aload_n C.1 C.2.1 dX10_factor_57 rfl (lv_at hl 0 rfl) ?_
  refine j_get C hO (ci := 10) (k := 7) (v := vI (M7 l0 7)) h0 rfl inlX10 (by decide) kF_12_16 rfl rfl dX10_factor_58 ?_
  refine j_if_eq (tgt := 68) C rfl dX10_factor_61 (by decide) (fun c8 => ?_) (fun c8 => ?_)
  · have hf := (if_pos c8).symm.trans hf
    refine lv_iconst (v := Int32.ofInt 1) C.1 C.2.1 dX10_factor_68 rfl ?_
    exact w_X10_factor_69 C hRf hRl Hr_X10_some Hr_X10_every Hr_X10_factor hFd hLd M7 l0 l1 l0 (M7 l0 5) 1 h0 h0 hf hO (lv_sub hl [0, 1] rfl)
  · have hf := (if_neg c8).symm.trans hf
    refine lv_iconst (v := Int32.ofInt 0) C.1 C.2.1 dX10_factor_64 rfl ?_
    refine lv_goto (tgt := 69) C.1 C.2.1 dX10_factor_65 (by decide) ?_
    exact w_X10_factor_69 C hRf hRl Hr_X10_some Hr_X10_every Hr_X10_factor hFd hLd M7 l0 l1 l0 (M7 l0 5) 0 h0 h0 hf hO (lv_sub hl [0, 1] rfl)
set_option maxHeartbeats 4000000 in
theorem w_X10_factor_25 {p : Program} {l : Launch} {e : Env} {R : Room} {s : State} {m : MethodId} {args : Array Value} {below : List Frame} {meth : Method} {c : Code} {H : Heap} {locs : List Loc} {ls : Array Slot} {G : jG} {Fd Ld : Nat} {r_X10_some : jM → Int → Option jM} {r_X10_every : jM → Int → Option jM} {r_X10_factor : jM → Int → Option jM} (C : jCx p s m args meth c cX10_factor 5 RX10 (Cond.code yX10_factor cX10_factor 5 none) none) (hRf : 7 ≤ R.frames) (hRl : 222 ≤ R.locals) (Hr_X10_some : ∀ (G : jG) (M : jM) (a0 : Int) (q : jM), r_X10_some M a0 = some q → jkd a0 = (10, 0) → Met l yX10_some (Cond.code yX10_some cX10_some 1 none :: wsL_law) ({ frames := Fd, cells := 0, slots := 0, locals := Ld } : Room) (va_Pc [jR G a0] (fun U => jRep G M U)) (jQ G none q) 0 0 (jA G)) (Hr_X10_every : ∀ (G : jG) (M : jM) (a0 : Int) (q : jM), r_X10_every M a0 = some q → jkd a0 = (10, 0) → Met l yX10_every (Cond.code yX10_every cX10_every 1 none :: wsL_law) ({ frames := Fd, cells := 0, slots := 0, locals := Ld } : Room) (va_Pc [jR G a0] (fun U => jRep G M U)) (jQ G none q) 0 0 (jA G)) (Hr_X10_factor : ∀ (G : jG) (M : jM) (a0 : Int) (q : jM), r_X10_factor M a0 = some q → jkd a0 = (10, 0) → Met l yX10_factor (Cond.code yX10_factor cX10_factor 5 none :: wsL_law) ({ frames := Fd, cells := 0, slots := 0, locals := Ld } : Room) (va_Pc [jR G a0] (fun U => jRep G M U)) (jQ G none q) 0 0 (jA G)) (hFd : Fd + 1 ≤ R.frames) (hLd : Ld + 24 ≤ R.locals) (M : jM) (l0 l1 : Int) (h0 : jkd l0 = (10, 0)) {fin : jM} (hf : f_X10_factor_25 r_X10_some r_X10_every r_X10_factor M l0 l1 = some fin) (hO : jOk G M s H locs) (hl : lv_has ls 5 [(0, jR G l0), (1, vI l1)]) : W p l e R s m args below meth c H locs 0 0 (MQ below (jQ G none fin) args s 0 0 (jA G)) (F0 m 25 ls []) := by
  unfold f_X10_factor_25 at hf
  refine lv_aload_n C.1 C.2.1 dX10_factor_25 rfl (lv_at hl 0 rfl) ?_
  refine lv_aload_n C.1 C.2.1 dX10_factor_26 rfl (lv_at hl 0 rfl) ?_
  refine j_get C hO (ci := 10) (k := 8) (v := vI (M l0 8)) h0 rfl inlX10 (by decide) kF_12_17 rfl rfl dX10_factor_27 ?_
  refine lv_iconst (v := Int32.ofInt 5) C.1 C.2.1 dX10_factor_30 rfl ?_
  refine j_icmp_ne (tgt := 38) C rfl (w32_id (by decide) (by decide)) dX10_factor_31 (by decide) (fun c4 => ?_) (fun c4 => ?_)
  · have hf := (if_neg c4).symm.trans hf
    refine lv_iconst (v := Int32.ofInt 0) C.1 C.2.1 dX10_factor_38 rfl ?_
    exact w_X10_factor_39 C hRf hRl Hr_X10_some Hr_X10_every Hr_X10_factor hFd hLd M l0 l1 l0 0 h0 h0 hf hO (lv_sub hl [0, 1] rfl)
  · have hf := (if_pos c4).symm.trans hf
    refine lv_iconst (v := Int32.ofInt 1) C.1 C.2.1 dX10_factor_34 rfl ?_
    refine lv_goto (tgt := 39) C.1 C.2.1 dX10_factor_35 (by decide) ?_
    exact w_X10_factor_39 C hRf hRl Hr_X10_some Hr_X10_every Hr_X10_factor hFd hLd M l0 l1 l0 1 h0 h0 hf hO (lv_sub hl [0, 1] rfl)
set_option maxHeartbeats 4000000 in
theorem w_X10_factor_169 {p : Program} {l : Launch} {e : Env} {R : Room} {s : State} {m : MethodId} {args : Array Value} {below : List Frame} {meth : Method} {c : Code} {H : Heap} {locs : List Loc} {ls : Array Slot} {G : jG} {Fd Ld : Nat} {r_X10_some : jM → Int → Option jM} {r_X10_every : jM → Int → Option jM} {r_X10_factor : jM → Int → Option jM} (C : jCx p s m args meth c cX10_factor 5 RX10 (Cond.code yX10_factor cX10_factor 5 none) none) (hRf : 7 ≤ R.frames) (hRl : 222 ≤ R.locals) (Hr_X10_some : ∀ (G : jG) (M : jM) (a0 : Int) (q : jM), r_X10_some M a0 = some q → jkd a0 = (10, 0) → Met l yX10_some (Cond.code yX10_some cX10_some 1 none :: wsL_law) ({ frames := Fd, cells := 0, slots := 0, locals := Ld } : Room) (va_Pc [jR G a0] (fun U => jRep G M U)) (jQ G none q) 0 0 (jA G)) (Hr_X10_every : ∀ (G : jG) (M : jM) (a0 : Int) (q : jM), r_X10_every M a0 = some q → jkd a0 = (10, 0) → Met l yX10_every (Cond.code yX10_every cX10_every 1 none :: wsL_law) ({ frames := Fd, cells := 0, slots := 0, locals := Ld } : Room) (va_Pc [jR G a0] (fun U => jRep G M U)) (jQ G none q) 0 0 (jA G)) (Hr_X10_factor : ∀ (G : jG) (M : jM) (a0 : Int) (q : jM), r_X10_factor M a0 = some q → jkd a0 = (10, 0) → Met l yX10_factor (Cond.code yX10_factor cX10_factor 5 none :: wsL_law) ({ frames := Fd, cells := 0, slots := 0, locals := Ld } : Room) (va_Pc [jR G a0] (fun U => jRep G M U)) (jQ G none q) 0 0 (jA G)) (hFd : Fd + 1 ≤ R.frames) (hLd : Ld + 24 ≤ R.locals) (M : jM) (l0 l2 l3 s0 s1 : Int) (h0 : jkd l0 = (10, 0)) (g0 : jkd s0 = (10, 0)) {fin : jM} (hf : f_X10_factor_169 r_X10_some r_X10_every r_X10_factor M l0 l2 l3 s0 s1 = some fin) (hO : jOk G M s H locs) (hl : lv_has ls 5 [(0, jR G l0), (2, vI l2), (3, vI l3)]) : W p l e R s m args below meth c H locs 0 0 (MQ below (jQ G none fin) args s 0 0 (jA G)) (F0 m 169 ls [vI s1, jR G s0]) := by
  unfold f_X10_factor_169 at hf
  obtain ⟨g24, hf⟩ := grd_e hf
  obtain ⟨M25, hM25, hf⟩ := lt1_e hf
  refine j_put C hO (ci := 10) (k := 7) (x := s1) g0 rfl inlX10 tyX10_ok nmX10 (by decide) kF_12_16 rfl rfl (jz_n g24) (jz_f g24) (by simp [jfl]) (fs_10_7) dX10_factor_169 (fun H locs hO => ?_)
  rw [← hM25] at hO
  refine lv_aload_n C.1 C.2.1 dX10_factor_172 rfl (lv_at hl 0 rfl) ?_
  obtain ⟨r26, hr26, hf⟩ := bnd_e hf
  refine j_callV C hO (n := 0) (As := []) (st1 := [vI r26.1]) (c_X10_figures l G M25 l0 h0 hr26) h0 rfl kC_13_15 kM_13_12 kI_13_13 kS_13_14 kN_1_5 ⟨by decide, by decide, by decide⟩ ⟨Nat.le_trans (by decide) hRf, Nat.le_trans (by decide) hRl⟩ rfl rfl rfl hl.1 rfl (Nat.le_of_ble_eq_true rfl) ⟨Nat.zero_le _, Nat.zero_le _⟩ dX10_factor_173 rfl (fun H locs hO => ?_)
  refine lv_istore (lv' := [(4, vI r26.1), (0, jR G l0), (2, vI l2), (3, vI l3)]) C.1 C.2.1 dX10_factor_176 hl (by decide) rfl (fun ls hl => ?_)
  refine lv_aload_n C.1 C.2.1 dX10_factor_178 rfl (lv_at hl 1 rfl) ?_
  refine lv_iload_n C.1 C.2.1 dX10_factor_179 rfl (lv_at hl 2 rfl) ?_
  refine lv_bipush (v := Int32.ofInt 8) C.1 C.2.1 dX10_factor_180 (by decide) ?_
  refine lv_iload_n C.1 C.2.1 dX10_factor_182 rfl (lv_at hl 3 rfl) ?_
  refine j_imul C dX10_factor_183 ?_
  refine j_iadd C dX10_factor_184 ?_
  refine lv_bipush (v := Int32.ofInt 32) C.1 C.2.1 dX10_factor_185 (by decide) ?_
  refine lv_iload C.1 C.2.1 dX10_factor_187 (lv_at hl 0 rfl) ?_
  refine j_imul C dX10_factor_189 ?_
  refine j_iadd C dX10_factor_190 ?_
  obtain ⟨r27, hr27, hf⟩ := bnd_e hf
  refine j_callV C hO (n := 1) (As := [vI ((l2 + (8 * l3)) + (32 * r26.1))]) (st1 := []) (c_X10_emits l G r26.2 l0 ((l2 + (8 * l3)) + (32 * r26.1)) h0 hr27) h0 rfl kC_14_2 kM_13_23 kI_14_0 kS_14_1 kN_1_5 ⟨by decide, by decide, by decide⟩ ⟨Nat.le_trans (by decide) hRf, Nat.le_trans (by decide) hRl⟩ rfl rfl rfl hl.1 rfl (Nat.le_of_ble_eq_true rfl) ⟨Nat.zero_le _, Nat.zero_le _⟩ dX10_factor_191 rfl (fun H locs hO => ?_)
  have hf := som_e hf
  subst hf
  exact j_vret C hO dX10_factor_194
set_option maxHeartbeats 4000000 in
theorem w_X10_factor_164 {p : Program} {l : Launch} {e : Env} {R : Room} {s : State} {m : MethodId} {args : Array Value} {below : List Frame} {meth : Method} {c : Code} {H : Heap} {locs : List Loc} {ls : Array Slot} {G : jG} {Fd Ld : Nat} {r_X10_some : jM → Int → Option jM} {r_X10_every : jM → Int → Option jM} {r_X10_factor : jM → Int → Option jM} (C : jCx p s m args meth c cX10_factor 5 RX10 (Cond.code yX10_factor cX10_factor 5 none) none) (hRf : 7 ≤ R.frames) (hRl : 222 ≤ R.locals) (Hr_X10_some : ∀ (G : jG) (M : jM) (a0 : Int) (q : jM), r_X10_some M a0 = some q → jkd a0 = (10, 0) → Met l yX10_some (Cond.code yX10_some cX10_some 1 none :: wsL_law) ({ frames := Fd, cells := 0, slots := 0, locals := Ld } : Room) (va_Pc [jR G a0] (fun U => jRep G M U)) (jQ G none q) 0 0 (jA G)) (Hr_X10_every : ∀ (G : jG) (M : jM) (a0 : Int) (q : jM), r_X10_every M a0 = some q → jkd a0 = (10, 0) → Met l yX10_every (Cond.code yX10_every cX10_every 1 none :: wsL_law) ({ frames := Fd, cells := 0, slots := 0, locals := Ld } : Room) (va_Pc [jR G a0] (fun U => jRep G M U)) (jQ G none q) 0 0 (jA G)) (Hr_X10_factor : ∀ (G : jG) (M : jM) (a0 : Int) (q : jM), r_X10_factor M a0 = some q → jkd a0 = (10, 0) → Met l yX10_factor (Cond.code yX10_factor cX10_factor 5 none :: wsL_law) ({ frames := Fd, cells := 0, slots := 0, locals := Ld } : Room) (va_Pc [jR G a0] (fun U => jRep G M U)) (jQ G none q) 0 0 (jA G)) (hFd : Fd + 1 ≤ R.frames) (hLd : Ld + 24 ≤ R.locals) (M : jM) (l0 l2 l3 s0 : Int) (h0 : jkd l0 = (10, 0)) (g0 : jkd s0 = (10, 0)) {fin : jM} (hf : f_X10_factor_164 r_X10_some r_X10_every r_X10_factor M l0 l2 l3 s0 = some fin) (hO : jOk G M s H locs) (hl : lv_has ls 5 [(0, jR G l0), (2, vI l2), (3, vI l3)]) : W p l e R s m args below meth c H locs 0 0 (MQ below (jQ G none fin) args s 0 0 (jA G)) (F0 m 164 ls [jR G s0]) := by
  unfold f_X10_factor_164 at hf
  refine lv_iconst (v := Int32.ofInt 1) C.1 C.2.1 dX10_factor_164 rfl ?_
  refine lv_goto (tgt := 169) C.1 C.2.1 dX10_factor_165 (by decide) ?_
  exact w_X10_factor_169 C hRf hRl Hr_X10_some Hr_X10_every Hr_X10_factor hFd hLd M l0 l2 l3 s0 1 h0 g0 hf hO (lv_sub hl [0, 1, 2] rfl)
set_option maxHeartbeats 4000000 in
theorem w_X10_factor_150 {p : Program} {l : Launch} {e : Env} {R : Room} {s : State} {m : MethodId} {args : Array Value} {below : List Frame} {meth : Method} {c : Code} {H : Heap} {locs : List Loc} {ls : Array Slot} {G : jG} {Fd Ld : Nat} {r_X10_some : jM → Int → Option jM} {r_X10_every : jM → Int → Option jM} {r_X10_factor : jM → Int → Option jM} (C : jCx p s m args meth c cX10_factor 5 RX10 (Cond.code yX10_factor cX10_factor 5 none) none) (hRf : 7 ≤ R.frames) (hRl : 222 ≤ R.locals) (Hr_X10_some : ∀ (G : jG) (M : jM) (a0 : Int) (q : jM), r_X10_some M a0 = some q → jkd a0 = (10, 0) → Met l yX10_some (Cond.code yX10_some cX10_some 1 none :: wsL_law) ({ frames := Fd, cells := 0, slots := 0, locals := Ld } : Room) (va_Pc [jR G a0] (fun U => jRep G M U)) (jQ G none q) 0 0 (jA G)) (Hr_X10_every : ∀ (G : jG) (M : jM) (a0 : Int) (q : jM), r_X10_every M a0 = some q → jkd a0 = (10, 0) → Met l yX10_every (Cond.code yX10_every cX10_every 1 none :: wsL_law) ({ frames := Fd, cells := 0, slots := 0, locals := Ld } : Room) (va_Pc [jR G a0] (fun U => jRep G M U)) (jQ G none q) 0 0 (jA G)) (Hr_X10_factor : ∀ (G : jG) (M : jM) (a0 : Int) (q : jM), r_X10_factor M a0 = some q → jkd a0 = (10, 0) → Met l yX10_factor (Cond.code yX10_factor cX10_factor 5 none :: wsL_law) ({ frames := Fd, cells := 0, slots := 0, locals := Ld } : Room) (va_Pc [jR G a0] (fun U => jRep G M U)) (jQ G none q) 0 0 (jA G)) (hFd : Fd + 1 ≤ R.frames) (hLd : Ld + 24 ≤ R.locals) (M : jM) (l0 l2 s0 : Int) (h0 : jkd l0 = (10, 0)) {fin : jM} (hf : f_X10_factor_150 r_X10_some r_X10_every r_X10_factor M l0 l2 s0 = some fin) (hO : jOk G M s H locs) (hl : lv_has ls 5 [(0, jR G l0), (2, vI l2)]) : W p l e R s m args below meth c H locs 0 0 (MQ below (jQ G none fin) args s 0 0 (jA G)) (F0 m 150 ls [vI s0]) := by
  unfold f_X10_factor_150 at hf
  refine lv_istore_n (lv' := [(3, vI s0), (0, jR G l0), (2, vI l2)]) C.1 C.2.1 dX10_factor_150 rfl hl (by decide) rfl (fun ls hl => ?_)
  refine lv_aload_n C.1 C.2.1 dX10_factor_151 rfl (lv_at hl 1 rfl) ?_
  refine lv_aload_n C.1 C.2.1 dX10_factor_152 rfl (lv_at hl 1 rfl) ?_
  refine j_get C hO (ci := 10) (k := 7) (v := vI (M l0 7)) h0 rfl inlX10 (by decide) kF_12_16 rfl rfl dX10_factor_153 ?_
  refine j_if_ne (tgt := 164) C rfl dX10_factor_156 (by decide) (fun c23 => ?_) (fun c23 => ?_)
  · have hf := (if_neg c23).symm.trans hf
    exact w_X10_factor_164 C hRf hRl Hr_X10_some Hr_X10_every Hr_X10_factor hFd hLd M l0 l2 s0 l0 h0 h0 hf hO (lv_sub hl [1, 2, 0] rfl)
  · have hf := (if_pos c23).symm.trans hf
    refine lv_iload_n C.1 C.2.1 dX10_factor_159 rfl (lv_at hl 0 rfl) ?_
    refine lv_iconst (v := Int32.ofInt (-1)) C.1 C.2.1 dX10_factor_160 rfl ?_
    refine j_icmp_ne (tgt := 168) C rfl (w32_id (by decide) (by decide)) dX10_factor_161 (by decide) (fun c28 => ?_) (fun c28 => ?_)
    · have hf := (if_neg c28).symm.trans hf
      refine lv_iconst (v := Int32.ofInt 0) C.1 C.2.1 dX10_factor_168 rfl ?_
      exact w_X10_factor_169 C hRf hRl Hr_X10_some Hr_X10_every Hr_X10_factor hFd hLd M l0 l2 s0 l0 0 h0 h0 hf hO (lv_sub hl [1, 2, 0] rfl)
    · have hf := (if_pos c28).symm.trans hf
      exact w_X10_factor_164 C hRf hRl Hr_X10_some Hr_X10_every Hr_X10_factor hFd hLd M l0 l2 s0 l0 h0 h0 hf hO (lv_sub hl [1, 2, 0] rfl)
set_option maxHeartbeats 4000000 in
theorem w_X10_factor_130 {p : Program} {l : Launch} {e : Env} {R : Room} {s : State} {m : MethodId} {args : Array Value} {below : List Frame} {meth : Method} {c : Code} {H : Heap} {locs : List Loc} {ls : Array Slot} {G : jG} {Fd Ld : Nat} {r_X10_some : jM → Int → Option jM} {r_X10_every : jM → Int → Option jM} {r_X10_factor : jM → Int → Option jM} (C : jCx p s m args meth c cX10_factor 5 RX10 (Cond.code yX10_factor cX10_factor 5 none) none) (hRf : 7 ≤ R.frames) (hRl : 222 ≤ R.locals) (Hr_X10_some : ∀ (G : jG) (M : jM) (a0 : Int) (q : jM), r_X10_some M a0 = some q → jkd a0 = (10, 0) → Met l yX10_some (Cond.code yX10_some cX10_some 1 none :: wsL_law) ({ frames := Fd, cells := 0, slots := 0, locals := Ld } : Room) (va_Pc [jR G a0] (fun U => jRep G M U)) (jQ G none q) 0 0 (jA G)) (Hr_X10_every : ∀ (G : jG) (M : jM) (a0 : Int) (q : jM), r_X10_every M a0 = some q → jkd a0 = (10, 0) → Met l yX10_every (Cond.code yX10_every cX10_every 1 none :: wsL_law) ({ frames := Fd, cells := 0, slots := 0, locals := Ld } : Room) (va_Pc [jR G a0] (fun U => jRep G M U)) (jQ G none q) 0 0 (jA G)) (Hr_X10_factor : ∀ (G : jG) (M : jM) (a0 : Int) (q : jM), r_X10_factor M a0 = some q → jkd a0 = (10, 0) → Met l yX10_factor (Cond.code yX10_factor cX10_factor 5 none :: wsL_law) ({ frames := Fd, cells := 0, slots := 0, locals := Ld } : Room) (va_Pc [jR G a0] (fun U => jRep G M U)) (jQ G none q) 0 0 (jA G)) (hFd : Fd + 1 ≤ R.frames) (hLd : Ld + 24 ≤ R.locals) (M : jM) (l0 l2 s0 s1 : Int) (h0 : jkd l0 = (10, 0)) (g0 : jkd s0 = (10, 0)) {fin : jM} (hf : f_X10_factor_130 r_X10_some r_X10_every r_X10_factor M l0 l2 s0 s1 = some fin) (hO : jOk G M s H locs) (hl : lv_has ls 5 [(0, jR G l0), (2, vI l2)]) : W p l e R s m args below meth c H locs 0 0 (MQ below (jQ G none fin) args s 0 0 (jA G)) (F0 m 130 ls [vI s1, jR G s0]) := by
  unfold f_X10_factor_130 at hf
  obtain ⟨g19, hf⟩ := grd_e hf
  obtain ⟨M20, hM20, hf⟩ := lt1_e hf
  refine j_put C hO (ci := 10) (k := 7) (x := s1) g0 rfl inlX10 tyX10_ok nmX10 (by decide) kF_12_16 rfl rfl (jz_n g19) (jz_f g19) (by simp [jfl]) (fs_10_7) dX10_factor_130 (fun H locs hO => ?_)
  rw [← hM20] at hO
  refine lv_aload_n C.1 C.2.1 dX10_factor_133 rfl (lv_at hl 0 rfl) ?_
  refine j_get C hO (ci := 10) (k := 7) (v := vI (M20 l0 7)) h0 rfl inlX10 (by decide) kF_12_16 rfl rfl dX10_factor_134 ?_
  refine j_if_eq (tgt := 144) C rfl dX10_factor_137 (by decide) (fun c21 => ?_) (fun c21 => ?_)
  · have hf := (if_pos c21).symm.trans hf
    refine lv_aload_n C.1 C.2.1 dX10_factor_144 rfl (lv_at hl 0 rfl) ?_
    refine j_ldcS (x := 5) C hO (tx := "<=>") (by decide) dX10_factor_145 ?_
    obtain ⟨r22, hr22, hf⟩ := bnd_e hf
    refine j_callV C hO (n := 1) (As := [jS G 5]) (st1 := [vI r22.1]) (c_X10_among l G M20 l0 5 h0 (⟨by decide, by decide⟩ : (0 : Int) ≤ 5 ∧ (5 : Int) < 6) hr22) h0 rfl kC_14_11 kM_14_8 kI_14_9 kS_14_10 kN_1_5 ⟨by decide, by decide, by decide⟩ ⟨Nat.le_trans (by decide) hRf, Nat.le_trans (by decide) hRl⟩ rfl rfl rfl hl.1 rfl (Nat.le_of_ble_eq_true rfl) ⟨Nat.zero_le _, Nat.zero_le _⟩ dX10_factor_147 rfl (fun H locs hO => ?_)
    exact w_X10_factor_150 C hRf hRl Hr_X10_some Hr_X10_every Hr_X10_factor hFd hLd r22.2 l0 l2 r22.1 h0 hf hO (lv_sub hl [0, 1] rfl)
  · have hf := (if_neg c21).symm.trans hf
    refine lv_iconst (v := Int32.ofInt 0) C.1 C.2.1 dX10_factor_140 rfl ?_
    refine lv_goto (tgt := 150) C.1 C.2.1 dX10_factor_141 (by decide) ?_
    exact w_X10_factor_150 C hRf hRl Hr_X10_some Hr_X10_every Hr_X10_factor hFd hLd M20 l0 l2 0 h0 hf hO (lv_sub hl [0, 1] rfl)
set_option maxHeartbeats 4000000 in
theorem w_X10_factor {p : Program} {l : Launch} {e : Env} {R : Room} {s : State} {m : MethodId} {args : Array Value} {below : List Frame} {meth : Method} {c : Code} {H : Heap} {locs : List Loc} {ls : Array Slot} {G : jG} {Fd Ld : Nat} {r_X10_some : jM → Int → Option jM} {r_X10_every : jM → Int → Option jM} {r_X10_factor : jM → Int → Option jM} (C : jCx p s m args meth c cX10_factor 5 RX10 (Cond.code yX10_factor cX10_factor 5 none) none) (hRf : 7 ≤ R.frames) (hRl : 222 ≤ R.locals) (Hr_X10_some : ∀ (G : jG) (M : jM) (a0 : Int) (q : jM), r_X10_some M a0 = some q → jkd a0 = (10, 0) → Met l yX10_some (Cond.code yX10_some cX10_some 1 none :: wsL_law) ({ frames := Fd, cells := 0, slots := 0, locals := Ld } : Room) (va_Pc [jR G a0] (fun U => jRep G M U)) (jQ G none q) 0 0 (jA G)) (Hr_X10_every : ∀ (G : jG) (M : jM) (a0 : Int) (q : jM), r_X10_every M a0 = some q → jkd a0 = (10, 0) → Met l yX10_every (Cond.code yX10_every cX10_every 1 none :: wsL_law) ({ frames := Fd, cells := 0, slots := 0, locals := Ld } : Room) (va_Pc [jR G a0] (fun U => jRep G M U)) (jQ G none q) 0 0 (jA G)) (Hr_X10_factor : ∀ (G : jG) (M : jM) (a0 : Int) (q : jM), r_X10_factor M a0 = some q → jkd a0 = (10, 0) → Met l yX10_factor (Cond.code yX10_factor cX10_factor 5 none :: wsL_law) ({ frames := Fd, cells := 0, slots := 0, locals := Ld } : Room) (va_Pc [jR G a0] (fun U => jRep G M U)) (jQ G none q) 0 0 (jA G)) (hFd : Fd + 1 ≤ R.frames) (hLd : Ld + 24 ≤ R.locals) (M : jM) (l0 : Int) (h0 : jkd l0 = (10, 0)) {fin : jM} (hf : fb_X10_factor r_X10_some r_X10_every r_X10_factor M l0 = some fin) (hO : jOk G M s H locs) (hl : lv_has ls 5 [(0, jR G l0)]) : W p l e R s m args below meth c H locs 0 0 (MQ below (jQ G none fin) args s 0 0 (jA G)) (F0 m 0 ls []) := by
  unfold fb_X10_factor at hf
  refine lv_aload_n C.1 C.2.1 dX10_factor_0 rfl (lv_at hl 0 rfl) ?_
  refine j_get C hO (ci := 10) (k := 7) (v := vI (M l0 7)) h0 rfl inlX10 (by decide) kF_12_16 rfl rfl dX10_factor_1 ?_
  refine j_if_eq (tgt := 8) C rfl dX10_factor_4 (by decide) (fun c1 => ?_) (fun c1 => ?_)
  · have hf := (if_pos c1).symm.trans hf
    refine lv_aload_n C.1 C.2.1 dX10_factor_8 rfl (lv_at hl 0 rfl) ?_
    obtain ⟨r2, hr2, hf⟩ := bnd_e hf
    refine j_callV C hO (n := 0) (As := []) (st1 := [vI r2]) (c_X10_here l G M l0 h0 hr2) h0 rfl kC_13_1 kM_12_22 kI_12_23 kS_13_0 kN_1_5 ⟨by decide, by decide, by decide⟩ ⟨Nat.le_trans (by decide) hRf, Nat.le_trans (by decide) hRl⟩ rfl rfl rfl hl.1 rfl (Nat.le_of_ble_eq_true rfl) ⟨Nat.zero_le _, Nat.zero_le _⟩ dX10_factor_9 rfl (fun H locs hO => ?_)
    refine lv_istore_n (lv' := [(1, vI r2), (0, jR G l0)]) C.1 C.2.1 dX10_factor_12 rfl hl (by decide) rfl (fun ls hl => ?_)
    refine lv_iload_n C.1 C.2.1 dX10_factor_13 rfl (lv_at hl 0 rfl) ?_
    refine lv_bipush (v := Int32.ofInt 33) C.1 C.2.1 dX10_factor_14 (by decide) ?_
    refine j_icmp_eq (tgt := 25) C rfl (w32_id (by decide) (by decide)) dX10_factor_16 (by decide) (fun c3 => ?_) (fun c3 => ?_)
    · have hf := (if_pos c3).symm.trans hf
      exact w_X10_factor_25 C hRf hRl Hr_X10_some Hr_X10_every Hr_X10_factor hFd hLd M l0 r2 h0 hf hO (lv_sub hl [1, 0] rfl)
    · have hf := (if_neg c3).symm.trans hf
      refine lv_iload_n C.1 C.2.1 dX10_factor_19 rfl (lv_at hl 0 rfl) ?_
      refine lv_bipush (v := Int32.ofInt 40) C.1 C.2.1 dX10_factor_20 (by decide) ?_
      refine j_icmp_ne (tgt := 112) C rfl (w32_id (by decide) (by decide)) dX10_factor_22 (by decide) (fun c16 => ?_) (fun c16 => ?_)
      · have hf := (if_neg c16).symm.trans hf
        refine lv_aload_n C.1 C.2.1 dX10_factor_112 rfl (lv_at hl 1 rfl) ?_
        refine j_ldcS (x := 4) C hO (tx := "sgd") (by decide) dX10_factor_113 ?_
        obtain ⟨r17, hr17, hf⟩ := bnd_e hf
        refine j_callV C hO (n := 1) (As := [jS G 4]) (st1 := [vI r17.1]) (c_X10_among l G M l0 4 h0 (⟨by decide, by decide⟩ : (0 : Int) ≤ 4 ∧ (4 : Int) < 6) hr17) h0 rfl kC_14_11 kM_14_8 kI_14_9 kS_14_10 kN_1_5 ⟨by decide, by decide, by decide⟩ ⟨Nat.le_trans (by decide) hRf, Nat.le_trans (by decide) hRl⟩ rfl rfl rfl hl.1 rfl (Nat.le_of_ble_eq_true rfl) ⟨Nat.zero_le _, Nat.zero_le _⟩ dX10_factor_115 rfl (fun H locs hO => ?_)
        refine lv_istore_n (lv' := [(2, vI r17.1), (1, vI r2), (0, jR G l0)]) C.1 C.2.1 dX10_factor_118 rfl hl (by decide) rfl (fun ls hl => ?_)
        refine lv_aload_n C.1 C.2.1 dX10_factor_119 rfl (lv_at hl 2 rfl) ?_
        refine lv_iload_n C.1 C.2.1 dX10_factor_120 rfl (lv_at hl 0 rfl) ?_
        refine lv_iconst (v := Int32.ofInt (-1)) C.1 C.2.1 dX10_factor_121 rfl ?_
        refine j_icmp_ne (tgt := 129) C rfl (w32_id (by decide) (by decide)) dX10_factor_122 (by decide) (fun c18 => ?_) (fun c18 => ?_)
        · have hf := (if_neg c18).symm.trans hf
          refine lv_iconst (v := Int32.ofInt 0) C.1 C.2.1 dX10_factor_129 rfl ?_
          exact w_X10_factor_130 C hRf hRl Hr_X10_some Hr_X10_every Hr_X10_factor hFd hLd r17.2 l0 r17.1 l0 0 h0 h0 hf hO (lv_sub hl [2, 0] rfl)
        · have hf := (if_pos c18).symm.trans hf
          refine lv_iconst (v := Int32.ofInt 1) C.1 C.2.1 dX10_factor_125 rfl ?_
          refine lv_goto (tgt := 130) C.1 C.2.1 dX10_factor_126 (by decide) ?_
          exact w_X10_factor_130 C hRf hRl Hr_X10_some Hr_X10_every Hr_X10_factor hFd hLd r17.2 l0 r17.1 l0 1 h0 h0 hf hO (lv_sub hl [2, 0] rfl)
      · have hf := (if_pos c16).symm.trans hf
        exact w_X10_factor_25 C hRf hRl Hr_X10_some Hr_X10_every Hr_X10_factor hFd hLd M l0 r2 h0 hf hO (lv_sub hl [1, 0] rfl)
  · have hf := (if_neg c1).symm.trans hf
    have hf := som_e hf
    subst hf
    exact j_vret C hO dX10_factor_7
set_option maxHeartbeats 1000000 in
theorem cb_X10_factor (l : Launch) (G : jG) {Fd Ld F0 L0 : Nat} (hF0 : 7 ≤ F0) (hL0 : 222 ≤ L0) (r_X10_some : jM → Int → Option jM) (r_X10_every : jM → Int → Option jM) (r_X10_factor : jM → Int → Option jM) (Hr_X10_some : ∀ (G : jG) (M : jM) (a0 : Int) (q : jM), r_X10_some M a0 = some q → jkd a0 = (10, 0) → Met l yX10_some (Cond.code yX10_some cX10_some 1 none :: wsL_law) ({ frames := Fd, cells := 0, slots := 0, locals := Ld } : Room) (va_Pc [jR G a0] (fun U => jRep G M U)) (jQ G none q) 0 0 (jA G)) (Hr_X10_every : ∀ (G : jG) (M : jM) (a0 : Int) (q : jM), r_X10_every M a0 = some q → jkd a0 = (10, 0) → Met l yX10_every (Cond.code yX10_every cX10_every 1 none :: wsL_law) ({ frames := Fd, cells := 0, slots := 0, locals := Ld } : Room) (va_Pc [jR G a0] (fun U => jRep G M U)) (jQ G none q) 0 0 (jA G)) (Hr_X10_factor : ∀ (G : jG) (M : jM) (a0 : Int) (q : jM), r_X10_factor M a0 = some q → jkd a0 = (10, 0) → Met l yX10_factor (Cond.code yX10_factor cX10_factor 5 none :: wsL_law) ({ frames := Fd, cells := 0, slots := 0, locals := Ld } : Room) (va_Pc [jR G a0] (fun U => jRep G M U)) (jQ G none q) 0 0 (jA G)) (hFd : Fd + 1 ≤ F0) (hLd : Ld + 24 ≤ L0) (M : jM) (l0 : Int) (h0 : jkd l0 = (10, 0)) {fin : jM} (h : fb_X10_factor r_X10_some r_X10_every r_X10_factor M l0 = some fin) : Met l yX10_factor (Cond.code yX10_factor cX10_factor 5 none :: wsL_law) ({ frames := F0, cells := 0, slots := 0, locals := L0 } : Room) (va_Pc [jR G l0] (fun U => jRep G M U)) (jQ G none fin) 0 0 (jA G) := by
  refine Met.ofW (cc := cX10_factor) (maxL := 5) (ret := none) (by decide) rfl ?_
  intro p e s m args below meth c s₁ B hml hv
  obtain ⟨rfl, hR0⟩ := hv
  have C : jCx p s m ([jR G l0] : List Value).toArray meth c cX10_factor 5 RX10 (Cond.code yX10_factor cX10_factor 5 none) none := ⟨B.exec, B.bytes, hml, findClass_of_methodNamed B.named, atoms_spec B.pre, B.returns, B.notSynchronized⟩
  have hO := hR0.ok
  have hl := lv_entry ([jR G l0]) (n := 5) (Nat.le_of_ble_eq_true rfl)
  rw [lg_entry_eq]
  generalize (lg_sl ([jR G l0]) ++ List.replicate (5 - (lg_sl ([jR G l0])).length) Slot.unset).toArray = ls at hl ⊢
  have hl : lv_has ls 5 [(0, jR G l0)] := hl
  exact w_X10_factor C hF0 hL0 Hr_X10_some Hr_X10_every Hr_X10_factor hFd hLd M l0 h0 h hO hl
set_option maxHeartbeats 1000000 in
theorem cx_fx_ev (l : Launch) : ∀ d : Nat, (∀ (G : jG) (M : jM) (a0 : Int) (q : jM), fx_ev d 0 M a0 = some q → jkd a0 = (10, 0) → Met l yX10_some (Cond.code yX10_some cX10_some 1 none :: wsL_law) ({ frames := 20 + d, cells := 0, slots := 0, locals := 2800 + 80 * d } : Room) (va_Pc [jR G a0] (fun U => jRep G M U)) (jQ G none q) 0 0 (jA G)) ∧ (∀ (G : jG) (M : jM) (a0 : Int) (q : jM), fx_ev d 1 M a0 = some q → jkd a0 = (10, 0) → Met l yX10_every (Cond.code yX10_every cX10_every 1 none :: wsL_law) ({ frames := 20 + d, cells := 0, slots := 0, locals := 2800 + 80 * d } : Room) (va_Pc [jR G a0] (fun U => jRep G M U)) (jQ G none q) 0 0 (jA G)) ∧ (∀ (G : jG) (M : jM) (a0 : Int) (q : jM), fx_ev d 2 M a0 = some q → jkd a0 = (10, 0) → Met l yX10_factor (Cond.code yX10_factor cX10_factor 5 none :: wsL_law) ({ frames := 20 + d, cells := 0, slots := 0, locals := 2800 + 80 * d } : Room) (va_Pc [jR G a0] (fun U => jRep G M U)) (jQ G none q) 0 0 (jA G)) := by
  intro d
  induction d with
  | zero => exact ⟨(fun _ _ _  _ h => by cases h), (fun _ _ _  _ h => by cases h), (fun _ _ _  _ h => by cases h)⟩
  | succ d ih =>
    obtain ⟨ih0, ih1, ih2⟩ := ih
    exact ⟨(fun G M a0 q h h0 => cb_X10_some l G (Fd := 20 + d) (Ld := 2800 + 80 * d) (F0 := 20 + (d + 1)) (L0 := 2800 + 80 * (d + 1)) (by omega) (by omega) (fx_ev d 0) (fx_ev d 1) (fx_ev d 2) ih0 ih1 ih2 (by omega) (by omega) M a0 h0 h),
      (fun G M a0 q h h0 => cb_X10_every l G (Fd := 20 + d) (Ld := 2800 + 80 * d) (F0 := 20 + (d + 1)) (L0 := 2800 + 80 * (d + 1)) (by omega) (by omega) (fx_ev d 0) (fx_ev d 1) (fx_ev d 2) ih0 ih1 ih2 (by omega) (by omega) M a0 h0 h),
      (fun G M a0 q h h0 => cb_X10_factor l G (Fd := 20 + d) (Ld := 2800 + 80 * d) (F0 := 20 + (d + 1)) (L0 := 2800 + 80 * (d + 1)) (by omega) (by omega) (fx_ev d 0) (fx_ev d 1) (fx_ev d 2) ih0 ih1 ih2 (by omega) (by omega) M a0 h0 h)⟩
theorem ct_X10_some (l : Launch) (G : jG) (M : jM) (a0 : Int) (h0 : jkd a0 = (10, 0)) {q : jM} (h : ft_X10_some M a0 = some q) : Met l yX10_some (Cond.code yX10_some cX10_some 1 none :: wsL_law) ({ frames := 60, cells := 0, slots := 0, locals := 6000 } : Room) (va_Pc [jR G a0] (fun U => jRep G M U)) (jQ G none q) 0 0 (jA G) := (cx_fx_ev l 40).1 G M a0 q h h0
theorem ct_X10_every (l : Launch) (G : jG) (M : jM) (a0 : Int) (h0 : jkd a0 = (10, 0)) {q : jM} (h : ft_X10_every M a0 = some q) : Met l yX10_every (Cond.code yX10_every cX10_every 1 none :: wsL_law) ({ frames := 60, cells := 0, slots := 0, locals := 6000 } : Room) (va_Pc [jR G a0] (fun U => jRep G M U)) (jQ G none q) 0 0 (jA G) := (cx_fx_ev l 40).2.1 G M a0 q h h0
theorem ct_X10_factor (l : Launch) (G : jG) (M : jM) (a0 : Int) (h0 : jkd a0 = (10, 0)) {q : jM} (h : ft_X10_factor M a0 = some q) : Met l yX10_factor (Cond.code yX10_factor cX10_factor 5 none :: wsL_law) ({ frames := 60, cells := 0, slots := 0, locals := 6000 } : Room) (va_Pc [jR G a0] (fun U => jRep G M U)) (jQ G none q) 0 0 (jA G) := (cx_fx_ev l 40).2.2 G M a0 q h h0
