set_option maxHeartbeats 4000000 in
theorem w_X10_count {p : Program} {l : Launch} {e : Env} {R : Room} {s : State} {m : MethodId} {args : Array Value} {below : List Frame} {meth : Method} {c : Code} {H : Heap} {locs : List Loc} {ls : Array Slot} {G : jG}  (C : jCx p s m args meth c cX10_count 2 RX10 (Cond.code yX10_count cX10_count 2 (some .int)) (some .int)) (hRf : 0 ≤ R.frames) (hRl : 0 ≤ R.locals)  (M : jM) (l0 l1 : Int) (h0 : jkd l0 = (10, 0)) {fin : Int} (hf : f_X10_count M l0 l1 = some fin) (hO : jOk G M s H locs) (hl : lv_has ls 2 [(0, jR G l0), (1, vI l1)]) : W p l e R s m args below meth c H locs 0 0 (MQ below (jQ G (some (vI fin)) M) args s 0 0 (jA G)) (F0 m 0 ls []) := by
  unfold f_X10_count at hf
  refine lv_iload_n C.1 C.2.1 dX10_count_0 rfl (lv_at hl 1 rfl) ?_
  by_cases c1 : w32 l1 = 0
  · have hf := (if_pos c1).symm.trans hf
    refine j_tsw (tgt := 44) C c1 dX10_count_1 (by decide) (by decide) rfl (by decide) ?_
    refine lv_aload_n C.1 C.2.1 dX10_count_44 rfl (lv_at hl 0 rfl) ?_
    refine j_get C hO (ci := 10) (k := 1) (v := jR G (jpt l0 1)) h0 rfl inlX10 (by decide) kF_5_23 rfl rfl dX10_count_45 ?_
    refine lv_iconst (v := Int32.ofInt 0) C.1 C.2.1 dX10_count_48 rfl ?_
    refine j_iald C hO (tp_10_1 h0) (w32_id (by decide) (by decide)) (by decide) (by decide) dX10_count_49 ?_
    have hf := som_e hf
    subst hf
    exact j_iret C hO dX10_count_50
  have hf := (if_neg c1).symm.trans hf
  by_cases c2 : w32 l1 = 1
  · have hf := (if_pos c2).symm.trans hf
    refine j_tsw (tgt := 51) C c2 dX10_count_1 (by decide) (by decide) rfl (by decide) ?_
    refine lv_aload_n C.1 C.2.1 dX10_count_51 rfl (lv_at hl 0 rfl) ?_
    refine j_get C hO (ci := 10) (k := 1) (v := jR G (jpt l0 1)) h0 rfl inlX10 (by decide) kF_5_23 rfl rfl dX10_count_52 ?_
    refine lv_iconst (v := Int32.ofInt 1) C.1 C.2.1 dX10_count_55 rfl ?_
    refine j_iald C hO (tp_10_1 h0) (w32_id (by decide) (by decide)) (by decide) (by decide) dX10_count_56 ?_
    have hf := som_e hf
    subst hf
    exact j_iret C hO dX10_count_57
  have hf := (if_neg c2).symm.trans hf
  by_cases c3 : w32 l1 = 2
  · have hf := (if_pos c3).symm.trans hf
    refine j_tsw (tgt := 58) C c3 dX10_count_1 (by decide) (by decide) rfl (by decide) ?_
    refine lv_aload_n C.1 C.2.1 dX10_count_58 rfl (lv_at hl 0 rfl) ?_
    refine j_get C hO (ci := 10) (k := 1) (v := jR G (jpt l0 1)) h0 rfl inlX10 (by decide) kF_5_23 rfl rfl dX10_count_59 ?_
    refine lv_iconst (v := Int32.ofInt 2) C.1 C.2.1 dX10_count_62 rfl ?_
    refine j_iald C hO (tp_10_1 h0) (w32_id (by decide) (by decide)) (by decide) (by decide) dX10_count_63 ?_
    have hf := som_e hf
    subst hf
    exact j_iret C hO dX10_count_64
  have hf := (if_neg c3).symm.trans hf
  by_cases c4 : w32 l1 = 3
  · have hf := (if_pos c4).symm.trans hf
    refine j_tsw (tgt := 65) C c4 dX10_count_1 (by decide) (by decide) rfl (by decide) ?_
    refine lv_aload_n C.1 C.2.1 dX10_count_65 rfl (lv_at hl 0 rfl) ?_
    refine j_get C hO (ci := 10) (k := 1) (v := jR G (jpt l0 1)) h0 rfl inlX10 (by decide) kF_5_23 rfl rfl dX10_count_66 ?_
    refine lv_iconst (v := Int32.ofInt 3) C.1 C.2.1 dX10_count_69 rfl ?_
    refine j_iald C hO (tp_10_1 h0) (w32_id (by decide) (by decide)) (by decide) (by decide) dX10_count_70 ?_
    have hf := som_e hf
    subst hf
    exact j_iret C hO dX10_count_71
  have hf := (if_neg c4).symm.trans hf
  by_cases c5 : w32 l1 = 4
  · have hf := (if_pos c5).symm.trans hf
    refine j_tsw (tgt := 72) C c5 dX10_count_1 (by decide) (by decide) rfl (by decide) ?_
    refine lv_aload_n C.1 C.2.1 dX10_count_72 rfl (lv_at hl 0 rfl) ?_
    refine j_get C hO (ci := 10) (k := 1) (v := jR G (jpt l0 1)) h0 rfl inlX10 (by decide) kF_5_23 rfl rfl dX10_count_73 ?_
    refine lv_iconst (v := Int32.ofInt 4) C.1 C.2.1 dX10_count_76 rfl ?_
    refine j_iald C hO (tp_10_1 h0) (w32_id (by decide) (by decide)) (by decide) (by decide) dX10_count_77 ?_
    have hf := som_e hf
    subst hf
    exact j_iret C hO dX10_count_78
  have hf := (if_neg c5).symm.trans hf
  by_cases c6 : w32 l1 = 5
  · have hf := (if_pos c6).symm.trans hf
    refine j_tsw (tgt := 79) C c6 dX10_count_1 (by decide) (by decide) rfl (by decide) ?_
    refine lv_aload_n C.1 C.2.1 dX10_count_79 rfl (lv_at hl 0 rfl) ?_
    refine j_get C hO (ci := 10) (k := 1) (v := jR G (jpt l0 1)) h0 rfl inlX10 (by decide) kF_5_23 rfl rfl dX10_count_80 ?_
    refine lv_iconst (v := Int32.ofInt 5) C.1 C.2.1 dX10_count_83 rfl ?_
    refine j_iald C hO (tp_10_1 h0) (w32_id (by decide) (by decide)) (by decide) (by decide) dX10_count_84 ?_
    have hf := som_e hf
    subst hf
    exact j_iret C hO dX10_count_85
  have hf := (if_neg c6).symm.trans hf
  by_cases c7 : w32 l1 = 6
  · have hf := (if_pos c7).symm.trans hf
    refine j_tsw (tgt := 86) C c7 dX10_count_1 (by decide) (by decide) rfl (by decide) ?_
    refine lv_aload_n C.1 C.2.1 dX10_count_86 rfl (lv_at hl 0 rfl) ?_
    refine j_get C hO (ci := 10) (k := 19) (v := vI (M l0 19)) h0 rfl inlX10 (by decide) kF_41_6 rfl rfl dX10_count_87 ?_
    have hf := som_e hf
    subst hf
    exact j_iret C hO dX10_count_90
  have hf := (if_neg c7).symm.trans hf
  refine j_tsd (tgt := 91) C dX10_count_1 (by omega) (by decide) ?_
  refine lv_iconst (v := Int32.ofInt (-1)) C.1 C.2.1 dX10_count_91 rfl ?_
  have hf := som_e hf
  subst hf
  exact j_iret C hO dX10_count_92
set_option maxHeartbeats 1000000 in
theorem c_X10_count (l : Launch) (G : jG)  (M : jM) (l0 l1 : Int) (h0 : jkd l0 = (10, 0)) {fin : Int} (h : f_X10_count M l0 l1 = some fin) : Met l yX10_count (Cond.code yX10_count cX10_count 2 (some .int) :: wsL_law) ({ frames := 0, cells := 0, slots := 0, locals := 0 } : Room) (va_Pc [jR G l0, vI l1] (fun U => jRep G M U)) (jQ G (some (vI fin)) M) 0 0 (jA G) := by
  refine Met.ofW (cc := cX10_count) (maxL := 2) (ret := (some .int)) (by decide) rfl ?_
  intro p e s m args below meth c s₁ B hml hv
  obtain ⟨rfl, hR0⟩ := hv
  have C : jCx p s m ([jR G l0, vI l1] : List Value).toArray meth c cX10_count 2 RX10 (Cond.code yX10_count cX10_count 2 (some .int)) (some .int) := ⟨B.exec, B.bytes, hml, findClass_of_methodNamed B.named, atoms_spec B.pre, B.returns, B.notSynchronized⟩
  have hO := hR0.ok
  have hl := lv_entry ([jR G l0, vI l1]) (n := 2) (Nat.le_of_ble_eq_true rfl)
  rw [lg_entry_eq]
  generalize (lg_sl ([jR G l0, vI l1]) ++ List.replicate (2 - (lg_sl ([jR G l0, vI l1])).length) Slot.unset).toArray = ls at hl ⊢
  have hl : lv_has ls 2 [(0, jR G l0), (1, vI l1)] := hl
  exact w_X10_count C (Nat.le_refl _) (Nat.le_refl _) M l0 l1 h0 h hO hl
