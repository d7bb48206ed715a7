set_option maxHeartbeats 4000000 in
theorem w_X10_tellsHere {p : Program} {l : Launch} {e : Env} {R : Room} {s : State} {m : MethodId} {args : Array Value} {below : List Frame} {meth : Method} {c : Code} {H : Heap} {locs : List Loc} {ls : Array Slot} {G : jG}  (C : jCx p s m args meth c cX10_tellsHere 4 RX10 (Cond.code yX10_tellsHere cX10_tellsHere 4 none) none) (hRf : 7 ≤ R.frames) (hRl : 222 ≤ R.locals)  (M : jM) (l0 l1 l2 : Int) (h0 : jkd l0 = (10, 0)) (h2 : 0 ≤ l2 ∧ l2 < 6) {fin : jM} (hf : f_X10_tellsHere M l0 l1 l2 = some fin) (hO : jOk G M s H locs) (hl : lv_has ls 4 [(0, jR G l0), (1, vI l1), (2, jS G l2)]) : W p l e R s m args below meth c H locs 0 0 (MQ below (jQ G none fin) args s 0 0 (jA G)) (F0 m 0 ls []) := by
  unfold f_X10_tellsHere at hf
  refine lv_aload_n C.1 C.2.1 dX10_tellsHere_0 rfl (lv_at hl 0 rfl) ?_
  refine lv_aload_n C.1 C.2.1 dX10_tellsHere_1 rfl (lv_at hl 2 rfl) ?_
  obtain ⟨r1, hr1, hf⟩ := bnd_e hf
  refine j_callV C hO (n := 1) (As := [jS G l2]) (st1 := []) (c_X10_spells l G M l0 l2 h0 h2 hr1) h0 rfl kC_13_5 kM_13_2 kI_13_3 kS_13_4 kN_1_5 ⟨by decide, by decide, by decide⟩ ⟨Nat.le_trans (by decide) hRf, Nat.le_trans (by decide) hRl⟩ rfl rfl rfl hl.1 rfl (Nat.le_of_ble_eq_true rfl) ⟨Nat.zero_le _, Nat.zero_le _⟩ dX10_tellsHere_2 rfl (fun H locs hO => ?_)
  refine lv_aload_n C.1 C.2.1 dX10_tellsHere_5 rfl (lv_at hl 0 rfl) ?_
  obtain ⟨r2, hr2, hf⟩ := bnd_e hf
  refine j_callV C hO (n := 0) (As := []) (st1 := [vI r2.1]) (c_X10_figures l G r1 l0 h0 hr2) h0 rfl kC_13_15 kM_13_12 kI_13_13 kS_13_14 kN_1_5 ⟨by decide, by decide, by decide⟩ ⟨Nat.le_trans (by decide) hRf, Nat.le_trans (by decide) hRl⟩ rfl rfl rfl hl.1 rfl (Nat.le_of_ble_eq_true rfl) ⟨Nat.zero_le _, Nat.zero_le _⟩ dX10_tellsHere_6 rfl (fun H locs hO => ?_)
  refine lv_istore_n (lv' := [(3, vI r2.1), (0, jR G l0), (1, vI l1), (2, jS G l2)]) C.1 C.2.1 dX10_tellsHere_9 rfl hl (by decide) rfl (fun ls hl => ?_)
  refine lv_aload_n C.1 C.2.1 dX10_tellsHere_10 rfl (lv_at hl 1 rfl) ?_
  refine j_get C hO (ci := 10) (k := 7) (v := vI (r2.2 l0 7)) h0 rfl inlX10 (by decide) kF_12_16 rfl rfl dX10_tellsHere_11 ?_
  refine j_if_ne (tgt := 29) C rfl dX10_tellsHere_14 (by decide) (fun c3 => ?_) (fun c3 => ?_)
  · have hf := (if_neg c3).symm.trans hf
    have hf := som_e hf
    subst hf
    exact j_vret C hO dX10_tellsHere_29
  · have hf := (if_pos c3).symm.trans hf
    refine lv_aload_n C.1 C.2.1 dX10_tellsHere_17 rfl (lv_at hl 1 rfl) ?_
    refine j_get C hO (ci := 10) (k := 1) (v := jR G (jpt l0 1)) h0 rfl inlX10 (by decide) kF_5_23 rfl rfl dX10_tellsHere_18 ?_
    refine lv_iload_n C.1 C.2.1 dX10_tellsHere_21 rfl (lv_at hl 2 rfl) ?_
    refine lv_aload_n C.1 C.2.1 dX10_tellsHere_22 rfl (lv_at hl 1 rfl) ?_
    refine j_get C hO (ci := 10) (k := 4) (v := vI (r2.2 l0 4)) h0 rfl inlX10 (by decide) kF_12_13 rfl rfl dX10_tellsHere_23 ?_
    refine j_iadd C dX10_tellsHere_26 ?_
    refine lv_iload_n C.1 C.2.1 dX10_tellsHere_27 rfl (lv_at hl 0 rfl) ?_
    obtain ⟨g4, hf⟩ := grd_e hf
    obtain ⟨M5, hM5, hf⟩ := lt1_e hf
    refine j_iast C hO (x := r2.1) (tp_10_1 h0) rfl g4.1 g4.2 dX10_tellsHere_28 (fun H locs hO => ?_)
    rw [← hM5] at hO
    have hf := som_e hf
    subst hf
    exact j_vret C hO dX10_tellsHere_29
set_option maxHeartbeats 1000000 in
theorem c_X10_tellsHere (l : Launch) (G : jG)  (M : jM) (l0 l1 l2 : Int) (h0 : jkd l0 = (10, 0)) (h2 : 0 ≤ l2 ∧ l2 < 6) {fin : jM} (h : f_X10_tellsHere M l0 l1 l2 = some fin) : Met l yX10_tellsHere (Cond.code yX10_tellsHere cX10_tellsHere 4 none :: wsL_law) ({ frames := 7, cells := 0, slots := 0, locals := 222 } : Room) (va_Pc [jR G l0, vI l1, jS G l2] (fun U => jRep G M U)) (jQ G none fin) 0 0 (jA G) := by
  refine Met.ofW (cc := cX10_tellsHere) (maxL := 4) (ret := none) (by decide) rfl ?_
  intro p e s m args below meth c s₁ B hml hv
  obtain ⟨rfl, hR0⟩ := hv
  have C : jCx p s m ([jR G l0, vI l1, jS G l2] : List Value).toArray meth c cX10_tellsHere 4 RX10 (Cond.code yX10_tellsHere cX10_tellsHere 4 none) none := ⟨B.exec, B.bytes, hml, findClass_of_methodNamed B.named, atoms_spec B.pre, B.returns, B.notSynchronized⟩
  have hO := hR0.ok
  have hl := lv_entry ([jR G l0, vI l1, jS G l2]) (n := 4) (Nat.le_of_ble_eq_true rfl)
  rw [lg_entry_eq]
  generalize (lg_sl ([jR G l0, vI l1, jS G l2]) ++ List.replicate (4 - (lg_sl ([jR G l0, vI l1, jS G l2])).length) Slot.unset).toArray = ls at hl ⊢
  have hl : lv_has ls 4 [(0, jR G l0), (1, vI l1), (2, jS G l2)] := hl
  exact w_X10_tellsHere C (Nat.le_refl _) (Nat.le_refl _) M l0 l1 l2 h0 h2 h hO hl
set_option maxHeartbeats 4000000 in
theorem w_X10_clauseHere {p : Program} {l : Launch} {e : Env} {R : Room} {s : State} {m : MethodId} {args : Array Value} {below : List Frame} {meth : Method} {c : Code} {H : Heap} {locs : List Loc} {ls : Array Slot} {G : jG}  (C : jCx p s m args meth c cX10_clauseHere 2 RX10 (Cond.code yX10_clauseHere cX10_clauseHere 2 none) none) (hRf : 61 ≤ R.frames) (hRl : 6020 ≤ R.locals)  (M : jM) (l0 : Int) (h0 : jkd l0 = (10, 0)) {fin : jM} (hf : f_X10_clauseHere M l0 = some fin) (hO : jOk G M s H locs) (hl : lv_has ls 2 [(0, jR G l0)]) : W p l e R s m args below meth c H locs 0 0 (MQ below (jQ G none fin) args s 0 0 (jA G)) (F0 m 0 ls []) := by
  unfold f_X10_clauseHere at hf
  refine lv_aload_n C.1 C.2.1 dX10_clauseHere_0 rfl (lv_at hl 0 rfl) ?_
  obtain ⟨r1, hr1, hf⟩ := bnd_e hf
  refine j_callV C hO (n := 0) (As := []) (st1 := [vI r1]) (c_X10_here l G M l0 h0 hr1) h0 rfl kC_13_1 kM_12_22 kI_12_23 kS_13_0 kN_1_5 ⟨by decide, by decide, by decide⟩ ⟨Nat.le_trans (by decide) hRf, Nat.le_trans (by decide) hRl⟩ rfl rfl rfl hl.1 rfl (Nat.le_of_ble_eq_true rfl) ⟨Nat.zero_le _, Nat.zero_le _⟩ dX10_clauseHere_1 rfl (fun H locs hO => ?_)
  by_cases c2 : w32 r1 = 102
  · have hf := (if_pos c2).symm.trans hf
    refine j_lsw (tgt := 92) (off := 88) C c2 dX10_clauseHere_4 (by decide) (by decide) (by decide) ?_
    refine lv_aload_n C.1 C.2.1 dX10_clauseHere_92 rfl (lv_at hl 0 rfl) ?_
    refine lv_sipush (v := Int32.ofInt 237) C.1 C.2.1 dX10_clauseHere_93 (by decide) ?_
    refine j_ldcS (x := 2) C hO (tx := "fee ") (by decide) dX10_clauseHere_96 ?_
    obtain ⟨r3, hr3, hf⟩ := bnd_e hf
    refine j_callV C hO (n := 2) (As := [vI 237, jS G 2]) (st1 := []) (c_X10_tellsHere l G M l0 237 2 h0 (⟨by decide, by decide⟩ : (0 : Int) ≤ 2 ∧ (2 : Int) < 6) hr3) h0 rfl kC_14_15 kM_14_12 kI_14_13 kS_14_14 kN_1_5 ⟨by decide, by decide, by decide⟩ ⟨Nat.le_trans (by decide) hRf, Nat.le_trans (by decide) hRl⟩ rfl rfl rfl hl.1 rfl (Nat.le_of_ble_eq_true rfl) ⟨Nat.zero_le _, Nat.zero_le _⟩ dX10_clauseHere_98 rfl (fun H locs hO => ?_)
    refine lv_goto (tgt := 121) C.1 C.2.1 dX10_clauseHere_101 (by decide) ?_
    have hf := som_e hf
    subst hf
    exact j_vret C hO dX10_clauseHere_121
  have hf := (if_neg c2).symm.trans hf
  by_cases c4 : w32 r1 = 104
  · have hf := (if_pos c4).symm.trans hf
    refine j_lsw (tgt := 48) (off := 44) C c4 dX10_clauseHere_4 (by decide) (by decide) (by decide) ?_
    refine lv_aload_n C.1 C.2.1 dX10_clauseHere_48 rfl (lv_at hl 0 rfl) ?_
    refine j_ldcS (x := 0) C hO (tx := "heavy ") (by decide) dX10_clauseHere_49 ?_
    obtain ⟨r5, hr5, hf⟩ := bnd_e hf
    refine j_callV C hO (n := 1) (As := [jS G 0]) (st1 := []) (c_X10_spells l G M l0 0 h0 (⟨by decide, by decide⟩ : (0 : Int) ≤ 0 ∧ (0 : Int) < 6) hr5) h0 rfl kC_13_5 kM_13_2 kI_13_3 kS_13_4 kN_1_5 ⟨by decide, by decide, by decide⟩ ⟨Nat.le_trans (by decide) hRf, Nat.le_trans (by decide) hRl⟩ rfl rfl rfl hl.1 rfl (Nat.le_of_ble_eq_true rfl) ⟨Nat.zero_le _, Nat.zero_le _⟩ dX10_clauseHere_51 rfl (fun H locs hO => ?_)
    refine lv_aload_n C.1 C.2.1 dX10_clauseHere_54 rfl (lv_at hl 0 rfl) ?_
    obtain ⟨r6, hr6, hf⟩ := bnd_e hf
    refine j_callV C hO (n := 0) (As := []) (st1 := [vI r6.1]) (c_X10_figures l G r5 l0 h0 hr6) h0 rfl kC_13_15 kM_13_12 kI_13_13 kS_13_14 kN_1_5 ⟨by decide, by decide, by decide⟩ ⟨Nat.le_trans (by decide) hRf, Nat.le_trans (by decide) hRl⟩ rfl rfl rfl hl.1 rfl (Nat.le_of_ble_eq_true rfl) ⟨Nat.zero_le _, Nat.zero_le _⟩ dX10_clauseHere_55 rfl (fun H locs hO => ?_)
    refine lv_istore_n (lv' := [(1, vI r6.1), (0, jR G l0)]) C.1 C.2.1 dX10_clauseHere_58 rfl hl (by decide) rfl (fun ls hl => ?_)
    refine lv_aload_n C.1 C.2.1 dX10_clauseHere_59 rfl (lv_at hl 1 rfl) ?_
    refine lv_bipush (v := Int32.ofInt 32) C.1 C.2.1 dX10_clauseHere_60 (by decide) ?_
    obtain ⟨r7, hr7, hf⟩ := bnd_e hf
    refine j_callV C hO (n := 1) (As := [vI 32]) (st1 := []) (c_X10_must l G r6.2 l0 32 h0 hr7) h0 rfl kC_13_11 kM_13_8 kI_13_9 kS_13_10 kN_1_5 ⟨by decide, by decide, by decide⟩ ⟨Nat.le_trans (by decide) hRf, Nat.le_trans (by decide) hRl⟩ rfl rfl rfl hl.1 rfl (Nat.le_of_ble_eq_true rfl) ⟨Nat.zero_le _, Nat.zero_le _⟩ dX10_clauseHere_62 rfl (fun H locs hO => ?_)
    refine lv_aload_n C.1 C.2.1 dX10_clauseHere_65 rfl (lv_at hl 1 rfl) ?_
    obtain ⟨r8, hr8, hf⟩ := bnd_e hf
    refine j_callV C hO (n := 0) (As := []) (st1 := []) (ct_X10_some l G r7 l0 h0 hr8) h0 rfl kC_13_19 kM_13_16 kI_13_17 kS_13_18 kN_1_5 ⟨by decide, by decide, by decide⟩ ⟨Nat.le_trans (by decide) hRf, Nat.le_trans (by decide) hRl⟩ rfl rfl rfl hl.1 rfl (Nat.le_of_ble_eq_true rfl) ⟨Nat.zero_le _, Nat.zero_le _⟩ dX10_clauseHere_66 rfl (fun H locs hO => ?_)
    refine lv_aload_n C.1 C.2.1 dX10_clauseHere_69 rfl (lv_at hl 1 rfl) ?_
    refine lv_bipush (v := Int32.ofInt (-10)) C.1 C.2.1 dX10_clauseHere_70 (by decide) ?_
    refine lv_iload_n C.1 C.2.1 dX10_clauseHere_72 rfl (lv_at hl 0 rfl) ?_
    refine j_isub C dX10_clauseHere_73 ?_
    obtain ⟨r9, hr9, hf⟩ := bnd_e hf
    refine j_callV C hO (n := 1) (As := [vI ((-10) - r6.1)]) (st1 := []) (c_X10_emits l G r8 l0 ((-10) - r6.1) h0 hr9) h0 rfl kC_14_2 kM_13_23 kI_14_0 kS_14_1 kN_1_5 ⟨by decide, by decide, by decide⟩ ⟨Nat.le_trans (by decide) hRf, Nat.le_trans (by decide) hRl⟩ rfl rfl rfl hl.1 rfl (Nat.le_of_ble_eq_true rfl) ⟨Nat.zero_le _, Nat.zero_le _⟩ dX10_clauseHere_74 rfl (fun H locs hO => ?_)
    refine lv_goto (tgt := 121) C.1 C.2.1 dX10_clauseHere_77 (by decide) ?_
    have hf := som_e hf
    subst hf
    exact j_vret C hO dX10_clauseHere_121
  have hf := (if_neg c4).symm.trans hf
  by_cases c10 : w32 r1 = 112
  · have hf := (if_pos c10).symm.trans hf
    refine j_lsw (tgt := 104) (off := 100) C c10 dX10_clauseHere_4 (by decide) (by decide) (by decide) ?_
    refine lv_aload_n C.1 C.2.1 dX10_clauseHere_104 rfl (lv_at hl 0 rfl) ?_
    refine lv_sipush (v := Int32.ofInt 242) C.1 C.2.1 dX10_clauseHere_105 (by decide) ?_
    refine j_ldcS (x := 3) C hO (tx := "prize ") (by decide) dX10_clauseHere_108 ?_
    obtain ⟨r11, hr11, hf⟩ := bnd_e hf
    refine j_callV C hO (n := 2) (As := [vI 242, jS G 3]) (st1 := []) (c_X10_tellsHere l G M l0 242 3 h0 (⟨by decide, by decide⟩ : (0 : Int) ≤ 3 ∧ (3 : Int) < 6) hr11) h0 rfl kC_14_15 kM_14_12 kI_14_13 kS_14_14 kN_1_5 ⟨by decide, by decide, by decide⟩ ⟨Nat.le_trans (by decide) hRf, Nat.le_trans (by decide) hRl⟩ rfl rfl rfl hl.1 rfl (Nat.le_of_ble_eq_true rfl) ⟨Nat.zero_le _, Nat.zero_le _⟩ dX10_clauseHere_110 rfl (fun H locs hO => ?_)
    refine lv_goto (tgt := 121) C.1 C.2.1 dX10_clauseHere_113 (by decide) ?_
    have hf := som_e hf
    subst hf
    exact j_vret C hO dX10_clauseHere_121
  have hf := (if_neg c10).symm.trans hf
  by_cases c12 : w32 r1 = 115
  · have hf := (if_pos c12).symm.trans hf
    refine j_lsw (tgt := 80) (off := 76) C c12 dX10_clauseHere_4 (by decide) (by decide) (by decide) ?_
    refine lv_aload_n C.1 C.2.1 dX10_clauseHere_80 rfl (lv_at hl 0 rfl) ?_
    refine lv_sipush (v := Int32.ofInt 232) C.1 C.2.1 dX10_clauseHere_81 (by decide) ?_
    refine j_ldcS (x := 1) C hO (tx := "signs ") (by decide) dX10_clauseHere_84 ?_
    obtain ⟨r13, hr13, hf⟩ := bnd_e hf
    refine j_callV C hO (n := 2) (As := [vI 232, jS G 1]) (st1 := []) (c_X10_tellsHere l G M l0 232 1 h0 (⟨by decide, by decide⟩ : (0 : Int) ≤ 1 ∧ (1 : Int) < 6) hr13) h0 rfl kC_14_15 kM_14_12 kI_14_13 kS_14_14 kN_1_5 ⟨by decide, by decide, by decide⟩ ⟨Nat.le_trans (by decide) hRf, Nat.le_trans (by decide) hRl⟩ rfl rfl rfl hl.1 rfl (Nat.le_of_ble_eq_true rfl) ⟨Nat.zero_le _, Nat.zero_le _⟩ dX10_clauseHere_86 rfl (fun H locs hO => ?_)
    refine lv_goto (tgt := 121) C.1 C.2.1 dX10_clauseHere_89 (by decide) ?_
    have hf := som_e hf
    subst hf
    exact j_vret C hO dX10_clauseHere_121
  have hf := (if_neg c12).symm.trans hf
  refine j_lsd (tgt := 116) C (off := 112) dX10_clauseHere_4 (by decide) (by simp [Op.lookupswitch.offset, Ne.symm c2, Ne.symm c4, Ne.symm c10, Ne.symm c12]) (by decide) ?_
  refine lv_aload_n C.1 C.2.1 dX10_clauseHere_116 rfl (lv_at hl 0 rfl) ?_
  refine lv_iconst (v := Int32.ofInt 1) C.1 C.2.1 dX10_clauseHere_117 rfl ?_
  obtain ⟨M14, hM14, hf⟩ := lt1_e hf
  refine j_put C hO (ci := 10) (k := 7) (x := 1) h0 rfl inlX10 tyX10_ok nmX10 (by decide) kF_12_16 rfl rfl (jz_n (Or.inr rfl)) (jz_f (Or.inr rfl)) (by simp [jfl]) (fs_10_7) dX10_clauseHere_118 (fun H locs hO => ?_)
  rw [← hM14] at hO
  have hf := som_e hf
  subst hf
  exact j_vret C hO dX10_clauseHere_121
set_option maxHeartbeats 1000000 in
theorem c_X10_clauseHere (l : Launch) (G : jG)  (M : jM) (l0 : Int) (h0 : jkd l0 = (10, 0)) {fin : jM} (h : f_X10_clauseHere M l0 = some fin) : Met l yX10_clauseHere (Cond.code yX10_clauseHere cX10_clauseHere 2 none :: wsL_law) ({ frames := 61, cells := 0, slots := 0, locals := 6020 } : Room) (va_Pc [jR G l0] (fun U => jRep G M U)) (jQ G none fin) 0 0 (jA G) := by
  refine Met.ofW (cc := cX10_clauseHere) (maxL := 2) (ret := none) (by decide) rfl ?_
  intro p e s m args below meth c s₁ B hml hv
  obtain ⟨rfl, hR0⟩ := hv
  have C : jCx p s m ([jR G l0] : List Value).toArray meth c cX10_clauseHere 2 RX10 (Cond.code yX10_clauseHere cX10_clauseHere 2 none) none := ⟨B.exec, B.bytes, hml, findClass_of_methodNamed B.named, atoms_spec B.pre, B.returns, B.notSynchronized⟩
  have hO := hR0.ok
  have hl := lv_entry ([jR G l0]) (n := 2) (Nat.le_of_ble_eq_true rfl)
  rw [lg_entry_eq]
  generalize (lg_sl ([jR G l0]) ++ List.replicate (2 - (lg_sl ([jR G l0])).length) Slot.unset).toArray = ls at hl ⊢
  have hl : lv_has ls 2 [(0, jR G l0)] := hl
  exact w_X10_clauseHere C (Nat.le_refl _) (Nat.le_refl _) M l0 h0 h hO hl
set_option maxHeartbeats 4000000 in
theorem w_X10_stall_L118 {p : Program} {l : Launch} {e : Env} {R : Room} {s : State} {m : MethodId} {args : Array Value} {below : List Frame} {meth : Method} {c : Code} {H : Heap} {locs : List Loc} {ls : Array Slot} {G : jG}  (C : jCx p s m args meth c cX10_stall 2 RX10 (Cond.code yX10_stall cX10_stall 2 (some .int)) (some .int)) (hRf : 62 ≤ R.frames) (hRl : 6041 ≤ R.locals)  (M : jM) (l0 : Int) (h0 : jkd l0 = (10, 0)) {fin : Int × jM} (S : jM × Int) {rr : (jM × Int) ⊕ jM} (hf : f_X10_stall_L118 M l0 S = some rr) (kc : ∀ q : jM × Int, rr = .inl q → ∀ (H : Heap) (locs : List Loc) (ls : Array Slot), jOk G q.1 s H locs → lv_has ls 2 [(0, jR G l0), (1, vI q.2)] → W p l e R s m args below meth c H locs 0 0 (MQ below (jQ G (some (vI fin.1)) fin.2) args s 0 0 (jA G)) (F0 m 118 ls [])) (kx0 : ∀ q : jM, rr = .inr q → ∀ (H : Heap) (locs : List Loc) (ls : Array Slot), jOk G q s H locs → lv_has ls 2 [(0, jR G l0)] → W p l e R s m args below meth c H locs 0 0 (MQ below (jQ G (some (vI fin.1)) fin.2) args s 0 0 (jA G)) (F0 m 160 ls [])) (hO : jOk G S.1 s H locs) (hl : lv_has ls 2 [(0, jR G l0), (1, vI S.2)]) : W p l e R s m args below meth c H locs 0 0 (MQ below (jQ G (some (vI fin.1)) fin.2) args s 0 0 (jA G)) (F0 m 118 ls []) := by
  unfold f_X10_stall_L118 at hf
  refine lv_aload_n C.1 C.2.1 dX10_stall_118 rfl (lv_at hl 0 rfl) ?_
  refine j_get C hO (ci := 10) (k := 7) (v := vI (S.1 l0 7)) h0 rfl inlX10 (by decide) kF_12_16 rfl rfl dX10_stall_119 ?_
  refine j_if_ne (tgt := 160) C rfl dX10_stall_122 (by decide) (fun c17 => ?_) (fun c17 => ?_)
  · have hf := (if_neg c17).symm.trans hf
    exact kx0 _ (som_e hf).symm _ _ _ hO (lv_sub hl [0] rfl)
  · have hf := (if_pos c17).symm.trans hf
    refine lv_iload_n C.1 C.2.1 dX10_stall_125 rfl (lv_at hl 1 rfl) ?_
    refine lv_bipush (v := Int32.ofInt 10) C.1 C.2.1 dX10_stall_126 (by decide) ?_
    refine j_icmp_ge (tgt := 160) C rfl (w32_id (by decide) (by decide)) dX10_stall_128 (by decide) (fun c18 => ?_) (fun c18 => ?_)
    · have hf := (if_pos c18).symm.trans hf
      exact kx0 _ (som_e hf).symm _ _ _ hO (lv_sub hl [0] rfl)
    · have hf := (if_neg c18).symm.trans hf
      refine lv_aload_n C.1 C.2.1 dX10_stall_131 rfl (lv_at hl 0 rfl) ?_
      obtain ⟨r19, hr19, hf⟩ := bnd_e hf
      refine j_callV C hO (n := 0) (As := []) (st1 := [vI r19]) (c_X10_here l G S.1 l0 h0 hr19) h0 rfl kC_13_1 kM_12_22 kI_12_23 kS_13_0 kN_1_5 ⟨by decide, by decide, by decide⟩ ⟨Nat.le_trans (by decide) hRf, Nat.le_trans (by decide) hRl⟩ rfl rfl rfl hl.1 rfl (Nat.le_of_ble_eq_true rfl) ⟨Nat.zero_le _, Nat.zero_le _⟩ dX10_stall_132 rfl (fun H locs hO => ?_)
      refine lv_bipush (v := Int32.ofInt 59) C.1 C.2.1 dX10_stall_135 (by decide) ?_
      refine j_icmp_ne (tgt := 160) C rfl (w32_id (by decide) (by decide)) dX10_stall_137 (by decide) (fun c20 => ?_) (fun c20 => ?_)
      · have hf := (if_neg c20).symm.trans hf
        exact kx0 _ (som_e hf).symm _ _ _ hO (lv_sub hl [0] rfl)
      · have hf := (if_pos c20).symm.trans hf
        refine lv_aload_n C.1 C.2.1 dX10_stall_140 rfl (lv_at hl 0 rfl) ?_
        refine lv_dup C.1 C.2.1 dX10_stall_141 rfl ?_
        refine j_get C hO (ci := 10) (k := 5) (v := vI (S.1 l0 5)) h0 rfl inlX10 (by decide) kF_12_15 rfl rfl dX10_stall_142 ?_
        refine lv_iconst (v := Int32.ofInt 1) C.1 C.2.1 dX10_stall_145 rfl ?_
        refine j_iadd C dX10_stall_146 ?_
        obtain ⟨M21, hM21, hf⟩ := lt1_e hf
        refine j_put C hO (ci := 10) (k := 5) (x := (S.1 l0 5) + 1) h0 rfl inlX10 tyX10_ok nmX10 (by decide) kF_12_15 rfl rfl rfl rfl (by simp [jfl]) (fs_10_5) dX10_stall_147 (fun H locs hO => ?_)
        rw [← hM21] at hO
        refine lv_aload_n C.1 C.2.1 dX10_stall_150 rfl (lv_at hl 0 rfl) ?_
        obtain ⟨r22, hr22, hf⟩ := bnd_e hf
        refine j_callV C hO (n := 0) (As := []) (st1 := []) (c_X10_clauseHere l G M21 l0 h0 hr22) h0 rfl kC_12_21 kM_12_18 kI_12_19 kS_12_20 kN_1_5 ⟨by decide, by decide, by decide⟩ ⟨Nat.le_trans (by decide) hRf, Nat.le_trans (by decide) hRl⟩ rfl rfl rfl hl.1 rfl (Nat.le_of_ble_eq_true rfl) ⟨Nat.zero_le _, Nat.zero_le _⟩ dX10_stall_151 rfl (fun H locs hO => ?_)
        refine lv_iinc (v := Int32.ofInt (S.2 + 1)) (lv' := [(1, vI (S.2 + 1)), (0, jR G l0)]) C.1 C.2.1 dX10_stall_154 hl (k := 1) rfl (Int32.ofInt_add _ _).symm (by decide) rfl (fun ls hl => ?_)
        refine lv_goto (tgt := 118) C.1 C.2.1 dX10_stall_157 (by decide) ?_
        exact kc _ (som_e hf).symm _ _ _ hO (lv_sub hl [1, 0] rfl)
set_option maxHeartbeats 4000000 in
theorem w_X10_stall {p : Program} {l : Launch} {e : Env} {R : Room} {s : State} {m : MethodId} {args : Array Value} {below : List Frame} {meth : Method} {c : Code} {H : Heap} {locs : List Loc} {ls : Array Slot} {G : jG}  (C : jCx p s m args meth c cX10_stall 2 RX10 (Cond.code yX10_stall cX10_stall 2 (some .int)) (some .int)) (hRf : 62 ≤ R.frames) (hRl : 6041 ≤ R.locals)  (M : jM) (l0 : Int) (h0 : jkd l0 = (10, 0)) {fin : Int × jM} (hf : f_X10_stall M l0 = some fin) (hO : jOk G M s H locs) (hl : lv_has ls 2 [(0, jR G l0)]) : W p l e R s m args below meth c H locs 0 0 (MQ below (jQ G (some (vI fin.1)) fin.2) args s 0 0 (jA G)) (F0 m 0 ls []) := by
  unfold f_X10_stall at hf
  refine lv_aload_n C.1 C.2.1 dX10_stall_0 rfl (lv_at hl 0 rfl) ?_
  refine j_get C hO (ci := 10) (k := 1) (v := jR G (jpt l0 1)) h0 rfl inlX10 (by decide) kF_5_23 rfl rfl dX10_stall_1 ?_
  refine lv_iconst (v := Int32.ofInt 2) C.1 C.2.1 dX10_stall_4 rfl ?_
  refine j_iald C hO (tp_10_1 h0) (w32_id (by decide) (by decide)) (by decide) (by decide) dX10_stall_5 ?_
  refine lv_iconst (v := Int32.ofInt 5) C.1 C.2.1 dX10_stall_6 rfl ?_
  refine j_icmp_ne (tgt := 13) C rfl (w32_id (by decide) (by decide)) dX10_stall_7 (by decide) (fun c1 => ?_) (fun c1 => ?_)
  · have hf := (if_neg c1).symm.trans hf
    refine lv_aload_n C.1 C.2.1 dX10_stall_13 rfl (lv_at hl 0 rfl) ?_
    refine lv_aload_n C.1 C.2.1 dX10_stall_14 rfl (lv_at hl 0 rfl) ?_
    refine j_get C hO (ci := 10) (k := 1) (v := jR G (jpt l0 1)) h0 rfl inlX10 (by decide) kF_5_23 rfl rfl dX10_stall_15 ?_
    refine lv_iconst (v := Int32.ofInt 2) C.1 C.2.1 dX10_stall_18 rfl ?_
    refine j_iald C hO (tp_10_1 h0) (w32_id (by decide) (by decide)) (by decide) (by decide) dX10_stall_19 ?_
    obtain ⟨M2, hM2, hf⟩ := lt1_e hf
    refine j_put C hO (ci := 10) (k := 4) (x := M (jpt l0 1) 2) h0 rfl inlX10 tyX10_ok nmX10 (by decide) kF_12_13 rfl rfl rfl rfl (by simp [jfl]) (fs_10_4) dX10_stall_20 (fun H locs hO => ?_)
    rw [← hM2] at hO
    refine lv_aload_n C.1 C.2.1 dX10_stall_23 rfl (lv_at hl 0 rfl) ?_
    refine lv_aload_n C.1 C.2.1 dX10_stall_24 rfl (lv_at hl 0 rfl) ?_
    refine j_get C hO (ci := 10) (k := 1) (v := jR G (jpt l0 1)) h0 rfl inlX10 (by decide) kF_5_23 rfl rfl dX10_stall_25 ?_
    refine lv_iconst (v := Int32.ofInt 5) C.1 C.2.1 dX10_stall_28 rfl ?_
    refine j_iald C hO (tp_10_1 h0) (w32_id (by decide) (by decide)) (by decide) (by decide) dX10_stall_29 ?_
    obtain ⟨M3, hM3, hf⟩ := lt1_e hf
    refine j_put C hO (ci := 10) (k := 6) (x := M2 (jpt l0 1) 5) h0 rfl inlX10 tyX10_ok nmX10 (by decide) kF_12_14 rfl rfl rfl rfl (by simp [jfl]) (fs_10_6) dX10_stall_30 (fun H locs hO => ?_)
    rw [← hM3] at hO
    refine lv_aload_n C.1 C.2.1 dX10_stall_33 rfl (lv_at hl 0 rfl) ?_
    refine j_get C hO (ci := 10) (k := 1) (v := jR G (jpt l0 1)) h0 rfl inlX10 (by decide) kF_5_23 rfl rfl dX10_stall_34 ?_
    refine lv_iconst (v := Int32.ofInt 5) C.1 C.2.1 dX10_stall_37 rfl ?_
    refine lv_iconst (v := Int32.ofInt 0) C.1 C.2.1 dX10_stall_38 rfl ?_
    obtain ⟨M4, hM4, hf⟩ := lt1_e hf
    refine j_iast C hO (x := 0) (tp_10_1 h0) (w32_id (by decide) (by decide)) (by decide) (by decide) dX10_stall_39 (fun H locs hO => ?_)
    rw [← hM4] at hO
    refine lv_aload_n C.1 C.2.1 dX10_stall_40 rfl (lv_at hl 0 rfl) ?_
    refine j_get C hO (ci := 10) (k := 1) (v := jR G (jpt l0 1)) h0 rfl inlX10 (by decide) kF_5_23 rfl rfl dX10_stall_41 ?_
    refine lv_sipush (v := Int32.ofInt 232) C.1 C.2.1 dX10_stall_44 (by decide) ?_
    refine lv_aload_n C.1 C.2.1 dX10_stall_47 rfl (lv_at hl 0 rfl) ?_
    refine j_get C hO (ci := 10) (k := 4) (v := vI (M4 l0 4)) h0 rfl inlX10 (by decide) kF_12_13 rfl rfl dX10_stall_48 ?_
    refine j_iadd C dX10_stall_51 ?_
    refine lv_iconst (v := Int32.ofInt 2) C.1 C.2.1 dX10_stall_52 rfl ?_
    obtain ⟨g5, hf⟩ := grd_e hf
    obtain ⟨M6, hM6, hf⟩ := lt1_e hf
    refine j_iast C hO (x := 2) (tp_10_1 h0) rfl g5.1 g5.2 dX10_stall_53 (fun H locs hO => ?_)
    rw [← hM6] at hO
    refine lv_aload_n C.1 C.2.1 dX10_stall_54 rfl (lv_at hl 0 rfl) ?_
    refine j_get C hO (ci := 10) (k := 1) (v := jR G (jpt l0 1)) h0 rfl inlX10 (by decide) kF_5_23 rfl rfl dX10_stall_55 ?_
    refine lv_sipush (v := Int32.ofInt 237) C.1 C.2.1 dX10_stall_58 (by decide) ?_
    refine lv_aload_n C.1 C.2.1 dX10_stall_61 rfl (lv_at hl 0 rfl) ?_
    refine j_get C hO (ci := 10) (k := 4) (v := vI (M6 l0 4)) h0 rfl inlX10 (by decide) kF_12_13 rfl rfl dX10_stall_62 ?_
    refine j_iadd C dX10_stall_65 ?_
    refine lv_iconst (v := Int32.ofInt 1) C.1 C.2.1 dX10_stall_66 rfl ?_
    obtain ⟨g7, hf⟩ := grd_e hf
    obtain ⟨M8, hM8, hf⟩ := lt1_e hf
    refine j_iast C hO (x := 1) (tp_10_1 h0) rfl g7.1 g7.2 dX10_stall_67 (fun H locs hO => ?_)
    rw [← hM8] at hO
    refine lv_aload_n C.1 C.2.1 dX10_stall_68 rfl (lv_at hl 0 rfl) ?_
    refine j_get C hO (ci := 10) (k := 1) (v := jR G (jpt l0 1)) h0 rfl inlX10 (by decide) kF_5_23 rfl rfl dX10_stall_69 ?_
    refine lv_sipush (v := Int32.ofInt 242) C.1 C.2.1 dX10_stall_72 (by decide) ?_
    refine lv_aload_n C.1 C.2.1 dX10_stall_75 rfl (lv_at hl 0 rfl) ?_
    refine j_get C hO (ci := 10) (k := 4) (v := vI (M8 l0 4)) h0 rfl inlX10 (by decide) kF_12_13 rfl rfl dX10_stall_76 ?_
    refine j_iadd C dX10_stall_79 ?_
    refine lv_bipush (v := Int32.ofInt 10) C.1 C.2.1 dX10_stall_80 (by decide) ?_
    obtain ⟨g9, hf⟩ := grd_e hf
    obtain ⟨M10, hM10, hf⟩ := lt1_e hf
    refine j_iast C hO (x := 10) (tp_10_1 h0) rfl g9.1 g9.2 dX10_stall_82 (fun H locs hO => ?_)
    rw [← hM10] at hO
    refine lv_aload_n C.1 C.2.1 dX10_stall_83 rfl (lv_at hl 0 rfl) ?_
    refine j_get C hO (ci := 10) (k := 1) (v := jR G (jpt l0 1)) h0 rfl inlX10 (by decide) kF_5_23 rfl rfl dX10_stall_84 ?_
    refine lv_sipush (v := Int32.ofInt 247) C.1 C.2.1 dX10_stall_87 (by decide) ?_
    refine lv_aload_n C.1 C.2.1 dX10_stall_90 rfl (lv_at hl 0 rfl) ?_
    refine j_get C hO (ci := 10) (k := 4) (v := vI (M10 l0 4)) h0 rfl inlX10 (by decide) kF_12_13 rfl rfl dX10_stall_91 ?_
    refine j_iadd C dX10_stall_94 ?_
    refine lv_iconst (v := Int32.ofInt 0) C.1 C.2.1 dX10_stall_95 rfl ?_
    obtain ⟨g11, hf⟩ := grd_e hf
    obtain ⟨M12, hM12, hf⟩ := lt1_e hf
    refine j_iast C hO (x := 0) (tp_10_1 h0) rfl g11.1 g11.2 dX10_stall_96 (fun H locs hO => ?_)
    rw [← hM12] at hO
    refine lv_aload_n C.1 C.2.1 dX10_stall_97 rfl (lv_at hl 0 rfl) ?_
    refine lv_iconst (v := Int32.ofInt 0) C.1 C.2.1 dX10_stall_98 rfl ?_
    obtain ⟨M13, hM13, hf⟩ := lt1_e hf
    refine j_put C hO (ci := 10) (k := 5) (x := 0) h0 rfl inlX10 tyX10_ok nmX10 (by decide) kF_12_15 rfl rfl rfl rfl (by simp [jfl]) (fs_10_5) dX10_stall_99 (fun H locs hO => ?_)
    rw [← hM13] at hO
    refine lv_aload_n C.1 C.2.1 dX10_stall_102 rfl (lv_at hl 0 rfl) ?_
    refine lv_iconst (v := Int32.ofInt 0) C.1 C.2.1 dX10_stall_103 rfl ?_
    obtain ⟨M14, hM14, hf⟩ := lt1_e hf
    refine j_put C hO (ci := 10) (k := 7) (x := 0) h0 rfl inlX10 tyX10_ok nmX10 (by decide) kF_12_16 rfl rfl (jz_n (Or.inl rfl)) (jz_f (Or.inl rfl)) (by simp [jfl]) (fs_10_7) dX10_stall_104 (fun H locs hO => ?_)
    rw [← hM14] at hO
    refine lv_aload_n C.1 C.2.1 dX10_stall_107 rfl (lv_at hl 0 rfl) ?_
    refine lv_iconst (v := Int32.ofInt 0) C.1 C.2.1 dX10_stall_108 rfl ?_
    obtain ⟨M15, hM15, hf⟩ := lt1_e hf
    refine j_put C hO (ci := 10) (k := 8) (x := 0) h0 rfl inlX10 tyX10_ok nmX10 (by decide) kF_12_17 rfl rfl rfl rfl (by simp [jfl]) (fs_10_8) dX10_stall_109 (fun H locs hO => ?_)
    rw [← hM15] at hO
    refine lv_iconst (v := Int32.ofInt 1) C.1 C.2.1 dX10_stall_112 rfl ?_
    refine lv_istore_n (lv' := [(1, vI 1), (0, jR G l0)]) C.1 C.2.1 dX10_stall_113 rfl hl (by decide) rfl (fun ls hl => ?_)
    refine lv_aload_n C.1 C.2.1 dX10_stall_114 rfl (lv_at hl 1 rfl) ?_
    obtain ⟨r16, hr16, hf⟩ := bnd_e hf
    refine j_callV C hO (n := 0) (As := []) (st1 := []) (c_X10_clauseHere l G M15 l0 h0 hr16) h0 rfl kC_12_21 kM_12_18 kI_12_19 kS_12_20 kN_1_5 ⟨by decide, by decide, by decide⟩ ⟨Nat.le_trans (by decide) hRf, Nat.le_trans (by decide) hRl⟩ rfl rfl rfl hl.1 rfl (Nat.le_of_ble_eq_true rfl) ⟨Nat.zero_le _, Nat.zero_le _⟩ dX10_stall_115 rfl (fun H locs hO => ?_)
    obtain ⟨x23, hx23, hf⟩ := bnd_e hf
    refine iter_e (P := fun Z => ∀ (H : Heap) (locs : List Loc) (ls : Array Slot), jOk G Z.1 s H locs → lv_has ls 2 [(0, jR G l0), (1, vI Z.2)] → W p l e R s m args below meth c H locs 0 0 (MQ below (jQ G (some (vI fin.1)) fin.2) args s 0 0 (jA G)) (F0 m 118 ls [])) (E := fun q => ∀ (H : Heap) (locs : List Loc) (ls : Array Slot), jOk G q s H locs → lv_has ls 2 [(0, jR G l0)] → W p l e R s m args below meth c H locs 0 0 (MQ below (jQ G (some (vI fin.1)) fin.2) args s 0 0 (jA G)) (F0 m 160 ls [])) (fun Z rr hb kc kx H locs ls hO hl => w_X10_stall_L118 C hRf hRl r16 l0 h0 Z hb kc (fun q e => kx q e) hO hl) 5000 (r16, 1) x23 hx23 ?_ _ _ _ hO (lv_sub hl [1, 0] rfl)
    clear hO hl
    intro H locs ls hO hl
    refine lv_aload_n C.1 C.2.1 dX10_stall_160 rfl (lv_at hl 0 rfl) ?_
    refine j_get C hO (ci := 10) (k := 7) (v := vI (x23 l0 7)) h0 rfl inlX10 (by decide) kF_12_16 rfl rfl dX10_stall_161 ?_
    refine j_if_ne (tgt := 178) C rfl dX10_stall_164 (by decide) (fun c24 => ?_) (fun c24 => ?_)
    · have hf := (if_neg c24).symm.trans hf
      refine lv_bipush (v := Int32.ofInt (-10)) C.1 C.2.1 dX10_stall_178 (by decide) ?_
      refine lv_aload_n C.1 C.2.1 dX10_stall_180 rfl (lv_at hl 0 rfl) ?_
      refine j_get C hO (ci := 10) (k := 5) (v := vI (x23 l0 5)) h0 rfl inlX10 (by decide) kF_12_15 rfl rfl dX10_stall_181 ?_
      refine j_isub C dX10_stall_184 ?_
      have hf := som_e hf
      subst hf
      exact j_iret C hO dX10_stall_185
    · have hf := (if_pos c24).symm.trans hf
      refine lv_aload_n C.1 C.2.1 dX10_stall_167 rfl (lv_at hl 0 rfl) ?_
      refine j_get C hO (ci := 10) (k := 5) (v := vI (x23 l0 5)) h0 rfl inlX10 (by decide) kF_12_15 rfl rfl dX10_stall_168 ?_
      refine lv_aload_n C.1 C.2.1 dX10_stall_171 rfl (lv_at hl 0 rfl) ?_
      refine j_get C hO (ci := 10) (k := 6) (v := vI (x23 l0 6)) h0 rfl inlX10 (by decide) kF_12_14 rfl rfl dX10_stall_172 ?_
      refine j_icmp_eq (tgt := 186) C rfl rfl dX10_stall_175 (by decide) (fun c25 => ?_) (fun c25 => ?_)
      · have hf := (if_pos c25).symm.trans hf
        refine lv_aload_n C.1 C.2.1 dX10_stall_186 rfl (lv_at hl 0 rfl) ?_
        refine j_get C hO (ci := 10) (k := 1) (v := jR G (jpt l0 1)) h0 rfl inlX10 (by decide) kF_5_23 rfl rfl dX10_stall_187 ?_
        refine lv_iconst (v := Int32.ofInt 2) C.1 C.2.1 dX10_stall_190 rfl ?_
        refine lv_dup2_11 C.1 C.2.1 dX10_stall_191 rfl rfl ?_
        refine j_iald C hO (tp_10_1 h0) (w32_id (by decide) (by decide)) (by decide) (by decide) dX10_stall_192 ?_
        refine lv_iconst (v := Int32.ofInt 1) C.1 C.2.1 dX10_stall_193 rfl ?_
        refine j_iadd C dX10_stall_194 ?_
        obtain ⟨M26, hM26, hf⟩ := lt1_e hf
        refine j_iast C hO (x := (x23 (jpt l0 1) 2) + 1) (tp_10_1 h0) (w32_id (by decide) (by decide)) (by decide) (by decide) dX10_stall_195 (fun H locs hO => ?_)
        rw [← hM26] at hO
        refine lv_aload_n C.1 C.2.1 dX10_stall_196 rfl (lv_at hl 0 rfl) ?_
        refine j_get C hO (ci := 10) (k := 1) (v := jR G (jpt l0 1)) h0 rfl inlX10 (by decide) kF_5_23 rfl rfl dX10_stall_197 ?_
        refine lv_bipush (v := Int32.ofInt 6) C.1 C.2.1 dX10_stall_200 (by decide) ?_
        refine lv_aload_n C.1 C.2.1 dX10_stall_202 rfl (lv_at hl 0 rfl) ?_
        refine j_get C hO (ci := 10) (k := 4) (v := vI (M26 l0 4)) h0 rfl inlX10 (by decide) kF_12_13 rfl rfl dX10_stall_203 ?_
        obtain ⟨M27, hM27, hf⟩ := lt1_e hf
        refine j_iast C hO (x := M26 l0 4) (tp_10_1 h0) (w32_id (by decide) (by decide)) (by decide) (by decide) dX10_stall_206 (fun H locs hO => ?_)
        rw [← hM27] at hO
        refine lv_aload_n C.1 C.2.1 dX10_stall_207 rfl (lv_at hl 0 rfl) ?_
        refine j_get C hO (ci := 10) (k := 4) (v := vI (M27 l0 4)) h0 rfl inlX10 (by decide) kF_12_13 rfl rfl dX10_stall_208 ?_
        have hf := som_e hf
        subst hf
        exact j_iret C hO dX10_stall_211
      · have hf := (if_neg c25).symm.trans hf
        refine lv_bipush (v := Int32.ofInt (-10)) C.1 C.2.1 dX10_stall_178 (by decide) ?_
        refine lv_aload_n C.1 C.2.1 dX10_stall_180 rfl (lv_at hl 0 rfl) ?_
        refine j_get C hO (ci := 10) (k := 5) (v := vI (x23 l0 5)) h0 rfl inlX10 (by decide) kF_12_15 rfl rfl dX10_stall_181 ?_
        refine j_isub C dX10_stall_184 ?_
        have hf := som_e hf
        subst hf
        exact j_iret C hO dX10_stall_185
  · have hf := (if_pos c1).symm.trans hf
    refine lv_bipush (v := Int32.ofInt (-4)) C.1 C.2.1 dX10_stall_10 (by decide) ?_
    have hf := som_e hf
    subst hf
    exact j_iret C hO dX10_stall_12
set_option maxHeartbeats 1000000 in
theorem c_X10_stall (l : Launch) (G : jG)  (M : jM) (l0 : Int) (h0 : jkd l0 = (10, 0)) {fin : Int × jM} (h : f_X10_stall M l0 = some fin) : Met l yX10_stall (Cond.code yX10_stall cX10_stall 2 (some .int) :: wsL_law) ({ frames := 62, cells := 0, slots := 0, locals := 6041 } : Room) (va_Pc [jR G l0] (fun U => jRep G M U)) (jQ G (some (vI fin.1)) fin.2) 0 0 (jA G) := by
  refine Met.ofW (cc := cX10_stall) (maxL := 2) (ret := (some .int)) (by decide) rfl ?_
  intro p e s m args below meth c s₁ B hml hv
  obtain ⟨rfl, hR0⟩ := hv
  have C : jCx p s m ([jR G l0] : List Value).toArray meth c cX10_stall 2 RX10 (Cond.code yX10_stall cX10_stall 2 (some .int)) (some .int) := ⟨B.exec, B.bytes, hml, findClass_of_methodNamed B.named, atoms_spec B.pre, B.returns, B.notSynchronized⟩
  have hO := hR0.ok
  have hl := lv_entry ([jR G l0]) (n := 2) (Nat.le_of_ble_eq_true rfl)
  rw [lg_entry_eq]
  generalize (lg_sl ([jR G l0]) ++ List.replicate (2 - (lg_sl ([jR G l0])).length) Slot.unset).toArray = ls at hl ⊢
  have hl : lv_has ls 2 [(0, jR G l0)] := hl
  exact w_X10_stall C (Nat.le_refl _) (Nat.le_refl _) M l0 h0 h hO hl
set_option maxHeartbeats 4000000 in
theorem w_X10_tellsOf {p : Program} {l : Launch} {e : Env} {R : Room} {s : State} {m : MethodId} {args : Array Value} {below : List Frame} {meth : Method} {c : Code} {H : Heap} {locs : List Loc} {ls : Array Slot} {G : jG}  (C : jCx p s m args meth c cX10_tellsOf 3 RX10 (Cond.code yX10_tellsOf cX10_tellsOf 3 (some .int)) (some .int)) (hRf : 0 ≤ R.frames) (hRl : 0 ≤ R.locals)  (M : jM) (l0 l1 l2 : Int) (h0 : jkd l0 = (10, 0)) {fin : Int} (hf : f_X10_tellsOf M l0 l1 l2 = some fin) (hO : jOk G M s H locs) (hl : lv_has ls 3 [(0, jR G l0), (1, vI l1), (2, vI l2)]) : W p l e R s m args below meth c H locs 0 0 (MQ below (jQ G (some (vI fin)) M) args s 0 0 (jA G)) (F0 m 0 ls []) := by
  unfold f_X10_tellsOf at hf
  refine lv_aload_n C.1 C.2.1 dX10_tellsOf_0 rfl (lv_at hl 0 rfl) ?_
  refine j_get C hO (ci := 10) (k := 1) (v := jR G (jpt l0 1)) h0 rfl inlX10 (by decide) kF_5_23 rfl rfl dX10_tellsOf_1 ?_
  refine lv_bipush (v := Int32.ofInt 6) C.1 C.2.1 dX10_tellsOf_4 (by decide) ?_
  refine j_iald C hO (tp_10_1 h0) (w32_id (by decide) (by decide)) (by decide) (by decide) dX10_tellsOf_6 ?_
  refine lv_iconst (v := Int32.ofInt (-1)) C.1 C.2.1 dX10_tellsOf_7 rfl ?_
  refine j_icmp_ne (tgt := 15) C rfl (w32_id (by decide) (by decide)) dX10_tellsOf_8 (by decide) (fun c1 => ?_) (fun c1 => ?_)
  · have hf := (if_neg c1).symm.trans hf
    refine lv_aload_n C.1 C.2.1 dX10_tellsOf_15 rfl (lv_at hl 0 rfl) ?_
    refine j_get C hO (ci := 10) (k := 1) (v := jR G (jpt l0 1)) h0 rfl inlX10 (by decide) kF_5_23 rfl rfl dX10_tellsOf_16 ?_
    refine lv_iload_n C.1 C.2.1 dX10_tellsOf_19 rfl (lv_at hl 1 rfl) ?_
    refine lv_aload_n C.1 C.2.1 dX10_tellsOf_20 rfl (lv_at hl 0 rfl) ?_
    refine j_get C hO (ci := 10) (k := 1) (v := jR G (jpt l0 1)) h0 rfl inlX10 (by decide) kF_5_23 rfl rfl dX10_tellsOf_21 ?_
    refine lv_bipush (v := Int32.ofInt 6) C.1 C.2.1 dX10_tellsOf_24 (by decide) ?_
    refine j_iald C hO (tp_10_1 h0) (w32_id (by decide) (by decide)) (by decide) (by decide) dX10_tellsOf_26 ?_
    refine j_iadd C dX10_tellsOf_27 ?_
    obtain ⟨g2, hf⟩ := grd_e hf
    refine j_iald C hO (tp_10_1 h0) rfl g2.1 g2.2 dX10_tellsOf_28 ?_
    have hf := som_e hf
    subst hf
    exact j_iret C hO dX10_tellsOf_29
  · have hf := (if_pos c1).symm.trans hf
    refine lv_iload_n C.1 C.2.1 dX10_tellsOf_11 rfl (lv_at hl 2 rfl) ?_
    refine lv_goto (tgt := 29) C.1 C.2.1 dX10_tellsOf_12 (by decide) ?_
    have hf := som_e hf
    subst hf
    exact j_iret C hO dX10_tellsOf_29
set_option maxHeartbeats 1000000 in
theorem c_X10_tellsOf (l : Launch) (G : jG)  (M : jM) (l0 l1 l2 : Int) (h0 : jkd l0 = (10, 0)) {fin : Int} (h : f_X10_tellsOf M l0 l1 l2 = some fin) : Met l yX10_tellsOf (Cond.code yX10_tellsOf cX10_tellsOf 3 (some .int) :: wsL_law) ({ frames := 0, cells := 0, slots := 0, locals := 0 } : Room) (va_Pc [jR G l0, vI l1, vI l2] (fun U => jRep G M U)) (jQ G (some (vI fin)) M) 0 0 (jA G) := by
  refine Met.ofW (cc := cX10_tellsOf) (maxL := 3) (ret := (some .int)) (by decide) rfl ?_
  intro p e s m args below meth c s₁ B hml hv
  obtain ⟨rfl, hR0⟩ := hv
  have C : jCx p s m ([jR G l0, vI l1, vI l2] : List Value).toArray meth c cX10_tellsOf 3 RX10 (Cond.code yX10_tellsOf cX10_tellsOf 3 (some .int)) (some .int) := ⟨B.exec, B.bytes, hml, findClass_of_methodNamed B.named, atoms_spec B.pre, B.returns, B.notSynchronized⟩
  have hO := hR0.ok
  have hl := lv_entry ([jR G l0, vI l1, vI l2]) (n := 3) (Nat.le_of_ble_eq_true rfl)
  rw [lg_entry_eq]
  generalize (lg_sl ([jR G l0, vI l1, vI l2]) ++ List.replicate (3 - (lg_sl ([jR G l0, vI l1, vI l2])).length) Slot.unset).toArray = ls at hl ⊢
  have hl : lv_has ls 3 [(0, jR G l0), (1, vI l1), (2, vI l2)] := hl
  exact w_X10_tellsOf C (Nat.le_refl _) (Nat.le_refl _) M l0 l1 l2 h0 h hO hl
set_option maxHeartbeats 4000000 in
theorem w_X10_signs {p : Program} {l : Launch} {e : Env} {R : Room} {s : State} {m : MethodId} {args : Array Value} {below : List Frame} {meth : Method} {c : Code} {H : Heap} {locs : List Loc} {ls : Array Slot} {G : jG}  (C : jCx p s m args meth c cX10_signs 1 RX10 (Cond.code yX10_signs cX10_signs 1 (some .int)) (some .int)) (hRf : 1 ≤ R.frames) (hRl : 22 ≤ R.locals)  (M : jM) (l0 : Int) (h0 : jkd l0 = (10, 0)) {fin : Int} (hf : f_X10_signs M l0 = some fin) (hO : jOk G M s H locs) (hl : lv_has ls 1 [(0, jR G l0)]) : W p l e R s m args below meth c H locs 0 0 (MQ below (jQ G (some (vI fin)) M) args s 0 0 (jA G)) (F0 m 0 ls []) := by
  unfold f_X10_signs at hf
  refine lv_aload_n C.1 C.2.1 dX10_signs_0 rfl (lv_at hl 0 rfl) ?_
  refine lv_sipush (v := Int32.ofInt 232) C.1 C.2.1 dX10_signs_1 (by decide) ?_
  refine lv_iconst (v := Int32.ofInt 2) C.1 C.2.1 dX10_signs_4 rfl ?_
  obtain ⟨r1, hr1, hf⟩ := bnd_e hf
  refine j_callV C hO (n := 2) (As := [vI 232, vI 2]) (st1 := [vI r1]) (c_X10_tellsOf l G M l0 232 2 h0 hr1) h0 rfl kC_16_21 kM_16_18 kI_16_19 kS_16_20 kN_1_5 ⟨by decide, by decide, by decide⟩ ⟨Nat.le_trans (by decide) hRf, Nat.le_trans (by decide) hRl⟩ rfl rfl rfl hl.1 rfl (Nat.le_of_ble_eq_true rfl) ⟨Nat.zero_le _, Nat.zero_le _⟩ dX10_signs_5 rfl (fun H locs hO => ?_)
  refine lv_iconst (v := Int32.ofInt 2) C.1 C.2.1 dX10_signs_8 rfl ?_
  refine j_icmp_le (tgt := 16) C rfl (w32_id (by decide) (by decide)) dX10_signs_9 (by decide) (fun c2 => ?_) (fun c2 => ?_)
  · have hf := (if_pos c2).symm.trans hf
    refine lv_iconst (v := Int32.ofInt 2) C.1 C.2.1 dX10_signs_16 rfl ?_
    have hf := som_e hf
    subst hf
    exact j_iret C hO dX10_signs_17
  · have hf := (if_neg c2).symm.trans hf
    refine lv_iconst (v := Int32.ofInt 3) C.1 C.2.1 dX10_signs_12 rfl ?_
    refine lv_goto (tgt := 17) C.1 C.2.1 dX10_signs_13 (by decide) ?_
    have hf := som_e hf
    subst hf
    exact j_iret C hO dX10_signs_17
set_option maxHeartbeats 1000000 in
theorem c_X10_signs (l : Launch) (G : jG)  (M : jM) (l0 : Int) (h0 : jkd l0 = (10, 0)) {fin : Int} (h : f_X10_signs M l0 = some fin) : Met l yX10_signs (Cond.code yX10_signs cX10_signs 1 (some .int) :: wsL_law) ({ frames := 1, cells := 0, slots := 0, locals := 22 } : Room) (va_Pc [jR G l0] (fun U => jRep G M U)) (jQ G (some (vI fin)) M) 0 0 (jA G) := by
  refine Met.ofW (cc := cX10_signs) (maxL := 1) (ret := (some .int)) (by decide) rfl ?_
  intro p e s m args below meth c s₁ B hml hv
  obtain ⟨rfl, hR0⟩ := hv
  have C : jCx p s m ([jR G l0] : List Value).toArray meth c cX10_signs 1 RX10 (Cond.code yX10_signs cX10_signs 1 (some .int)) (some .int) := ⟨B.exec, B.bytes, hml, findClass_of_methodNamed B.named, atoms_spec B.pre, B.returns, B.notSynchronized⟩
  have hO := hR0.ok
  have hl := lv_entry ([jR G l0]) (n := 1) (Nat.le_of_ble_eq_true rfl)
  rw [lg_entry_eq]
  generalize (lg_sl ([jR G l0]) ++ List.replicate (1 - (lg_sl ([jR G l0])).length) Slot.unset).toArray = ls at hl ⊢
  have hl : lv_has ls 1 [(0, jR G l0)] := hl
  exact w_X10_signs C (Nat.le_refl _) (Nat.le_refl _) M l0 h0 h hO hl
set_option maxHeartbeats 4000000 in
theorem w_X10_weightOf_349 {p : Program} {l : Launch} {e : Env} {R : Room} {s : State} {m : MethodId} {args : Array Value} {below : List Frame} {meth : Method} {c : Code} {H : Heap} {locs : List Loc} {ls : Array Slot} {G : jG}  (C : jCx p s m args meth c cX10_weightOf 11 RX10 (Cond.code yX10_weightOf cX10_weightOf 11 (some .int)) (some .int)) (hRf : 2 ≤ R.frames) (hRl : 42 ≤ R.locals)  (M : jM) (l0 l2 l3 l4 l5 l6 : Int) (h0 : jkd l0 = (10, 0)) {fin : Int × jM} {rr : (jM × Int × Int × Int) ⊕ ((jM × Int))} (hf : f_X10_weightOf_349 M l0 l2 l3 l4 l5 l6 = some rr) (kc : ∀ q : jM × Int × Int × Int, rr = .inl q → ∀ (H : Heap) (locs : List Loc) (ls : Array Slot), jOk G q.1 s H locs → lv_has ls 11 [(0, jR G l0), (2, vI q.2.1), (3, vI l3), (4, vI l4), (5, vI q.2.2.1), (6, vI q.2.2.2)] → W p l e R s m args below meth c H locs 0 0 (MQ below (jQ G (some (vI fin.1)) fin.2) args s 0 0 (jA G)) (F0 m 87 ls [])) (kx0 : ∀ q : jM × Int, rr = .inr q → ∀ (H : Heap) (locs : List Loc) (ls : Array Slot), jOk G q.1 s H locs → lv_has ls 11 [(2, vI q.2)] → W p l e R s m args below meth c H locs 0 0 (MQ below (jQ G (some (vI fin.1)) fin.2) args s 0 0 (jA G)) (F0 m 355 ls [])) (hO : jOk G M s H locs) (hl : lv_has ls 11 [(0, jR G l0), (2, vI l2), (3, vI l3), (4, vI l4), (5, vI l5), (6, vI l6)]) : W p l e R s m args below meth c H locs 0 0 (MQ below (jQ G (some (vI fin.1)) fin.2) args s 0 0 (jA G)) (F0 m 349 ls []) := by
  unfold f_X10_weightOf_349 at hf
  refine lv_iinc (v := Int32.ofInt (l6 + 1)) (lv' := [(6, vI (l6 + 1)), (0, jR G l0), (2, vI l2), (3, vI l3), (4, vI l4), (5, vI l5)]) C.1 C.2.1 dX10_weightOf_349 hl (k := 5) rfl (Int32.ofInt_add _ _).symm (by decide) rfl (fun ls hl => ?_)
  refine lv_goto (tgt := 87) C.1 C.2.1 dX10_weightOf_352 (by decide) ?_
  exact kc _ (som_e hf).symm _ _ _ hO (lv_sub hl [1, 2, 3, 4, 5, 0] rfl)
set_option maxHeartbeats 4000000 in
theorem w_X10_weightOf_347 {p : Program} {l : Launch} {e : Env} {R : Room} {s : State} {m : MethodId} {args : Array Value} {below : List Frame} {meth : Method} {c : Code} {H : Heap} {locs : List Loc} {ls : Array Slot} {G : jG}  (C : jCx p s m args meth c cX10_weightOf 11 RX10 (Cond.code yX10_weightOf cX10_weightOf 11 (some .int)) (some .int)) (hRf : 2 ≤ R.frames) (hRl : 42 ≤ R.locals)  (M : jM) (l0 l3 l4 l5 l6 s0 s1 : Int) (h0 : jkd l0 = (10, 0)) {fin : Int × jM} {rr : (jM × Int × Int × Int) ⊕ ((jM × Int))} (hf : f_X10_weightOf_347 M l0 l3 l4 l5 l6 s0 s1 = some rr) (kc : ∀ q : jM × Int × Int × Int, rr = .inl q → ∀ (H : Heap) (locs : List Loc) (ls : Array Slot), jOk G q.1 s H locs → lv_has ls 11 [(0, jR G l0), (2, vI q.2.1), (3, vI l3), (4, vI l4), (5, vI q.2.2.1), (6, vI q.2.2.2)] → W p l e R s m args below meth c H locs 0 0 (MQ below (jQ G (some (vI fin.1)) fin.2) args s 0 0 (jA G)) (F0 m 87 ls [])) (kx0 : ∀ q : jM × Int, rr = .inr q → ∀ (H : Heap) (locs : List Loc) (ls : Array Slot), jOk G q.1 s H locs → lv_has ls 11 [(2, vI q.2)] → W p l e R s m args below meth c H locs 0 0 (MQ below (jQ G (some (vI fin.1)) fin.2) args s 0 0 (jA G)) (F0 m 355 ls [])) (hO : jOk G M s H locs) (hl : lv_has ls 11 [(0, jR G l0), (3, vI l3), (4, vI l4), (5, vI l5), (6, vI l6)]) : W p l e R s m args below meth c H locs 0 0 (MQ below (jQ G (some (vI fin.1)) fin.2) args s 0 0 (jA G)) (F0 m 347 ls [vI s1, vI s0]) := by
  unfold f_X10_weightOf_347 at hf
  refine j_iadd C dX10_weightOf_347 ?_
  refine lv_istore_n (lv' := [(2, vI (s0 + s1)), (0, jR G l0), (3, vI l3), (4, vI l4), (5, vI l5), (6, vI l6)]) C.1 C.2.1 dX10_weightOf_348 rfl hl (by decide) rfl (fun ls hl => ?_)
  exact w_X10_weightOf_349 C hRf hRl M l0 (s0 + s1) l3 l4 l5 l6 h0 hf kc kx0 hO (lv_sub hl [1, 0, 2, 3, 4, 5] rfl)
set_option maxHeartbeats 4000000 in
theorem w_X10_weightOf_321 {p : Program} {l : Launch} {e : Env} {R : Room} {s : State} {m : MethodId} {args : Array Value} {below : List Frame} {meth : Method} {c : Code} {H : Heap} {locs : List Loc} {ls : Array Slot} {G : jG}  (C : jCx p s m args meth c cX10_weightOf 11 RX10 (Cond.code yX10_weightOf cX10_weightOf 11 (some .int)) (some .int)) (hRf : 2 ≤ R.frames) (hRl : 42 ≤ R.locals)  (M : jM) (l0 l2 l3 l4 l5 l6 s0 s1 s2 : Int) (h0 : jkd l0 = (10, 0)) (g0 : jkd s0 = (13, 64)) {fin : Int × jM} {rr : (jM × Int × Int × Int) ⊕ ((jM × Int))} (hf : f_X10_weightOf_321 M l0 l2 l3 l4 l5 l6 s0 s1 s2 = some rr) (kc : ∀ q : jM × Int × Int × Int, rr = .inl q → ∀ (H : Heap) (locs : List Loc) (ls : Array Slot), jOk G q.1 s H locs → lv_has ls 11 [(0, jR G l0), (2, vI q.2.1), (3, vI l3), (4, vI l4), (5, vI q.2.2.1), (6, vI q.2.2.2)] → W p l e R s m args below meth c H locs 0 0 (MQ below (jQ G (some (vI fin.1)) fin.2) args s 0 0 (jA G)) (F0 m 87 ls [])) (kx0 : ∀ q : jM × Int, rr = .inr q → ∀ (H : Heap) (locs : List Loc) (ls : Array Slot), jOk G q.1 s H locs → lv_has ls 11 [(2, vI q.2)] → W p l e R s m args below meth c H locs 0 0 (MQ below (jQ G (some (vI fin.1)) fin.2) args s 0 0 (jA G)) (F0 m 355 ls [])) (hO : jOk G M s H locs) (hl : lv_has ls 11 [(0, jR G l0), (2, vI l2), (3, vI l3), (4, vI l4), (5, vI l5), (6, vI l6)]) : W p l e R s m args below meth c H locs 0 0 (MQ below (jQ G (some (vI fin.1)) fin.2) args s 0 0 (jA G)) (F0 m 321 ls [vI s2, vI s1, jR G s0]) := by
  unfold f_X10_weightOf_321 at hf
  obtain ⟨g16, hf⟩ := grd_e hf
  obtain ⟨g17, hf⟩ := grd_e hf
  obtain ⟨M18, hM18, hf⟩ := lt1_e hf
  refine j_zast C hO (x := s2) g0 rfl g16.1 g16.2 g17 dX10_weightOf_321 (fun H locs hO => ?_)
  rw [← hM18] at hO
  refine lv_goto (tgt := 349) C.1 C.2.1 dX10_weightOf_322 (by decide) ?_
  exact w_X10_weightOf_349 C hRf hRl M18 l0 l2 l3 l4 l5 l6 h0 hf kc kx0 hO (lv_sub hl [0, 1, 2, 3, 4, 5] rfl)
set_option maxHeartbeats 4000000 in
theorem w_X10_weightOf_316 {p : Program} {l : Launch} {e : Env} {R : Room} {s : State} {m : MethodId} {args : Array Value} {below : List Frame} {meth : Method} {c : Code} {H : Heap} {locs : List Loc} {ls : Array Slot} {G : jG}  (C : jCx p s m args meth c cX10_weightOf 11 RX10 (Cond.code yX10_weightOf cX10_weightOf 11 (some .int)) (some .int)) (hRf : 2 ≤ R.frames) (hRl : 42 ≤ R.locals)  (M : jM) (l0 l2 l3 l4 l5 l6 s0 s1 : Int) (h0 : jkd l0 = (10, 0)) (g0 : jkd s0 = (13, 64)) {fin : Int × jM} {rr : (jM × Int × Int × Int) ⊕ ((jM × Int))} (hf : f_X10_weightOf_316 M l0 l2 l3 l4 l5 l6 s0 s1 = some rr) (kc : ∀ q : jM × Int × Int × Int, rr = .inl q → ∀ (H : Heap) (locs : List Loc) (ls : Array Slot), jOk G q.1 s H locs → lv_has ls 11 [(0, jR G l0), (2, vI q.2.1), (3, vI l3), (4, vI l4), (5, vI q.2.2.1), (6, vI q.2.2.2)] → W p l e R s m args below meth c H locs 0 0 (MQ below (jQ G (some (vI fin.1)) fin.2) args s 0 0 (jA G)) (F0 m 87 ls [])) (kx0 : ∀ q : jM × Int, rr = .inr q → ∀ (H : Heap) (locs : List Loc) (ls : Array Slot), jOk G q.1 s H locs → lv_has ls 11 [(2, vI q.2)] → W p l e R s m args below meth c H locs 0 0 (MQ below (jQ G (some (vI fin.1)) fin.2) args s 0 0 (jA G)) (F0 m 355 ls [])) (hO : jOk G M s H locs) (hl : lv_has ls 11 [(0, jR G l0), (2, vI l2), (3, vI l3), (4, vI l4), (5, vI l5), (6, vI l6)]) : W p l e R s m args below meth c H locs 0 0 (MQ below (jQ G (some (vI fin.1)) fin.2) args s 0 0 (jA G)) (F0 m 316 ls [vI s1, jR G s0]) := by
  unfold f_X10_weightOf_316 at hf
  refine lv_iconst (v := Int32.ofInt 1) C.1 C.2.1 dX10_weightOf_316 rfl ?_
  refine lv_goto (tgt := 321) C.1 C.2.1 dX10_weightOf_317 (by decide) ?_
  exact w_X10_weightOf_321 C hRf hRl M l0 l2 l3 l4 l5 l6 s0 s1 1 h0 g0 hf kc kx0 hO (lv_sub hl [0, 1, 2, 3, 4, 5] rfl)
set_option maxHeartbeats 4000000 in
theorem w_X10_weightOf_290 {p : Program} {l : Launch} {e : Env} {R : Room} {s : State} {m : MethodId} {args : Array Value} {below : List Frame} {meth : Method} {c : Code} {H : Heap} {locs : List Loc} {ls : Array Slot} {G : jG}  (C : jCx p s m args meth c cX10_weightOf 11 RX10 (Cond.code yX10_weightOf cX10_weightOf 11 (some .int)) (some .int)) (hRf : 2 ≤ R.frames) (hRl : 42 ≤ R.locals)  (M : jM) (l0 l2 l3 l4 l5 l6 s0 s1 : Int) (h0 : jkd l0 = (10, 0)) (g0 : jkd s0 = (13, 64)) {fin : Int × jM} {rr : (jM × Int × Int × Int) ⊕ ((jM × Int))} (hf : f_X10_weightOf_290 M l0 l2 l3 l4 l5 l6 s0 s1 = some rr) (kc : ∀ q : jM × Int × Int × Int, rr = .inl q → ∀ (H : Heap) (locs : List Loc) (ls : Array Slot), jOk G q.1 s H locs → lv_has ls 11 [(0, jR G l0), (2, vI q.2.1), (3, vI l3), (4, vI l4), (5, vI q.2.2.1), (6, vI q.2.2.2)] → W p l e R s m args below meth c H locs 0 0 (MQ below (jQ G (some (vI fin.1)) fin.2) args s 0 0 (jA G)) (F0 m 87 ls [])) (kx0 : ∀ q : jM × Int, rr = .inr q → ∀ (H : Heap) (locs : List Loc) (ls : Array Slot), jOk G q.1 s H locs → lv_has ls 11 [(2, vI q.2)] → W p l e R s m args below meth c H locs 0 0 (MQ below (jQ G (some (vI fin.1)) fin.2) args s 0 0 (jA G)) (F0 m 355 ls [])) (hO : jOk G M s H locs) (hl : lv_has ls 11 [(0, jR G l0), (2, vI l2), (3, vI l3), (4, vI l4), (5, vI l5), (6, vI l6)]) : W p l e R s m args below meth c H locs 0 0 (MQ below (jQ G (some (vI fin.1)) fin.2) args s 0 0 (jA G)) (F0 m 290 ls [vI s1, jR G s0]) := by
  unfold f_X10_weightOf_290 at hf
  refine lv_iconst (v := Int32.ofInt 0) C.1 C.2.1 dX10_weightOf_290 rfl ?_
  refine lv_goto (tgt := 321) C.1 C.2.1 dX10_weightOf_291 (by decide) ?_
  exact w_X10_weightOf_321 C hRf hRl M l0 l2 l3 l4 l5 l6 s0 s1 0 h0 g0 hf kc kx0 hO (lv_sub hl [0, 1, 2, 3, 4, 5] rfl)
set_option maxHeartbeats 4000000 in
theorem w_X10_weightOf_235 {p : Program} {l : Launch} {e : Env} {R : Room} {s : State} {m : MethodId} {args : Array Value} {below : List Frame} {meth : Method} {c : Code} {H : Heap} {locs : List Loc} {ls : Array Slot} {G : jG}  (C : jCx p s m args meth c cX10_weightOf 11 RX10 (Cond.code yX10_weightOf cX10_weightOf 11 (some .int)) (some .int)) (hRf : 2 ≤ R.frames) (hRl : 42 ≤ R.locals)  (M : jM) (l0 l2 l3 l4 l5 l6 s0 s1 s2 : Int) (h0 : jkd l0 = (10, 0)) (g0 : jkd s0 = (13, 64)) {fin : Int × jM} {rr : (jM × Int × Int × Int) ⊕ ((jM × Int))} (hf : f_X10_weightOf_235 M l0 l2 l3 l4 l5 l6 s0 s1 s2 = some rr) (kc : ∀ q : jM × Int × Int × Int, rr = .inl q → ∀ (H : Heap) (locs : List Loc) (ls : Array Slot), jOk G q.1 s H locs → lv_has ls 11 [(0, jR G l0), (2, vI q.2.1), (3, vI l3), (4, vI l4), (5, vI q.2.2.1), (6, vI q.2.2.2)] → W p l e R s m args below meth c H locs 0 0 (MQ below (jQ G (some (vI fin.1)) fin.2) args s 0 0 (jA G)) (F0 m 87 ls [])) (kx0 : ∀ q : jM × Int, rr = .inr q → ∀ (H : Heap) (locs : List Loc) (ls : Array Slot), jOk G q.1 s H locs → lv_has ls 11 [(2, vI q.2)] → W p l e R s m args below meth c H locs 0 0 (MQ below (jQ G (some (vI fin.1)) fin.2) args s 0 0 (jA G)) (F0 m 355 ls [])) (hO : jOk G M s H locs) (hl : lv_has ls 11 [(0, jR G l0), (2, vI l2), (3, vI l3), (4, vI l4), (5, vI l5), (6, vI l6)]) : W p l e R s m args below meth c H locs 0 0 (MQ below (jQ G (some (vI fin.1)) fin.2) args s 0 0 (jA G)) (F0 m 235 ls [vI s2, vI s1, jR G s0]) := by
  unfold f_X10_weightOf_235 at hf
  obtain ⟨g27, hf⟩ := grd_e hf
  obtain ⟨g28, hf⟩ := grd_e hf
  obtain ⟨M29, hM29, hf⟩ := lt1_e hf
  refine j_zast C hO (x := s2) g0 rfl g27.1 g27.2 g28 dX10_weightOf_235 (fun H locs hO => ?_)
  rw [← hM29] at hO
  refine lv_goto (tgt := 349) C.1 C.2.1 dX10_weightOf_236 (by decide) ?_
  exact w_X10_weightOf_349 C hRf hRl M29 l0 l2 l3 l4 l5 l6 h0 hf kc kx0 hO (lv_sub hl [0, 1, 2, 3, 4, 5] rfl)
set_option maxHeartbeats 4000000 in
theorem w_X10_weightOf_197 {p : Program} {l : Launch} {e : Env} {R : Room} {s : State} {m : MethodId} {args : Array Value} {below : List Frame} {meth : Method} {c : Code} {H : Heap} {locs : List Loc} {ls : Array Slot} {G : jG}  (C : jCx p s m args meth c cX10_weightOf 11 RX10 (Cond.code yX10_weightOf cX10_weightOf 11 (some .int)) (some .int)) (hRf : 2 ≤ R.frames) (hRl : 42 ≤ R.locals)  (M : jM) (l0 l2 l3 l4 l5 l6 s0 s1 s2 : Int) (h0 : jkd l0 = (10, 0)) (g0 : jkd s0 = (13, 64)) {fin : Int × jM} {rr : (jM × Int × Int × Int) ⊕ ((jM × Int))} (hf : f_X10_weightOf_197 M l0 l2 l3 l4 l5 l6 s0 s1 s2 = some rr) (kc : ∀ q : jM × Int × Int × Int, rr = .inl q → ∀ (H : Heap) (locs : List Loc) (ls : Array Slot), jOk G q.1 s H locs → lv_has ls 11 [(0, jR G l0), (2, vI q.2.1), (3, vI l3), (4, vI l4), (5, vI q.2.2.1), (6, vI q.2.2.2)] → W p l e R s m args below meth c H locs 0 0 (MQ below (jQ G (some (vI fin.1)) fin.2) args s 0 0 (jA G)) (F0 m 87 ls [])) (kx0 : ∀ q : jM × Int, rr = .inr q → ∀ (H : Heap) (locs : List Loc) (ls : Array Slot), jOk G q.1 s H locs → lv_has ls 11 [(2, vI q.2)] → W p l e R s m args below meth c H locs 0 0 (MQ below (jQ G (some (vI fin.1)) fin.2) args s 0 0 (jA G)) (F0 m 355 ls [])) (hO : jOk G M s H locs) (hl : lv_has ls 11 [(0, jR G l0), (2, vI l2), (3, vI l3), (4, vI l4), (5, vI l5), (6, vI l6)]) : W p l e R s m args below meth c H locs 0 0 (MQ below (jQ G (some (vI fin.1)) fin.2) args s 0 0 (jA G)) (F0 m 197 ls [vI s2, vI s1, jR G s0]) := by
  unfold f_X10_weightOf_197 at hf
  obtain ⟨g38, hf⟩ := grd_e hf
  obtain ⟨g39, hf⟩ := grd_e hf
  obtain ⟨M40, hM40, hf⟩ := lt1_e hf
  refine j_zast C hO (x := s2) g0 rfl g38.1 g38.2 g39 dX10_weightOf_197 (fun H locs hO => ?_)
  rw [← hM40] at hO
  refine lv_iinc (v := Int32.ofInt (l5 + 1)) (lv' := [(5, vI (l5 + 1)), (0, jR G l0), (2, vI l2), (3, vI l3), (4, vI l4), (6, vI l6)]) C.1 C.2.1 dX10_weightOf_198 hl (k := 4) rfl (Int32.ofInt_add _ _).symm (by decide) rfl (fun ls hl => ?_)
  refine lv_goto (tgt := 349) C.1 C.2.1 dX10_weightOf_201 (by decide) ?_
  exact w_X10_weightOf_349 C hRf hRl M40 l0 l2 l3 l4 (l5 + 1) l6 h0 hf kc kx0 hO (lv_sub hl [1, 2, 3, 4, 0, 5] rfl)
set_option maxHeartbeats 4000000 in
theorem w_X10_weightOf_L87 {p : Program} {l : Launch} {e : Env} {R : Room} {s : State} {m : MethodId} {args : Array Value} {below : List Frame} {meth : Method} {c : Code} {H : Heap} {locs : List Loc} {ls : Array Slot} {G : jG}  (C : jCx p s m args meth c cX10_weightOf 11 RX10 (Cond.code yX10_weightOf cX10_weightOf 11 (some .int)) (some .int)) (hRf : 2 ≤ R.frames) (hRl : 42 ≤ R.locals)  (M : jM) (l0 l3 l4 : Int) (h0 : jkd l0 = (10, 0)) {fin : Int × jM} (S : jM × Int × Int × Int) {rr : (jM × Int × Int × Int) ⊕ ((jM × Int))} (hf : f_X10_weightOf_L87 M l0 l3 l4 S = some rr) (kc : ∀ q : jM × Int × Int × Int, rr = .inl q → ∀ (H : Heap) (locs : List Loc) (ls : Array Slot), jOk G q.1 s H locs → lv_has ls 11 [(0, jR G l0), (2, vI q.2.1), (3, vI l3), (4, vI l4), (5, vI q.2.2.1), (6, vI q.2.2.2)] → W p l e R s m args below meth c H locs 0 0 (MQ below (jQ G (some (vI fin.1)) fin.2) args s 0 0 (jA G)) (F0 m 87 ls [])) (kx0 : ∀ q : jM × Int, rr = .inr q → ∀ (H : Heap) (locs : List Loc) (ls : Array Slot), jOk G q.1 s H locs → lv_has ls 11 [(2, vI q.2)] → W p l e R s m args below meth c H locs 0 0 (MQ below (jQ G (some (vI fin.1)) fin.2) args s 0 0 (jA G)) (F0 m 355 ls [])) (hO : jOk G S.1 s H locs) (hl : lv_has ls 11 [(0, jR G l0), (2, vI S.2.1), (3, vI l3), (4, vI l4), (5, vI S.2.2.1), (6, vI S.2.2.2)]) : W p l e R s m args below meth c H locs 0 0 (MQ below (jQ G (some (vI fin.1)) fin.2) args s 0 0 (jA G)) (F0 m 87 ls []) := by
  unfold f_X10_weightOf_L87 at hf
  refine lv_iload C.1 C.2.1 dX10_weightOf_87 (lv_at hl 5 rfl) ?_
  refine lv_iload C.1 C.2.1 dX10_weightOf_89 (lv_at hl 3 rfl) ?_
  refine lv_iload_n C.1 C.2.1 dX10_weightOf_91 rfl (lv_at hl 2 rfl) ?_
  refine j_iadd C dX10_weightOf_92 ?_
  refine j_icmp_ge (tgt := 355) C rfl rfl dX10_weightOf_93 (by decide) (fun c7 => ?_) (fun c7 => ?_)
  · have hf := (if_pos c7).symm.trans hf
    exact kx0 _ (som_e hf).symm _ _ _ hO (lv_sub hl [1] rfl)
  · have hf := (if_neg c7).symm.trans hf
    refine lv_aload_n C.1 C.2.1 dX10_weightOf_96 rfl (lv_at hl 0 rfl) ?_
    refine j_get C hO (ci := 10) (k := 1) (v := jR G (jpt l0 1)) h0 rfl inlX10 (by decide) kF_5_23 rfl rfl dX10_weightOf_97 ?_
    refine lv_iload C.1 C.2.1 dX10_weightOf_100 (lv_at hl 5 rfl) ?_
    obtain ⟨g8, hf⟩ := grd_e hf
    refine j_iald C hO (tp_10_1 h0) rfl g8.1 g8.2 dX10_weightOf_102 ?_
    refine lv_istore (lv' := [(7, vI (S.1 (jpt l0 1) (w32 S.2.2.2))), (0, jR G l0), (2, vI S.2.1), (3, vI l3), (4, vI l4), (5, vI S.2.2.1), (6, vI S.2.2.2)]) C.1 C.2.1 dX10_weightOf_103 hl (by decide) rfl (fun ls hl => ?_)
    refine lv_iload C.1 C.2.1 dX10_weightOf_105 (lv_at hl 0 rfl) ?_
    refine j_if_lt (tgt := 204) C rfl dX10_weightOf_107 (by decide) (fun c9 => ?_) (fun c9 => ?_)
    · have hf := (if_pos c9).symm.trans hf
      refine lv_iload C.1 C.2.1 dX10_weightOf_204 (lv_at hl 0 rfl) ?_
      refine lv_iconst (v := Int32.ofInt (-1)) C.1 C.2.1 dX10_weightOf_206 rfl ?_
      refine j_icmp_ne (tgt := 239) C rfl (w32_id (by decide) (by decide)) dX10_weightOf_207 (by decide) (fun c10 => ?_) (fun c10 => ?_)
      · have hf := (if_neg c10).symm.trans hf
        refine lv_iload C.1 C.2.1 dX10_weightOf_239 (lv_at hl 0 rfl) ?_
        refine lv_bipush (v := Int32.ofInt (-10)) C.1 C.2.1 dX10_weightOf_241 (by decide) ?_
        refine j_icmp_le (tgt := 325) C rfl (w32_id (by decide) (by decide)) dX10_weightOf_243 (by decide) (fun c11 => ?_) (fun c11 => ?_)
        · have hf := (if_pos c11).symm.trans hf
          refine lv_iconst (v := Int32.ofInt 0) C.1 C.2.1 dX10_weightOf_325 rfl ?_
          refine lv_istore (lv' := [(5, vI 0), (7, vI (S.1 (jpt l0 1) (w32 S.2.2.2))), (0, jR G l0), (2, vI S.2.1), (3, vI l3), (4, vI l4), (6, vI S.2.2.2)]) C.1 C.2.1 dX10_weightOf_326 hl (by decide) rfl (fun ls hl => ?_)
          refine lv_iload_n C.1 C.2.1 dX10_weightOf_328 rfl (lv_at hl 3 rfl) ?_
          refine lv_aload_n C.1 C.2.1 dX10_weightOf_329 rfl (lv_at hl 2 rfl) ?_
          refine j_get C hO (ci := 10) (k := 10) (v := jR G (jpt l0 10)) h0 rfl inlX10 (by decide) kF_6_3 rfl rfl dX10_weightOf_330 ?_
          refine lv_iconst (v := Int32.ofInt 0) C.1 C.2.1 dX10_weightOf_333 rfl ?_
          refine j_zald C hO (tp_10_10 h0) (w32_id (by decide) (by decide)) (by decide) (by decide) dX10_weightOf_334 ?_
          refine j_if_eq (tgt := 346) C rfl dX10_weightOf_335 (by decide) (fun c12 => ?_) (fun c12 => ?_)
          · have hf := (if_pos c12).symm.trans hf
            refine lv_iconst (v := Int32.ofInt 0) C.1 C.2.1 dX10_weightOf_346 rfl ?_
            exact w_X10_weightOf_347 C hRf hRl S.1 l0 l3 l4 0 S.2.2.2 S.2.1 0 h0 hf kc kx0 hO (lv_sub hl [2, 4, 5, 0, 6] rfl)
          · have hf := (if_neg c12).symm.trans hf
            refine lv_bipush (v := Int32.ofInt (-10)) C.1 C.2.1 dX10_weightOf_338 (by decide) ?_
            refine lv_iload C.1 C.2.1 dX10_weightOf_340 (lv_at hl 1 rfl) ?_
            refine j_isub C dX10_weightOf_342 ?_
            refine lv_goto (tgt := 347) C.1 C.2.1 dX10_weightOf_343 (by decide) ?_
            exact w_X10_weightOf_347 C hRf hRl S.1 l0 l3 l4 0 S.2.2.2 S.2.1 ((-10) - (S.1 (jpt l0 1) (w32 S.2.2.2))) h0 hf kc kx0 hO (lv_sub hl [2, 4, 5, 0, 6] rfl)
        · have hf := (if_neg c11).symm.trans hf
          refine lv_iinc (v := Int32.ofInt (S.2.2.1 + (-1))) (lv' := [(5, vI (S.2.2.1 + (-1))), (7, vI (S.1 (jpt l0 1) (w32 S.2.2.2))), (0, jR G l0), (2, vI S.2.1), (3, vI l3), (4, vI l4), (6, vI S.2.2.2)]) C.1 C.2.1 dX10_weightOf_246 hl (k := 5) rfl (Int32.ofInt_add _ _).symm (by decide) rfl (fun ls hl => ?_)
          refine lv_aload_n C.1 C.2.1 dX10_weightOf_249 rfl (lv_at hl 2 rfl) ?_
          refine j_get C hO (ci := 10) (k := 10) (v := jR G (jpt l0 10)) h0 rfl inlX10 (by decide) kF_6_3 rfl rfl dX10_weightOf_250 ?_
          refine lv_iload C.1 C.2.1 dX10_weightOf_253 (lv_at hl 0 rfl) ?_
          refine lv_iconst (v := Int32.ofInt 1) C.1 C.2.1 dX10_weightOf_255 rfl ?_
          refine j_isub C dX10_weightOf_256 ?_
          refine lv_iload C.1 C.2.1 dX10_weightOf_257 (lv_at hl 1 rfl) ?_
          refine lv_bipush (v := Int32.ofInt (-2)) C.1 C.2.1 dX10_weightOf_259 (by decide) ?_
          refine j_icmp_ne (tgt := 294) C rfl (w32_id (by decide) (by decide)) dX10_weightOf_261 (by decide) (fun c13 => ?_) (fun c13 => ?_)
          · have hf := (if_neg c13).symm.trans hf
            refine lv_aload_n C.1 C.2.1 dX10_weightOf_294 rfl (lv_at hl 2 rfl) ?_
            refine j_get C hO (ci := 10) (k := 10) (v := jR G (jpt l0 10)) h0 rfl inlX10 (by decide) kF_6_3 rfl rfl dX10_weightOf_295 ?_
            refine lv_iload C.1 C.2.1 dX10_weightOf_298 (lv_at hl 0 rfl) ?_
            refine lv_iconst (v := Int32.ofInt 1) C.1 C.2.1 dX10_weightOf_300 rfl ?_
            refine j_isub C dX10_weightOf_301 ?_
            obtain ⟨g14, hf⟩ := grd_e hf
            refine j_zald C hO (tp_10_10 h0) rfl g14.1 g14.2 dX10_weightOf_302 ?_
            refine j_if_ne (tgt := 316) C rfl dX10_weightOf_303 (by decide) (fun c15 => ?_) (fun c15 => ?_)
            · have hf := (if_neg c15).symm.trans hf
              exact w_X10_weightOf_316 C hRf hRl S.1 l0 S.2.1 l3 l4 (S.2.2.1 + (-1)) S.2.2.2 (jpt l0 10) ((S.2.2.1 + (-1)) - 1) h0 (tp_10_10 h0) hf kc kx0 hO (lv_sub hl [2, 3, 4, 5, 0, 6] rfl)
            · have hf := (if_pos c15).symm.trans hf
              refine lv_aload_n C.1 C.2.1 dX10_weightOf_306 rfl (lv_at hl 2 rfl) ?_
              refine j_get C hO (ci := 10) (k := 10) (v := jR G (jpt l0 10)) h0 rfl inlX10 (by decide) kF_6_3 rfl rfl dX10_weightOf_307 ?_
              refine lv_iload C.1 C.2.1 dX10_weightOf_310 (lv_at hl 0 rfl) ?_
              obtain ⟨g19, hf⟩ := grd_e hf
              refine j_zald C hO (tp_10_10 h0) rfl g19.1 g19.2 dX10_weightOf_312 ?_
              refine j_if_eq (tgt := 320) C rfl dX10_weightOf_313 (by decide) (fun c20 => ?_) (fun c20 => ?_)
              · have hf := (if_pos c20).symm.trans hf
                refine lv_iconst (v := Int32.ofInt 0) C.1 C.2.1 dX10_weightOf_320 rfl ?_
                exact w_X10_weightOf_321 C hRf hRl S.1 l0 S.2.1 l3 l4 (S.2.2.1 + (-1)) S.2.2.2 (jpt l0 10) ((S.2.2.1 + (-1)) - 1) 0 h0 (tp_10_10 h0) hf kc kx0 hO (lv_sub hl [2, 3, 4, 5, 0, 6] rfl)
              · have hf := (if_neg c20).symm.trans hf
                exact w_X10_weightOf_316 C hRf hRl S.1 l0 S.2.1 l3 l4 (S.2.2.1 + (-1)) S.2.2.2 (jpt l0 10) ((S.2.2.1 + (-1)) - 1) h0 (tp_10_10 h0) hf kc kx0 hO (lv_sub hl [2, 3, 4, 5, 0, 6] rfl)
          · have hf := (if_pos c13).symm.trans hf
            refine lv_aload_n C.1 C.2.1 dX10_weightOf_264 rfl (lv_at hl 2 rfl) ?_
            refine j_get C hO (ci := 10) (k := 10) (v := jR G (jpt l0 10)) h0 rfl inlX10 (by decide) kF_6_3 rfl rfl dX10_weightOf_265 ?_
            refine lv_iload C.1 C.2.1 dX10_weightOf_268 (lv_at hl 0 rfl) ?_
            refine lv_iconst (v := Int32.ofInt 1) C.1 C.2.1 dX10_weightOf_270 rfl ?_
            refine j_isub C dX10_weightOf_271 ?_
            obtain ⟨g21, hf⟩ := grd_e hf
            refine j_zald C hO (tp_10_10 h0) rfl g21.1 g21.2 dX10_weightOf_272 ?_
            refine j_if_eq (tgt := 290) C rfl dX10_weightOf_273 (by decide) (fun c22 => ?_) (fun c22 => ?_)
            · have hf := (if_pos c22).symm.trans hf
              exact w_X10_weightOf_290 C hRf hRl S.1 l0 S.2.1 l3 l4 (S.2.2.1 + (-1)) S.2.2.2 (jpt l0 10) ((S.2.2.1 + (-1)) - 1) h0 (tp_10_10 h0) hf kc kx0 hO (lv_sub hl [2, 3, 4, 5, 0, 6] rfl)
            · have hf := (if_neg c22).symm.trans hf
              refine lv_aload_n C.1 C.2.1 dX10_weightOf_276 rfl (lv_at hl 2 rfl) ?_
              refine j_get C hO (ci := 10) (k := 10) (v := jR G (jpt l0 10)) h0 rfl inlX10 (by decide) kF_6_3 rfl rfl dX10_weightOf_277 ?_
              refine lv_iload C.1 C.2.1 dX10_weightOf_280 (lv_at hl 0 rfl) ?_
              obtain ⟨g23, hf⟩ := grd_e hf
              refine j_zald C hO (tp_10_10 h0) rfl g23.1 g23.2 dX10_weightOf_282 ?_
              refine j_if_eq (tgt := 290) C rfl dX10_weightOf_283 (by decide) (fun c24 => ?_) (fun c24 => ?_)
              · have hf := (if_pos c24).symm.trans hf
                exact w_X10_weightOf_290 C hRf hRl S.1 l0 S.2.1 l3 l4 (S.2.2.1 + (-1)) S.2.2.2 (jpt l0 10) ((S.2.2.1 + (-1)) - 1) h0 (tp_10_10 h0) hf kc kx0 hO (lv_sub hl [2, 3, 4, 5, 0, 6] rfl)
              · have hf := (if_neg c24).symm.trans hf
                refine lv_iconst (v := Int32.ofInt 1) C.1 C.2.1 dX10_weightOf_286 rfl ?_
                refine lv_goto (tgt := 321) C.1 C.2.1 dX10_weightOf_287 (by decide) ?_
                exact w_X10_weightOf_321 C hRf hRl S.1 l0 S.2.1 l3 l4 (S.2.2.1 + (-1)) S.2.2.2 (jpt l0 10) ((S.2.2.1 + (-1)) - 1) 1 h0 (tp_10_10 h0) hf kc kx0 hO (lv_sub hl [2, 3, 4, 5, 0, 6] rfl)
      · have hf := (if_pos c10).symm.trans hf
        refine lv_aload_n C.1 C.2.1 dX10_weightOf_210 rfl (lv_at hl 1 rfl) ?_
        refine j_get C hO (ci := 10) (k := 10) (v := jR G (jpt l0 10)) h0 rfl inlX10 (by decide) kF_6_3 rfl rfl dX10_weightOf_211 ?_
        refine lv_iload C.1 C.2.1 dX10_weightOf_214 (lv_at hl 5 rfl) ?_
        refine lv_iconst (v := Int32.ofInt 1) C.1 C.2.1 dX10_weightOf_216 rfl ?_
        refine j_isub C dX10_weightOf_217 ?_
        refine lv_aload_n C.1 C.2.1 dX10_weightOf_218 rfl (lv_at hl 1 rfl) ?_
        refine j_get C hO (ci := 10) (k := 10) (v := jR G (jpt l0 10)) h0 rfl inlX10 (by decide) kF_6_3 rfl rfl dX10_weightOf_219 ?_
        refine lv_iload C.1 C.2.1 dX10_weightOf_222 (lv_at hl 5 rfl) ?_
        refine lv_iconst (v := Int32.ofInt 1) C.1 C.2.1 dX10_weightOf_224 rfl ?_
        refine j_isub C dX10_weightOf_225 ?_
        obtain ⟨g25, hf⟩ := grd_e hf
        refine j_zald C hO (tp_10_10 h0) rfl g25.1 g25.2 dX10_weightOf_226 ?_
        refine j_if_ne (tgt := 234) C rfl dX10_weightOf_227 (by decide) (fun c26 => ?_) (fun c26 => ?_)
        · have hf := (if_neg c26).symm.trans hf
          refine lv_iconst (v := Int32.ofInt 0) C.1 C.2.1 dX10_weightOf_234 rfl ?_
          exact w_X10_weightOf_235 C hRf hRl S.1 l0 S.2.1 l3 l4 S.2.2.1 S.2.2.2 (jpt l0 10) (S.2.2.1 - 1) 0 h0 (tp_10_10 h0) hf kc kx0 hO (lv_sub hl [1, 2, 3, 4, 5, 6] rfl)
        · have hf := (if_pos c26).symm.trans hf
          refine lv_iconst (v := Int32.ofInt 1) C.1 C.2.1 dX10_weightOf_230 rfl ?_
          refine lv_goto (tgt := 235) C.1 C.2.1 dX10_weightOf_231 (by decide) ?_
          exact w_X10_weightOf_235 C hRf hRl S.1 l0 S.2.1 l3 l4 S.2.2.1 S.2.2.2 (jpt l0 10) (S.2.2.1 - 1) 1 h0 (tp_10_10 h0) hf kc kx0 hO (lv_sub hl [1, 2, 3, 4, 5, 6] rfl)
    · have hf := (if_neg c9).symm.trans hf
      refine lv_aload_n C.1 C.2.1 dX10_weightOf_110 rfl (lv_at hl 1 rfl) ?_
      refine j_get C hO (ci := 10) (k := 9) (v := jR G (jpt l0 9)) h0 rfl inlX10 (by decide) kF_6_1 rfl rfl dX10_weightOf_111 ?_
      refine lv_iload C.1 C.2.1 dX10_weightOf_114 (lv_at hl 0 rfl) ?_
      refine lv_bipush (v := Int32.ofInt 8) C.1 C.2.1 dX10_weightOf_116 (by decide) ?_
      obtain ⟨g30, hf⟩ := grd_e hf
      refine j_irem C g30 dX10_weightOf_118 ?_
      obtain ⟨g31, hf⟩ := grd_e hf
      refine j_iald C hO (tp_10_9 h0) rfl g31.1 g31.2 dX10_weightOf_119 ?_
      refine lv_istore (lv' := [(8, vI (S.1 (jpt l0 9) (w32 ((w32 (S.1 (jpt l0 1) (w32 S.2.2.2))).tmod (w32 8))))), (7, vI (S.1 (jpt l0 1) (w32 S.2.2.2))), (0, jR G l0), (2, vI S.2.1), (3, vI l3), (4, vI l4), (5, vI S.2.2.1), (6, vI S.2.2.2)]) C.1 C.2.1 dX10_weightOf_120 hl (by decide) rfl (fun ls hl => ?_)
      refine lv_iload C.1 C.2.1 dX10_weightOf_122 (lv_at hl 1 rfl) ?_
      refine lv_bipush (v := Int32.ofInt 8) C.1 C.2.1 dX10_weightOf_124 (by decide) ?_
      obtain ⟨g32, hf⟩ := grd_e hf
      refine j_idiv C g32 dX10_weightOf_126 ?_
      refine lv_iconst (v := Int32.ofInt 4) C.1 C.2.1 dX10_weightOf_127 rfl ?_
      obtain ⟨g33, hf⟩ := grd_e hf
      refine j_irem C g33 dX10_weightOf_128 ?_
      refine lv_istore (lv' := [(9, vI ((w32 ((w32 (S.1 (jpt l0 1) (w32 S.2.2.2))).tdiv (w32 8))).tmod (w32 4))), (8, vI (S.1 (jpt l0 9) (w32 ((w32 (S.1 (jpt l0 1) (w32 S.2.2.2))).tmod (w32 8))))), (7, vI (S.1 (jpt l0 1) (w32 S.2.2.2))), (0, jR G l0), (2, vI S.2.1), (3, vI l3), (4, vI l4), (5, vI S.2.2.1), (6, vI S.2.2.2)]) C.1 C.2.1 dX10_weightOf_129 hl (by decide) rfl (fun ls hl => ?_)
      refine lv_iload C.1 C.2.1 dX10_weightOf_131 (lv_at hl 2 rfl) ?_
      refine lv_bipush (v := Int32.ofInt 32) C.1 C.2.1 dX10_weightOf_133 (by decide) ?_
      obtain ⟨g34, hf⟩ := grd_e hf
      refine j_idiv C g34 dX10_weightOf_135 ?_
      refine lv_istore (lv' := [(10, vI ((w32 (S.1 (jpt l0 1) (w32 S.2.2.2))).tdiv (w32 32))), (9, vI ((w32 ((w32 (S.1 (jpt l0 1) (w32 S.2.2.2))).tdiv (w32 8))).tmod (w32 4))), (8, vI (S.1 (jpt l0 9) (w32 ((w32 (S.1 (jpt l0 1) (w32 S.2.2.2))).tmod (w32 8))))), (7, vI (S.1 (jpt l0 1) (w32 S.2.2.2))), (0, jR G l0), (2, vI S.2.1), (3, vI l3), (4, vI l4), (5, vI S.2.2.1), (6, vI S.2.2.2)]) C.1 C.2.1 dX10_weightOf_136 hl (by decide) rfl (fun ls hl => ?_)
      refine lv_aload_n C.1 C.2.1 dX10_weightOf_138 rfl (lv_at hl 4 rfl) ?_
      refine j_get C hO (ci := 10) (k := 10) (v := jR G (jpt l0 10)) h0 rfl inlX10 (by decide) kF_6_3 rfl rfl dX10_weightOf_139 ?_
      refine lv_iload C.1 C.2.1 dX10_weightOf_142 (lv_at hl 8 rfl) ?_
      refine lv_iload C.1 C.2.1 dX10_weightOf_144 (lv_at hl 1 rfl) ?_
      refine j_if_ne (tgt := 164) C rfl dX10_weightOf_146 (by decide) (fun c35 => ?_) (fun c35 => ?_)
      · have hf := (if_neg c35).symm.trans hf
        refine lv_iload C.1 C.2.1 dX10_weightOf_164 (lv_at hl 1 rfl) ?_
        refine lv_iconst (v := Int32.ofInt 1) C.1 C.2.1 dX10_weightOf_166 rfl ?_
        refine j_icmp_ne (tgt := 185) C rfl (w32_id (by decide) (by decide)) dX10_weightOf_167 (by decide) (fun c36 => ?_) (fun c36 => ?_)
        · have hf := (if_neg c36).symm.trans hf
          refine lv_iload C.1 C.2.1 dX10_weightOf_185 (lv_at hl 2 rfl) ?_
          refine lv_iload C.1 C.2.1 dX10_weightOf_187 (lv_at hl 0 rfl) ?_
          refine j_icmp_le (tgt := 196) C rfl rfl dX10_weightOf_189 (by decide) (fun c37 => ?_) (fun c37 => ?_)
          · have hf := (if_pos c37).symm.trans hf
            refine lv_iconst (v := Int32.ofInt 0) C.1 C.2.1 dX10_weightOf_196 rfl ?_
            exact w_X10_weightOf_197 C hRf hRl S.1 l0 S.2.1 l3 l4 S.2.2.1 S.2.2.2 (jpt l0 10) S.2.2.1 0 h0 (tp_10_10 h0) hf kc kx0 hO (lv_sub hl [4, 5, 6, 7, 8, 9] rfl)
          · have hf := (if_neg c37).symm.trans hf
            refine lv_iconst (v := Int32.ofInt 1) C.1 C.2.1 dX10_weightOf_192 rfl ?_
            refine lv_goto (tgt := 197) C.1 C.2.1 dX10_weightOf_193 (by decide) ?_
            exact w_X10_weightOf_197 C hRf hRl S.1 l0 S.2.1 l3 l4 S.2.2.1 S.2.2.2 (jpt l0 10) S.2.2.1 1 h0 (tp_10_10 h0) hf kc kx0 hO (lv_sub hl [4, 5, 6, 7, 8, 9] rfl)
        · have hf := (if_pos c36).symm.trans hf
          refine lv_iload C.1 C.2.1 dX10_weightOf_170 (lv_at hl 2 rfl) ?_
          refine lv_iload C.1 C.2.1 dX10_weightOf_172 (lv_at hl 0 rfl) ?_
          refine j_icmp_ne (tgt := 181) C rfl rfl dX10_weightOf_174 (by decide) (fun c41 => ?_) (fun c41 => ?_)
          · have hf := (if_neg c41).symm.trans hf
            refine lv_iconst (v := Int32.ofInt 0) C.1 C.2.1 dX10_weightOf_181 rfl ?_
            refine lv_goto (tgt := 197) C.1 C.2.1 dX10_weightOf_182 (by decide) ?_
            exact w_X10_weightOf_197 C hRf hRl S.1 l0 S.2.1 l3 l4 S.2.2.1 S.2.2.2 (jpt l0 10) S.2.2.1 0 h0 (tp_10_10 h0) hf kc kx0 hO (lv_sub hl [4, 5, 6, 7, 8, 9] rfl)
          · have hf := (if_pos c41).symm.trans hf
            refine lv_iconst (v := Int32.ofInt 1) C.1 C.2.1 dX10_weightOf_177 rfl ?_
            refine lv_goto (tgt := 197) C.1 C.2.1 dX10_weightOf_178 (by decide) ?_
            exact w_X10_weightOf_197 C hRf hRl S.1 l0 S.2.1 l3 l4 S.2.2.1 S.2.2.2 (jpt l0 10) S.2.2.1 1 h0 (tp_10_10 h0) hf kc kx0 hO (lv_sub hl [4, 5, 6, 7, 8, 9] rfl)
      · have hf := (if_pos c35).symm.trans hf
        refine lv_iload C.1 C.2.1 dX10_weightOf_149 (lv_at hl 2 rfl) ?_
        refine lv_iload C.1 C.2.1 dX10_weightOf_151 (lv_at hl 0 rfl) ?_
        refine j_icmp_ge (tgt := 160) C rfl rfl dX10_weightOf_153 (by decide) (fun c42 => ?_) (fun c42 => ?_)
        · have hf := (if_pos c42).symm.trans hf
          refine lv_iconst (v := Int32.ofInt 0) C.1 C.2.1 dX10_weightOf_160 rfl ?_
          refine lv_goto (tgt := 197) C.1 C.2.1 dX10_weightOf_161 (by decide) ?_
          exact w_X10_weightOf_197 C hRf hRl S.1 l0 S.2.1 l3 l4 S.2.2.1 S.2.2.2 (jpt l0 10) S.2.2.1 0 h0 (tp_10_10 h0) hf kc kx0 hO (lv_sub hl [4, 5, 6, 7, 8, 9] rfl)
        · have hf := (if_neg c42).symm.trans hf
          refine lv_iconst (v := Int32.ofInt 1) C.1 C.2.1 dX10_weightOf_156 rfl ?_
          refine lv_goto (tgt := 197) C.1 C.2.1 dX10_weightOf_157 (by decide) ?_
          exact w_X10_weightOf_197 C hRf hRl S.1 l0 S.2.1 l3 l4 S.2.2.1 S.2.2.2 (jpt l0 10) S.2.2.1 1 h0 (tp_10_10 h0) hf kc kx0 hO (lv_sub hl [4, 5, 6, 7, 8, 9] rfl)
set_option maxHeartbeats 4000000 in
theorem w_X10_weightOf_22 {p : Program} {l : Launch} {e : Env} {R : Room} {s : State} {m : MethodId} {args : Array Value} {below : List Frame} {meth : Method} {c : Code} {H : Heap} {locs : List Loc} {ls : Array Slot} {G : jG}  (C : jCx p s m args meth c cX10_weightOf 11 RX10 (Cond.code yX10_weightOf cX10_weightOf 11 (some .int)) (some .int)) (hRf : 2 ≤ R.frames) (hRl : 42 ≤ R.locals)  (M : jM) (l0 l1 : Int) (h0 : jkd l0 = (10, 0)) {fin : Int × jM} (hf : f_X10_weightOf_22 M l0 l1 = some fin) (hO : jOk G M s H locs) (hl : lv_has ls 11 [(0, jR G l0), (1, vI l1)]) : W p l e R s m args below meth c H locs 0 0 (MQ below (jQ G (some (vI fin.1)) fin.2) args s 0 0 (jA G)) (F0 m 22 ls []) := by
  unfold f_X10_weightOf_22 at hf
  refine lv_aload_n C.1 C.2.1 dX10_weightOf_22 rfl (lv_at hl 0 rfl) ?_
  refine j_get C hO (ci := 10) (k := 9) (v := jR G (jpt l0 9)) h0 rfl inlX10 (by decide) kF_6_1 rfl rfl dX10_weightOf_23 ?_
  refine lv_iconst (v := Int32.ofInt 0) C.1 C.2.1 dX10_weightOf_26 rfl ?_
  refine lv_iload_n C.1 C.2.1 dX10_weightOf_27 rfl (lv_at hl 1 rfl) ?_
  obtain ⟨M2, hM2, hf⟩ := lt1_e hf
  refine j_iast C hO (x := l1) (tp_10_9 h0) (w32_id (by decide) (by decide)) (by decide) (by decide) dX10_weightOf_28 (fun H locs hO => ?_)
  rw [← hM2] at hO
  refine lv_aload_n C.1 C.2.1 dX10_weightOf_29 rfl (lv_at hl 0 rfl) ?_
  refine j_get C hO (ci := 10) (k := 9) (v := jR G (jpt l0 9)) h0 rfl inlX10 (by decide) kF_6_1 rfl rfl dX10_weightOf_30 ?_
  refine lv_iconst (v := Int32.ofInt 1) C.1 C.2.1 dX10_weightOf_33 rfl ?_
  refine lv_aload_n C.1 C.2.1 dX10_weightOf_34 rfl (lv_at hl 0 rfl) ?_
  obtain ⟨r3, hr3, hf⟩ := bnd_e hf
  refine j_callV C hO (n := 0) (As := []) (st1 := [vI r3, vI 1, jR G (jpt l0 9)]) (c_X10_signs l G M2 l0 h0 hr3) h0 rfl kC_16_17 kM_16_14 kI_16_15 kS_16_16 kN_1_5 ⟨by decide, by decide, by decide⟩ ⟨Nat.le_trans (by decide) hRf, Nat.le_trans (by decide) hRl⟩ rfl rfl rfl hl.1 rfl (Nat.le_of_ble_eq_true rfl) ⟨Nat.zero_le _, Nat.zero_le _⟩ dX10_weightOf_35 rfl (fun H locs hO => ?_)
  obtain ⟨M4, hM4, hf⟩ := lt1_e hf
  refine j_iast C hO (x := r3) (tp_10_9 h0) (w32_id (by decide) (by decide)) (by decide) (by decide) dX10_weightOf_38 (fun H locs hO => ?_)
  rw [← hM4] at hO
  refine lv_aload_n C.1 C.2.1 dX10_weightOf_39 rfl (lv_at hl 0 rfl) ?_
  refine j_get C hO (ci := 10) (k := 9) (v := jR G (jpt l0 9)) h0 rfl inlX10 (by decide) kF_6_1 rfl rfl dX10_weightOf_40 ?_
  refine lv_iconst (v := Int32.ofInt 2) C.1 C.2.1 dX10_weightOf_43 rfl ?_
  refine lv_aload_n C.1 C.2.1 dX10_weightOf_44 rfl (lv_at hl 0 rfl) ?_
  refine j_get C hO (ci := 10) (k := 1) (v := jR G (jpt l0 1)) h0 rfl inlX10 (by decide) kF_5_23 rfl rfl dX10_weightOf_45 ?_
  refine lv_bipush (v := Int32.ofInt 7) C.1 C.2.1 dX10_weightOf_48 (by decide) ?_
  refine j_iald C hO (tp_10_1 h0) (w32_id (by decide) (by decide)) (by decide) (by decide) dX10_weightOf_50 ?_
  obtain ⟨M5, hM5, hf⟩ := lt1_e hf
  refine j_iast C hO (x := M4 (jpt l0 1) 7) (tp_10_9 h0) (w32_id (by decide) (by decide)) (by decide) (by decide) dX10_weightOf_51 (fun H locs hO => ?_)
  rw [← hM5] at hO
  refine lv_iconst (v := Int32.ofInt 1) C.1 C.2.1 dX10_weightOf_52 rfl ?_
  refine lv_istore_n (lv' := [(2, vI 1), (0, jR G l0), (1, vI l1)]) C.1 C.2.1 dX10_weightOf_53 rfl hl (by decide) rfl (fun ls hl => ?_)
  refine lv_aload_n C.1 C.2.1 dX10_weightOf_54 rfl (lv_at hl 1 rfl) ?_
  refine lv_sipush (v := Int32.ofInt 247) C.1 C.2.1 dX10_weightOf_55 (by decide) ?_
  refine lv_iconst (v := Int32.ofInt 0) C.1 C.2.1 dX10_weightOf_58 rfl ?_
  obtain ⟨r6, hr6, hf⟩ := bnd_e hf
  refine j_callV C hO (n := 2) (As := [vI 247, vI 0]) (st1 := [vI r6]) (c_X10_tellsOf l G M5 l0 247 0 h0 hr6) h0 rfl kC_16_21 kM_16_18 kI_16_19 kS_16_20 kN_1_5 ⟨by decide, by decide, by decide⟩ ⟨Nat.le_trans (by decide) hRf, Nat.le_trans (by decide) hRl⟩ rfl rfl rfl hl.1 rfl (Nat.le_of_ble_eq_true rfl) ⟨Nat.zero_le _, Nat.zero_le _⟩ dX10_weightOf_59 rfl (fun H locs hO => ?_)
  refine lv_istore_n (lv' := [(3, vI r6), (2, vI 1), (0, jR G l0), (1, vI l1)]) C.1 C.2.1 dX10_weightOf_62 rfl hl (by decide) rfl (fun ls hl => ?_)
  refine lv_sipush (v := Int32.ofInt 252) C.1 C.2.1 dX10_weightOf_63 (by decide) ?_
  refine lv_sipush (v := Int32.ofInt 140) C.1 C.2.1 dX10_weightOf_66 (by decide) ?_
  refine lv_aload_n C.1 C.2.1 dX10_weightOf_69 rfl (lv_at hl 2 rfl) ?_
  refine j_get C hO (ci := 10) (k := 1) (v := jR G (jpt l0 1)) h0 rfl inlX10 (by decide) kF_5_23 rfl rfl dX10_weightOf_70 ?_
  refine lv_bipush (v := Int32.ofInt 6) C.1 C.2.1 dX10_weightOf_73 (by decide) ?_
  refine j_iald C hO (tp_10_1 h0) (w32_id (by decide) (by decide)) (by decide) (by decide) dX10_weightOf_75 ?_
  refine j_imul C dX10_weightOf_76 ?_
  refine j_iadd C dX10_weightOf_77 ?_
  refine lv_istore (lv' := [(4, vI (252 + (140 * (M5 (jpt l0 1) 6)))), (3, vI r6), (2, vI 1), (0, jR G l0), (1, vI l1)]) C.1 C.2.1 dX10_weightOf_78 hl (by decide) rfl (fun ls hl => ?_)
  refine lv_iconst (v := Int32.ofInt 0) C.1 C.2.1 dX10_weightOf_80 rfl ?_
  refine lv_istore (lv' := [(5, vI 0), (4, vI (252 + (140 * (M5 (jpt l0 1) 6)))), (3, vI r6), (2, vI 1), (0, jR G l0), (1, vI l1)]) C.1 C.2.1 dX10_weightOf_81 hl (by decide) rfl (fun ls hl => ?_)
  refine lv_iload C.1 C.2.1 dX10_weightOf_83 (lv_at hl 1 rfl) ?_
  refine lv_istore (lv' := [(6, vI (252 + (140 * (M5 (jpt l0 1) 6)))), (5, vI 0), (4, vI (252 + (140 * (M5 (jpt l0 1) 6)))), (3, vI r6), (2, vI 1), (0, jR G l0), (1, vI l1)]) C.1 C.2.1 dX10_weightOf_85 hl (by decide) rfl (fun ls hl => ?_)
  obtain ⟨x43, hx43, hf⟩ := bnd_e hf
  refine iter_e (P := fun Z => ∀ (H : Heap) (locs : List Loc) (ls : Array Slot), jOk G Z.1 s H locs → lv_has ls 11 [(0, jR G l0), (2, vI Z.2.1), (3, vI r6), (4, vI (252 + (140 * (M5 (jpt l0 1) 6)))), (5, vI Z.2.2.1), (6, vI Z.2.2.2)] → W p l e R s m args below meth c H locs 0 0 (MQ below (jQ G (some (vI fin.1)) fin.2) args s 0 0 (jA G)) (F0 m 87 ls [])) (E := fun q => ∀ (H : Heap) (locs : List Loc) (ls : Array Slot), jOk G q.1 s H locs → lv_has ls 11 [(2, vI q.2)] → W p l e R s m args below meth c H locs 0 0 (MQ below (jQ G (some (vI fin.1)) fin.2) args s 0 0 (jA G)) (F0 m 355 ls [])) (fun Z rr hb kc kx H locs ls hO hl => w_X10_weightOf_L87 C hRf hRl M5 l0 r6 (252 + (140 * (M5 (jpt l0 1) 6))) h0 Z hb kc (fun q e => kx q e) hO hl) 5000 (M5, 1, 0, 252 + (140 * (M5 (jpt l0 1) 6))) x43 hx43 ?_ _ _ _ hO (lv_sub hl [5, 4, 3, 2, 1, 0] rfl)
  clear hO hl
  intro H locs ls hO hl
  refine lv_iload_n C.1 C.2.1 dX10_weightOf_355 rfl (lv_at hl 0 rfl) ?_
  refine lv_iconst (v := Int32.ofInt 4) C.1 C.2.1 dX10_weightOf_356 rfl ?_
  refine j_icmp_le (tgt := 364) C rfl (w32_id (by decide) (by decide)) dX10_weightOf_357 (by decide) (fun c44 => ?_) (fun c44 => ?_)
  · have hf := (if_pos c44).symm.trans hf
    refine lv_iload_n C.1 C.2.1 dX10_weightOf_364 rfl (lv_at hl 0 rfl) ?_
    have hf := som_e hf
    subst hf
    exact j_iret C hO dX10_weightOf_365
  · have hf := (if_neg c44).symm.trans hf
    refine lv_iconst (v := Int32.ofInt 4) C.1 C.2.1 dX10_weightOf_360 rfl ?_
    refine lv_goto (tgt := 365) C.1 C.2.1 dX10_weightOf_361 (by decide) ?_
    have hf := som_e hf
    subst hf
    exact j_iret C hO dX10_weightOf_365
set_option maxHeartbeats 4000000 in
theorem w_X10_weightOf {p : Program} {l : Launch} {e : Env} {R : Room} {s : State} {m : MethodId} {args : Array Value} {below : List Frame} {meth : Method} {c : Code} {H : Heap} {locs : List Loc} {ls : Array Slot} {G : jG}  (C : jCx p s m args meth c cX10_weightOf 11 RX10 (Cond.code yX10_weightOf cX10_weightOf 11 (some .int)) (some .int)) (hRf : 2 ≤ R.frames) (hRl : 42 ≤ R.locals)  (M : jM) (l0 l1 : Int) (h0 : jkd l0 = (10, 0)) {fin : Int × jM} (hf : f_X10_weightOf M l0 l1 = some fin) (hO : jOk G M s H locs) (hl : lv_has ls 11 [(0, jR G l0), (1, vI l1)]) : W p l e R s m args below meth c H locs 0 0 (MQ below (jQ G (some (vI fin.1)) fin.2) args s 0 0 (jA G)) (F0 m 0 ls []) := by
  unfold f_X10_weightOf at hf
  refine lv_iload_n C.1 C.2.1 dX10_weightOf_0 rfl (lv_at hl 1 rfl) ?_
  refine j_if_ne (tgt := 22) C rfl dX10_weightOf_1 (by decide) (fun c1 => ?_) (fun c1 => ?_)
  · have hf := (if_neg c1).symm.trans hf
    exact w_X10_weightOf_22 C hRf hRl M l0 l1 h0 hf hO (lv_sub hl [0, 1] rfl)
  · have hf := (if_pos c1).symm.trans hf
    refine lv_aload_n C.1 C.2.1 dX10_weightOf_4 rfl (lv_at hl 0 rfl) ?_
    refine j_get C hO (ci := 10) (k := 1) (v := jR G (jpt l0 1)) h0 rfl inlX10 (by decide) kF_5_23 rfl rfl dX10_weightOf_5 ?_
    refine lv_bipush (v := Int32.ofInt 8) C.1 C.2.1 dX10_weightOf_8 (by decide) ?_
    refine j_iald C hO (tp_10_1 h0) (w32_id (by decide) (by decide)) (by decide) (by decide) dX10_weightOf_10 ?_
    refine j_if_le (tgt := 22) C rfl dX10_weightOf_11 (by decide) (fun c45 => ?_) (fun c45 => ?_)
    · have hf := (if_pos c45).symm.trans hf
      exact w_X10_weightOf_22 C hRf hRl M l0 l1 h0 hf hO (lv_sub hl [0, 1] rfl)
    · have hf := (if_neg c45).symm.trans hf
      refine lv_aload_n C.1 C.2.1 dX10_weightOf_14 rfl (lv_at hl 0 rfl) ?_
      refine j_get C hO (ci := 10) (k := 1) (v := jR G (jpt l0 1)) h0 rfl inlX10 (by decide) kF_5_23 rfl rfl dX10_weightOf_15 ?_
      refine lv_bipush (v := Int32.ofInt 8) C.1 C.2.1 dX10_weightOf_18 (by decide) ?_
      refine j_iald C hO (tp_10_1 h0) (w32_id (by decide) (by decide)) (by decide) (by decide) dX10_weightOf_20 ?_
      have hf := som_e hf
      subst hf
      exact j_iret C hO dX10_weightOf_21
set_option maxHeartbeats 1000000 in
theorem c_X10_weightOf (l : Launch) (G : jG)  (M : jM) (l0 l1 : Int) (h0 : jkd l0 = (10, 0)) {fin : Int × jM} (h : f_X10_weightOf M l0 l1 = some fin) : Met l yX10_weightOf (Cond.code yX10_weightOf cX10_weightOf 11 (some .int) :: wsL_law) ({ frames := 2, cells := 0, slots := 0, locals := 42 } : Room) (va_Pc [jR G l0, vI l1] (fun U => jRep G M U)) (jQ G (some (vI fin.1)) fin.2) 0 0 (jA G) := by
  refine Met.ofW (cc := cX10_weightOf) (maxL := 11) (ret := (some .int)) (by decide) rfl ?_
  intro p e s m args below meth c s₁ B hml hv
  obtain ⟨rfl, hR0⟩ := hv
  have C : jCx p s m ([jR G l0, vI l1] : List Value).toArray meth c cX10_weightOf 11 RX10 (Cond.code yX10_weightOf cX10_weightOf 11 (some .int)) (some .int) := ⟨B.exec, B.bytes, hml, findClass_of_methodNamed B.named, atoms_spec B.pre, B.returns, B.notSynchronized⟩
  have hO := hR0.ok
  have hl := lv_entry ([jR G l0, vI l1]) (n := 11) (Nat.le_of_ble_eq_true rfl)
  rw [lg_entry_eq]
  generalize (lg_sl ([jR G l0, vI l1]) ++ List.replicate (11 - (lg_sl ([jR G l0, vI l1])).length) Slot.unset).toArray = ls at hl ⊢
  have hl : lv_has ls 11 [(0, jR G l0), (1, vI l1)] := hl
  exact w_X10_weightOf C (Nat.le_refl _) (Nat.le_refl _) M l0 l1 h0 h hO hl
set_option maxHeartbeats 4000000 in
theorem w_X10_looksForWeights_L7 {p : Program} {l : Launch} {e : Env} {R : Room} {s : State} {m : MethodId} {args : Array Value} {below : List Frame} {meth : Method} {c : Code} {H : Heap} {locs : List Loc} {ls : Array Slot} {G : jG}  (C : jCx p s m args meth c cX10_looksForWeights 2 RX10 (Cond.code yX10_looksForWeights cX10_looksForWeights 2 none) none) (hRf : 3 ≤ R.frames) (hRl : 72 ≤ R.locals)  (M : jM) (l0 : Int) (h0 : jkd l0 = (10, 0)) {fin : jM} (S : jM × Int) {rr : (jM × Int) ⊕ jM} (hf : f_X10_looksForWeights_L7 M l0 S = some rr) (kc : ∀ q : jM × Int, rr = .inl q → ∀ (H : Heap) (locs : List Loc) (ls : Array Slot), jOk G q.1 s H locs → lv_has ls 2 [(0, jR G l0), (1, vI q.2)] → W p l e R s m args below meth c H locs 0 0 (MQ below (jQ G none fin) args s 0 0 (jA G)) (F0 m 7 ls [])) (kx0 : ∀ q : jM, rr = .inr q → ∀ (H : Heap) (locs : List Loc) (ls : Array Slot), jOk G q s H locs → lv_has ls 2 [] → W p l e R s m args below meth c H locs 0 0 (MQ below (jQ G none fin) args s 0 0 (jA G)) (F0 m 47 ls [])) (hO : jOk G S.1 s H locs) (hl : lv_has ls 2 [(0, jR G l0), (1, vI S.2)]) : W p l e R s m args below meth c H locs 0 0 (MQ below (jQ G none fin) args s 0 0 (jA G)) (F0 m 7 ls []) := by
  unfold f_X10_looksForWeights_L7 at hf
  refine lv_iload_n C.1 C.2.1 dX10_looksForWeights_7 rfl (lv_at hl 1 rfl) ?_
  refine lv_aload_n C.1 C.2.1 dX10_looksForWeights_8 rfl (lv_at hl 0 rfl) ?_
  obtain ⟨r2, hr2, hf⟩ := bnd_e hf
  refine j_callV C hO (n := 0) (As := []) (st1 := [vI r2, vI S.2]) (c_X10_signs l G S.1 l0 h0 hr2) h0 rfl kC_16_17 kM_16_14 kI_16_15 kS_16_16 kN_1_5 ⟨by decide, by decide, by decide⟩ ⟨Nat.le_trans (by decide) hRf, Nat.le_trans (by decide) hRl⟩ rfl rfl rfl hl.1 rfl (Nat.le_of_ble_eq_true rfl) ⟨Nat.zero_le _, Nat.zero_le _⟩ dX10_looksForWeights_9 rfl (fun H locs hO => ?_)
  refine j_icmp_ge (tgt := 47) C rfl rfl dX10_looksForWeights_12 (by decide) (fun c3 => ?_) (fun c3 => ?_)
  · have hf := (if_pos c3).symm.trans hf
    exact kx0 _ (som_e hf).symm _ _ _ hO (lv_sub hl [] rfl)
  · have hf := (if_neg c3).symm.trans hf
    refine lv_aload_n C.1 C.2.1 dX10_looksForWeights_15 rfl (lv_at hl 0 rfl) ?_
    refine j_get C hO (ci := 10) (k := 11) (v := jR G (jpt l0 11)) h0 rfl inlX10 (by decide) kF_6_4 rfl rfl dX10_looksForWeights_16 ?_
    refine lv_iload_n C.1 C.2.1 dX10_looksForWeights_19 rfl (lv_at hl 1 rfl) ?_
    refine lv_aload_n C.1 C.2.1 dX10_looksForWeights_20 rfl (lv_at hl 0 rfl) ?_
    refine lv_iload_n C.1 C.2.1 dX10_looksForWeights_21 rfl (lv_at hl 1 rfl) ?_
    obtain ⟨r4, hr4, hf⟩ := bnd_e hf
    refine j_callV C hO (n := 1) (As := [vI S.2]) (st1 := [vI r4.1, vI S.2, jR G (jpt l0 11)]) (c_X10_weightOf l G S.1 l0 S.2 h0 hr4) h0 rfl kC_17_1 kM_16_22 kI_16_23 kS_17_0 kN_1_5 ⟨by decide, by decide, by decide⟩ ⟨Nat.le_trans (by decide) hRf, Nat.le_trans (by decide) hRl⟩ rfl rfl rfl hl.1 rfl (Nat.le_of_ble_eq_true rfl) ⟨Nat.zero_le _, Nat.zero_le _⟩ dX10_looksForWeights_22 rfl (fun H locs hO => ?_)
    obtain ⟨g5, hf⟩ := grd_e hf
    obtain ⟨M6, hM6, hf⟩ := lt1_e hf
    refine j_iast C hO (x := r4.1) (tp_10_11 h0) rfl g5.1 g5.2 dX10_looksForWeights_25 (fun H locs hO => ?_)
    rw [← hM6] at hO
    refine lv_aload_n C.1 C.2.1 dX10_looksForWeights_26 rfl (lv_at hl 0 rfl) ?_
    refine lv_dup C.1 C.2.1 dX10_looksForWeights_27 rfl ?_
    refine j_get C hO (ci := 10) (k := 12) (v := vI (M6 l0 12)) h0 rfl inlX10 (by decide) kF_16_9 rfl rfl dX10_looksForWeights_28 ?_
    refine lv_aload_n C.1 C.2.1 dX10_looksForWeights_31 rfl (lv_at hl 0 rfl) ?_
    refine j_get C hO (ci := 10) (k := 11) (v := jR G (jpt l0 11)) h0 rfl inlX10 (by decide) kF_6_4 rfl rfl dX10_looksForWeights_32 ?_
    refine lv_iload_n C.1 C.2.1 dX10_looksForWeights_35 rfl (lv_at hl 1 rfl) ?_
    obtain ⟨g7, hf⟩ := grd_e hf
    refine j_iald C hO (tp_10_11 h0) rfl g7.1 g7.2 dX10_looksForWeights_36 ?_
    refine j_iadd C dX10_looksForWeights_37 ?_
    obtain ⟨M8, hM8, hf⟩ := lt1_e hf
    refine j_put C hO (ci := 10) (k := 12) (x := (M6 l0 12) + (M6 (jpt l0 11) (w32 S.2))) h0 rfl inlX10 tyX10_ok nmX10 (by decide) kF_16_9 rfl rfl rfl rfl (by simp [jfl]) (fs_10_12) dX10_looksForWeights_38 (fun H locs hO => ?_)
    rw [← hM8] at hO
    refine lv_iinc (v := Int32.ofInt (S.2 + 1)) (lv' := [(1, vI (S.2 + 1)), (0, jR G l0)]) C.1 C.2.1 dX10_looksForWeights_41 hl (k := 1) rfl (Int32.ofInt_add _ _).symm (by decide) rfl (fun ls hl => ?_)
    refine lv_goto (tgt := 7) C.1 C.2.1 dX10_looksForWeights_44 (by decide) ?_
    exact kc _ (som_e hf).symm _ _ _ hO (lv_sub hl [1, 0] rfl)
set_option maxHeartbeats 4000000 in
theorem w_X10_looksForWeights {p : Program} {l : Launch} {e : Env} {R : Room} {s : State} {m : MethodId} {args : Array Value} {below : List Frame} {meth : Method} {c : Code} {H : Heap} {locs : List Loc} {ls : Array Slot} {G : jG}  (C : jCx p s m args meth c cX10_looksForWeights 2 RX10 (Cond.code yX10_looksForWeights cX10_looksForWeights 2 none) none) (hRf : 3 ≤ R.frames) (hRl : 72 ≤ R.locals)  (M : jM) (l0 : Int) (h0 : jkd l0 = (10, 0)) {fin : jM} (hf : f_X10_looksForWeights M l0 = some fin) (hO : jOk G M s H locs) (hl : lv_has ls 2 [(0, jR G l0)]) : W p l e R s m args below meth c H locs 0 0 (MQ below (jQ G none fin) args s 0 0 (jA G)) (F0 m 0 ls []) := by
  unfold f_X10_looksForWeights at hf
  refine lv_aload_n C.1 C.2.1 dX10_looksForWeights_0 rfl (lv_at hl 0 rfl) ?_
  refine lv_iconst (v := Int32.ofInt 0) C.1 C.2.1 dX10_looksForWeights_1 rfl ?_
  obtain ⟨M1, hM1, hf⟩ := lt1_e hf
  refine j_put C hO (ci := 10) (k := 12) (x := 0) h0 rfl inlX10 tyX10_ok nmX10 (by decide) kF_16_9 rfl rfl rfl rfl (by simp [jfl]) (fs_10_12) dX10_looksForWeights_2 (fun H locs hO => ?_)
  rw [← hM1] at hO
  refine lv_iconst (v := Int32.ofInt 0) C.1 C.2.1 dX10_looksForWeights_5 rfl ?_
  refine lv_istore_n (lv' := [(1, vI 0), (0, jR G l0)]) C.1 C.2.1 dX10_looksForWeights_6 rfl hl (by decide) rfl (fun ls hl => ?_)
  obtain ⟨x9, hx9, hf⟩ := bnd_e hf
  refine iter_e (P := fun Z => ∀ (H : Heap) (locs : List Loc) (ls : Array Slot), jOk G Z.1 s H locs → lv_has ls 2 [(0, jR G l0), (1, vI Z.2)] → W p l e R s m args below meth c H locs 0 0 (MQ below (jQ G none fin) args s 0 0 (jA G)) (F0 m 7 ls [])) (E := fun q => ∀ (H : Heap) (locs : List Loc) (ls : Array Slot), jOk G q s H locs → lv_has ls 2 [] → W p l e R s m args below meth c H locs 0 0 (MQ below (jQ G none fin) args s 0 0 (jA G)) (F0 m 47 ls [])) (fun Z rr hb kc kx H locs ls hO hl => w_X10_looksForWeights_L7 C hRf hRl M1 l0 h0 Z hb kc (fun q e => kx q e) hO hl) 5000 (M1, 0) x9 hx9 ?_ _ _ _ hO (lv_sub hl [1, 0] rfl)
  clear hO hl
  intro H locs ls hO hl
  have hf := som_e hf
  subst hf
  exact j_vret C hO dX10_looksForWeights_47
set_option maxHeartbeats 1000000 in
theorem c_X10_looksForWeights (l : Launch) (G : jG)  (M : jM) (l0 : Int) (h0 : jkd l0 = (10, 0)) {fin : jM} (h : f_X10_looksForWeights M l0 = some fin) : Met l yX10_looksForWeights (Cond.code yX10_looksForWeights cX10_looksForWeights 2 none :: wsL_law) ({ frames := 3, cells := 0, slots := 0, locals := 72 } : Room) (va_Pc [jR G l0] (fun U => jRep G M U)) (jQ G none fin) 0 0 (jA G) := by
  refine Met.ofW (cc := cX10_looksForWeights) (maxL := 2) (ret := none) (by decide) rfl ?_
  intro p e s m args below meth c s₁ B hml hv
  obtain ⟨rfl, hR0⟩ := hv
  have C : jCx p s m ([jR G l0] : List Value).toArray meth c cX10_looksForWeights 2 RX10 (Cond.code yX10_looksForWeights cX10_looksForWeights 2 none) none := ⟨B.exec, B.bytes, hml, findClass_of_methodNamed B.named, atoms_spec B.pre, B.returns, B.notSynchronized⟩
  have hO := hR0.ok
  have hl := lv_entry ([jR G l0]) (n := 2) (Nat.le_of_ble_eq_true rfl)
  rw [lg_entry_eq]
  generalize (lg_sl ([jR G l0]) ++ List.replicate (2 - (lg_sl ([jR G l0])).length) Slot.unset).toArray = ls at hl ⊢
  have hl : lv_has ls 2 [(0, jR G l0)] := hl
  exact w_X10_looksForWeights C (Nat.le_refl _) (Nat.le_refl _) M l0 h0 h hO hl
set_option maxHeartbeats 4000000 in
theorem w_X10_day {p : Program} {l : Launch} {e : Env} {R : Room} {s : State} {m : MethodId} {args : Array Value} {below : List Frame} {meth : Method} {c : Code} {H : Heap} {locs : List Loc} {ls : Array Slot} {G : jG}  (C : jCx p s m args meth c cX10_day 3 RX10 (Cond.code yX10_day cX10_day 3 (some .int)) (some .int)) (hRf : 1 ≤ R.frames) (hRl : 22 ≤ R.locals)  (M : jM) (l0 l1 : Int) (h0 : jkd l0 = (10, 0)) {fin : Int × jM} (hf : f_X10_day M l0 l1 = some fin) (hO : jOk G M s H locs) (hl : lv_has ls 3 [(0, jR G l0), (1, vI l1)]) : W p l e R s m args below meth c H locs 0 0 (MQ below (jQ G (some (vI fin.1)) fin.2) args s 0 0 (jA G)) (F0 m 0 ls []) := by
  unfold f_X10_day at hf
  refine lv_iload_n C.1 C.2.1 dX10_day_0 rfl (lv_at hl 1 rfl) ?_
  refine lv_iconst (v := Int32.ofInt 0) C.1 C.2.1 dX10_day_1 rfl ?_
  refine lv_bipush (v := Int32.ofInt 9) C.1 C.2.1 dX10_day_2 (by decide) ?_
  obtain ⟨r1, hr1, hf⟩ := bnd_e hf
  refine j_callS C hO (n := 3) (As := [vI l1, vI 0, vI 9]) (st1 := [vI r1]) (c_X10_in l G M l1 0 9  hr1) kC_7_1 kM_6_23 kT_7_0 kN_1_5 ⟨by decide, by decide, by decide⟩ ⟨Nat.le_trans (by decide) hRf, Nat.le_trans (by decide) hRl⟩ rfl rfl rfl hl.1 rfl (Nat.le_of_ble_eq_true rfl) ⟨Nat.zero_le _, Nat.zero_le _⟩ dX10_day_4 rfl (fun H locs hO => ?_)
  refine j_if_ne (tgt := 13) C rfl dX10_day_7 (by decide) (fun c2 => ?_) (fun c2 => ?_)
  · have hf := (if_neg c2).symm.trans hf
    refine lv_aload_n C.1 C.2.1 dX10_day_13 rfl (lv_at hl 0 rfl) ?_
    refine j_get C hO (ci := 10) (k := 1) (v := jR G (jpt l0 1)) h0 rfl inlX10 (by decide) kF_5_23 rfl rfl dX10_day_14 ?_
    refine lv_bipush (v := Int32.ofInt 7) C.1 C.2.1 dX10_day_17 (by decide) ?_
    refine j_iald C hO (tp_10_1 h0) (w32_id (by decide) (by decide)) (by decide) (by decide) dX10_day_19 ?_
    refine lv_istore_n (lv' := [(2, vI (M (jpt l0 1) 7)), (0, jR G l0), (1, vI l1)]) C.1 C.2.1 dX10_day_20 rfl hl (by decide) rfl (fun ls hl => ?_)
    refine lv_aload_n C.1 C.2.1 dX10_day_21 rfl (lv_at hl 1 rfl) ?_
    refine j_get C hO (ci := 10) (k := 1) (v := jR G (jpt l0 1)) h0 rfl inlX10 (by decide) kF_5_23 rfl rfl dX10_day_22 ?_
    refine lv_bipush (v := Int32.ofInt 7) C.1 C.2.1 dX10_day_25 (by decide) ?_
    refine lv_iload_n C.1 C.2.1 dX10_day_27 rfl (lv_at hl 2 rfl) ?_
    obtain ⟨M3, hM3, hf⟩ := lt1_e hf
    refine j_iast C hO (x := l1) (tp_10_1 h0) (w32_id (by decide) (by decide)) (by decide) (by decide) dX10_day_28 (fun H locs hO => ?_)
    rw [← hM3] at hO
    refine lv_iload_n C.1 C.2.1 dX10_day_29 rfl (lv_at hl 0 rfl) ?_
    have hf := som_e hf
    subst hf
    exact j_iret C hO dX10_day_30
  · have hf := (if_pos c2).symm.trans hf
    refine lv_bipush (v := Int32.ofInt (-2)) C.1 C.2.1 dX10_day_10 (by decide) ?_
    have hf := som_e hf
    subst hf
    exact j_iret C hO dX10_day_12
set_option maxHeartbeats 1000000 in
theorem c_X10_day (l : Launch) (G : jG)  (M : jM) (l0 l1 : Int) (h0 : jkd l0 = (10, 0)) {fin : Int × jM} (h : f_X10_day M l0 l1 = some fin) : Met l yX10_day (Cond.code yX10_day cX10_day 3 (some .int) :: wsL_law) ({ frames := 1, cells := 0, slots := 0, locals := 22 } : Room) (va_Pc [jR G l0, vI l1] (fun U => jRep G M U)) (jQ G (some (vI fin.1)) fin.2) 0 0 (jA G) := by
  refine Met.ofW (cc := cX10_day) (maxL := 3) (ret := (some .int)) (by decide) rfl ?_
  intro p e s m args below meth c s₁ B hml hv
  obtain ⟨rfl, hR0⟩ := hv
  have C : jCx p s m ([jR G l0, vI l1] : List Value).toArray meth c cX10_day 3 RX10 (Cond.code yX10_day cX10_day 3 (some .int)) (some .int) := ⟨B.exec, B.bytes, hml, findClass_of_methodNamed B.named, atoms_spec B.pre, B.returns, B.notSynchronized⟩
  have hO := hR0.ok
  have hl := lv_entry ([jR G l0, vI l1]) (n := 3) (Nat.le_of_ble_eq_true rfl)
  rw [lg_entry_eq]
  generalize (lg_sl ([jR G l0, vI l1]) ++ List.replicate (3 - (lg_sl ([jR G l0, vI l1])).length) Slot.unset).toArray = ls at hl ⊢
  have hl : lv_has ls 3 [(0, jR G l0), (1, vI l1)] := hl
  exact w_X10_day C (Nat.le_refl _) (Nat.le_refl _) M l0 l1 h0 h hO hl
