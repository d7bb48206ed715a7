set_option maxHeartbeats 4000000 in
theorem w_X2_measure {p : Program} {l : Launch} {e : Env} {R : Room} {s : State} {m : MethodId} {args : Array Value} {below : List Frame} {meth : Method} {c : Code} {H : Heap} {locs : List Loc} {ls : Array Slot} {G : jG}  (C : jCx p s m args meth c cX2_measure 16 RX2 (Cond.code yX2_measure cX2_measure 16 none) none) (hRf : 2 ≤ R.frames) (hRl : 48 ≤ R.locals)  (M : jM) (l0 l1 l2 l3 : Int) (h0 : jkd l0 = (2, 0)) (h1 : jkd l1 = (6, 0)) (h2 : jkd l2 = (3, 0)) (h3 : jkd l3 = (3, 0)) {fin : jM} (hf : f_X2_measure M l0 l1 l2 l3 = some fin) (hO : jOk G M s H locs) (hl : lv_has ls 16 [(0, jR G l0), (1, jR G l1), (2, jR G l2), (3, jR G l3)]) : W p l e R s m args below meth c H locs 0 0 (MQ below (jQ G none fin) args s 0 0 (jA G)) (F0 m 0 ls []) := by
  unfold f_X2_measure at hf
  refine lv_aload_n C.1 C.2.1 dX2_measure_0 rfl (lv_at hl 1 rfl) ?_
  refine lv_aload_n C.1 C.2.1 dX2_measure_1 rfl (lv_at hl 2 rfl) ?_
  obtain ⟨r1, hr1, hf⟩ := bnd_e hf
  refine j_callV C hO (n := 1) (As := [jR G l2]) (st1 := [vL r1]) (c_X6_product l G M l1 l2 h1 h2 hr1) h1 rfl kC_22_9 kM_25_9 kI_22_7 kS_22_8 kN_2_4 ⟨by decide, by decide, by decide⟩ ⟨Nat.le_trans (by decide) hRf, Nat.le_trans (by decide) hRl⟩ rfl rfl rfl hl.1 rfl (Nat.le_of_ble_eq_true rfl) ⟨Nat.zero_le _, Nat.zero_le _⟩ dX2_measure_2 rfl (fun H locs hO => ?_)
  refine lv_lstore (lv' := [(4, vL r1), (0, jR G l0), (1, jR G l1), (2, jR G l2), (3, jR G l3)]) C.1 C.2.1 dX2_measure_5 hl (by decide) rfl (fun ls hl => ?_)
  refine lv_aload_n C.1 C.2.1 dX2_measure_7 rfl (lv_at hl 2 rfl) ?_
  refine lv_aload_n C.1 C.2.1 dX2_measure_8 rfl (lv_at hl 4 rfl) ?_
  obtain ⟨r2, hr2, hf⟩ := bnd_e hf
  refine j_callV C hO (n := 1) (As := [jR G l3]) (st1 := [vL r2]) (c_X6_product l G M l1 l3 h1 h3 hr2) h1 rfl kC_22_9 kM_25_9 kI_22_7 kS_22_8 kN_2_4 ⟨by decide, by decide, by decide⟩ ⟨Nat.le_trans (by decide) hRf, Nat.le_trans (by decide) hRl⟩ rfl rfl rfl hl.1 rfl (Nat.le_of_ble_eq_true rfl) ⟨Nat.zero_le _, Nat.zero_le _⟩ dX2_measure_9 rfl (fun H locs hO => ?_)
  refine lv_lstore (lv' := [(6, vL r2), (4, vL r1), (0, jR G l0), (1, jR G l1), (2, jR G l2), (3, jR G l3)]) C.1 C.2.1 dX2_measure_12 hl (by decide) rfl (fun ls hl => ?_)
  refine lv_aload_n C.1 C.2.1 dX2_measure_14 rfl (lv_at hl 3 rfl) ?_
  refine lv_aload_n C.1 C.2.1 dX2_measure_15 rfl (lv_at hl 4 rfl) ?_
  refine lv_aload_n C.1 C.2.1 dX2_measure_16 rfl (lv_at hl 4 rfl) ?_
  obtain ⟨r3, hr3, hf⟩ := bnd_e hf
  refine j_callV C hO (n := 2) (As := [jR G l2, jR G l2]) (st1 := [vL r3]) (c_X6_lap l G M l1 l2 l2 h1 h2 h2 hr3) h1 rfl kC_21_20 kM_25_10 kI_21_18 kS_21_19 kN_2_4 ⟨by decide, by decide, by decide⟩ ⟨Nat.le_trans (by decide) hRf, Nat.le_trans (by decide) hRl⟩ rfl rfl rfl hl.1 rfl (Nat.le_of_ble_eq_true rfl) ⟨Nat.zero_le _, Nat.zero_le _⟩ dX2_measure_17 rfl (fun H locs hO => ?_)
  refine lv_lstore (lv' := [(8, vL r3), (6, vL r2), (4, vL r1), (0, jR G l0), (1, jR G l1), (2, jR G l2), (3, jR G l3)]) C.1 C.2.1 dX2_measure_20 hl (by decide) rfl (fun ls hl => ?_)
  refine lv_aload_n C.1 C.2.1 dX2_measure_22 rfl (lv_at hl 4 rfl) ?_
  refine lv_aload_n C.1 C.2.1 dX2_measure_23 rfl (lv_at hl 6 rfl) ?_
  refine lv_aload_n C.1 C.2.1 dX2_measure_24 rfl (lv_at hl 5 rfl) ?_
  obtain ⟨r4, hr4, hf⟩ := bnd_e hf
  refine j_callV C hO (n := 2) (As := [jR G l3, jR G l2]) (st1 := [vL r4]) (c_X6_lap l G M l1 l3 l2 h1 h3 h2 hr4) h1 rfl kC_21_20 kM_25_10 kI_21_18 kS_21_19 kN_2_4 ⟨by decide, by decide, by decide⟩ ⟨Nat.le_trans (by decide) hRf, Nat.le_trans (by decide) hRl⟩ rfl rfl rfl hl.1 rfl (Nat.le_of_ble_eq_true rfl) ⟨Nat.zero_le _, Nat.zero_le _⟩ dX2_measure_25 rfl (fun H locs hO => ?_)
  refine lv_lstore (lv' := [(10, vL r4), (8, vL r3), (6, vL r2), (4, vL r1), (0, jR G l0), (1, jR G l1), (2, jR G l2), (3, jR G l3)]) C.1 C.2.1 dX2_measure_28 hl (by decide) rfl (fun ls hl => ?_)
  refine lv_aload_n C.1 C.2.1 dX2_measure_30 rfl (lv_at hl 5 rfl) ?_
  refine lv_aload_n C.1 C.2.1 dX2_measure_31 rfl (lv_at hl 7 rfl) ?_
  refine lv_aload_n C.1 C.2.1 dX2_measure_32 rfl (lv_at hl 7 rfl) ?_
  obtain ⟨r5, hr5, hf⟩ := bnd_e hf
  refine j_callV C hO (n := 2) (As := [jR G l3, jR G l3]) (st1 := [vL r5]) (c_X6_lap l G M l1 l3 l3 h1 h3 h3 hr5) h1 rfl kC_21_20 kM_25_10 kI_21_18 kS_21_19 kN_2_4 ⟨by decide, by decide, by decide⟩ ⟨Nat.le_trans (by decide) hRf, Nat.le_trans (by decide) hRl⟩ rfl rfl rfl hl.1 rfl (Nat.le_of_ble_eq_true rfl) ⟨Nat.zero_le _, Nat.zero_le _⟩ dX2_measure_33 rfl (fun H locs hO => ?_)
  refine lv_lstore (lv' := [(12, vL r5), (10, vL r4), (8, vL r3), (6, vL r2), (4, vL r1), (0, jR G l0), (1, jR G l1), (2, jR G l2), (3, jR G l3)]) C.1 C.2.1 dX2_measure_36 hl (by decide) rfl (fun ls hl => ?_)
  refine lv_aload_n C.1 C.2.1 dX2_measure_38 rfl (lv_at hl 6 rfl) ?_
  refine lv_aload_n C.1 C.2.1 dX2_measure_39 rfl (lv_at hl 7 rfl) ?_
  refine lv_aload_n C.1 C.2.1 dX2_measure_40 rfl (lv_at hl 8 rfl) ?_
  obtain ⟨r6, hr6, hf⟩ := bnd_e hf
  refine j_callV C hO (n := 2) (As := [jR G l2, jR G l3]) (st1 := [vL r6]) (c_X6_lap l G M l1 l2 l3 h1 h2 h3 hr6) h1 rfl kC_21_20 kM_25_10 kI_21_18 kS_21_19 kN_2_4 ⟨by decide, by decide, by decide⟩ ⟨Nat.le_trans (by decide) hRf, Nat.le_trans (by decide) hRl⟩ rfl rfl rfl hl.1 rfl (Nat.le_of_ble_eq_true rfl) ⟨Nat.zero_le _, Nat.zero_le _⟩ dX2_measure_41 rfl (fun H locs hO => ?_)
  refine lv_lstore (lv' := [(14, vL r6), (12, vL r5), (10, vL r4), (8, vL r3), (6, vL r2), (4, vL r1), (0, jR G l0), (1, jR G l1), (2, jR G l2), (3, jR G l3)]) C.1 C.2.1 dX2_measure_44 hl (by decide) rfl (fun ls hl => ?_)
  refine lv_aload_n C.1 C.2.1 dX2_measure_46 rfl (lv_at hl 6 rfl) ?_
  refine lv_lload C.1 C.2.1 dX2_measure_47 (lv_at hl 1 rfl) ?_
  refine lv_lload C.1 C.2.1 dX2_measure_49 (lv_at hl 5 rfl) ?_
  refine j_lmul C dX2_measure_51 ?_
  refine lv_lload C.1 C.2.1 dX2_measure_52 (lv_at hl 2 rfl) ?_
  refine lv_lload C.1 C.2.1 dX2_measure_54 (lv_at hl 4 rfl) ?_
  refine j_lmul C dX2_measure_56 ?_
  refine j_lsub C dX2_measure_57 ?_
  obtain ⟨M7, hM7, hf⟩ := lt1_e hf
  refine j_put C hO (ci := 2) (k := 0) (x := (r5 * r1) - (r4 * r2)) h0 rfl inlX2 tyX2_ok nmX2 (by decide) kF_25_5 rfl rfl rfl rfl (by simp [jfl]) (fs_2_0) dX2_measure_58 (fun H locs hO => ?_)
  rw [← hM7] at hO
  refine lv_aload_n C.1 C.2.1 dX2_measure_61 rfl (lv_at hl 6 rfl) ?_
  refine lv_lload C.1 C.2.1 dX2_measure_62 (lv_at hl 3 rfl) ?_
  refine lv_lload C.1 C.2.1 dX2_measure_64 (lv_at hl 4 rfl) ?_
  refine j_lmul C dX2_measure_66 ?_
  refine lv_lload C.1 C.2.1 dX2_measure_67 (lv_at hl 0 rfl) ?_
  refine lv_lload C.1 C.2.1 dX2_measure_69 (lv_at hl 5 rfl) ?_
  refine j_lmul C dX2_measure_71 ?_
  refine j_lsub C dX2_measure_72 ?_
  obtain ⟨M8, hM8, hf⟩ := lt1_e hf
  refine j_put C hO (ci := 2) (k := 1) (x := (r3 * r2) - (r6 * r1)) h0 rfl inlX2 tyX2_ok nmX2 (by decide) kF_25_6 rfl rfl rfl rfl (by simp [jfl]) (fs_2_1) dX2_measure_73 (fun H locs hO => ?_)
  rw [← hM8] at hO
  refine lv_aload_n C.1 C.2.1 dX2_measure_76 rfl (lv_at hl 6 rfl) ?_
  refine lv_aload_n C.1 C.2.1 dX2_measure_77 rfl (lv_at hl 6 rfl) ?_
  refine j_get C hO (ci := 2) (k := 0) (v := vL (M8 l0 0)) h0 rfl inlX2 (by decide) kF_25_5 rfl rfl dX2_measure_78 ?_
  refine lv_aload_n C.1 C.2.1 dX2_measure_81 rfl (lv_at hl 6 rfl) ?_
  refine j_get C hO (ci := 2) (k := 1) (v := vL (M8 l0 1)) h0 rfl inlX2 (by decide) kF_25_6 rfl rfl dX2_measure_82 ?_
  refine j_ladd C dX2_measure_85 ?_
  obtain ⟨M9, hM9, hf⟩ := lt1_e hf
  refine j_put C hO (ci := 2) (k := 2) (x := (M8 l0 0) + (M8 l0 1)) h0 rfl inlX2 tyX2_ok nmX2 (by decide) kF_25_7 rfl rfl rfl rfl (by simp [jfl]) (fs_2_2) dX2_measure_86 (fun H locs hO => ?_)
  rw [← hM9] at hO
  refine lv_aload_n C.1 C.2.1 dX2_measure_89 rfl (lv_at hl 6 rfl) ?_
  refine lv_lload C.1 C.2.1 dX2_measure_90 (lv_at hl 3 rfl) ?_
  refine lv_lload C.1 C.2.1 dX2_measure_92 (lv_at hl 1 rfl) ?_
  refine j_lmul C dX2_measure_94 ?_
  refine lv_lload C.1 C.2.1 dX2_measure_95 (lv_at hl 2 rfl) ?_
  refine lv_lload C.1 C.2.1 dX2_measure_97 (lv_at hl 0 rfl) ?_
  refine j_lmul C dX2_measure_99 ?_
  refine j_lsub C dX2_measure_100 ?_
  obtain ⟨M10, hM10, hf⟩ := lt1_e hf
  refine j_put C hO (ci := 2) (k := 3) (x := (r3 * r5) - (r4 * r6)) h0 rfl inlX2 tyX2_ok nmX2 (by decide) kF_25_8 rfl rfl rfl rfl (by simp [jfl]) (fs_2_3) dX2_measure_101 (fun H locs hO => ?_)
  rw [← hM10] at hO
  have hf := som_e hf
  subst hf
  exact j_vret C hO dX2_measure_104
set_option maxHeartbeats 1000000 in
theorem c_X2_measure (l : Launch) (G : jG)  (M : jM) (l0 l1 l2 l3 : Int) (h0 : jkd l0 = (2, 0)) (h1 : jkd l1 = (6, 0)) (h2 : jkd l2 = (3, 0)) (h3 : jkd l3 = (3, 0)) {fin : jM} (h : f_X2_measure M l0 l1 l2 l3 = some fin) : Met l yX2_measure (Cond.code yX2_measure cX2_measure 16 none :: wsL_law) ({ frames := 2, cells := 0, slots := 0, locals := 48 } : Room) (va_Pc [jR G l0, jR G l1, jR G l2, jR G l3] (fun U => jRep G M U)) (jQ G none fin) 0 0 (jA G) := by
  refine Met.ofW (cc := cX2_measure) (maxL := 16) (ret := none) (by decide) rfl ?_
  intro p e s m args below meth c s₁ B hml hv
  obtain ⟨rfl, hR0⟩ := hv
  have C : jCx p s m ([jR G l0, jR G l1, jR G l2, jR G l3] : List Value).toArray meth c cX2_measure 16 RX2 (Cond.code yX2_measure cX2_measure 16 none) none := ⟨B.exec, B.bytes, hml, findClass_of_methodNamed B.named, atoms_spec B.pre, B.returns, B.notSynchronized⟩
  have hO := hR0.ok
  have hl := lv_entry ([jR G l0, jR G l1, jR G l2, jR G l3]) (n := 16) (Nat.le_of_ble_eq_true rfl)
  rw [lg_entry_eq]
  generalize (lg_sl ([jR G l0, jR G l1, jR G l2, jR G l3]) ++ List.replicate (16 - (lg_sl ([jR G l0, jR G l1, jR G l2, jR G l3])).length) Slot.unset).toArray = ls at hl ⊢
  have hl : lv_has ls 16 [(0, jR G l0), (1, jR G l1), (2, jR G l2), (3, jR G l3)] := hl
  exact w_X2_measure C (Nat.le_refl _) (Nat.le_refl _) M l0 l1 l2 l3 h0 h1 h2 h3 h hO hl
set_option maxHeartbeats 4000000 in
theorem w_X1_begin {p : Program} {l : Launch} {e : Env} {R : Room} {s : State} {m : MethodId} {args : Array Value} {below : List Frame} {meth : Method} {c : Code} {H : Heap} {locs : List Loc} {ls : Array Slot} {G : jG}  (C : jCx p s m args meth c cX1_begin 2 RX1 (Cond.code yX1_begin cX1_begin 2 none) none) (hRf : 1 ≤ R.frames) (hRl : 21 ≤ R.locals)  (M : jM) (l0 l1 : Int) (h0 : jkd l0 = (1, 0)) {fin : jM} (hf : f_X1_begin M l0 l1 = some fin) (hO : jOk G M s H locs) (hl : lv_has ls 2 [(0, jR G l0), (1, vI l1)]) : W p l e R s m args below meth c H locs 0 0 (MQ below (jQ G none fin) args s 0 0 (jA G)) (F0 m 0 ls []) := by
  unfold f_X1_begin at hf
  refine lv_aload_n C.1 C.2.1 dX1_begin_0 rfl (lv_at hl 0 rfl) ?_
  refine j_get C hO (ci := 1) (k := 1) (v := jR G (jpt l0 1)) h0 rfl inlX1 (by decide) kF_5_3 rfl rfl dX1_begin_1 ?_
  refine lv_iload_n C.1 C.2.1 dX1_begin_4 rfl (lv_at hl 1 rfl) ?_
  obtain ⟨r1, hr1, hf⟩ := bnd_e hf
  refine j_callV C hO (n := 1) (As := [vI l1]) (st1 := []) (c_X3_zeros l G M (jpt l0 1) l1 (tp_1_1 h0) hr1) (tp_1_1 h0) rfl kC_17_14 kM_28_16 kI_17_12 kS_17_13 kN_3_8 ⟨by decide, by decide, by decide⟩ ⟨Nat.le_trans (by decide) hRf, Nat.le_trans (by decide) hRl⟩ rfl rfl rfl hl.1 rfl (Nat.le_of_ble_eq_true rfl) ⟨Nat.zero_le _, Nat.zero_le _⟩ dX1_begin_5 rfl (fun H locs hO => ?_)
  refine lv_aload_n C.1 C.2.1 dX1_begin_8 rfl (lv_at hl 0 rfl) ?_
  refine lv_iconst (v := Int32.ofInt 0) C.1 C.2.1 dX1_begin_9 rfl ?_
  obtain ⟨M2, hM2, hf⟩ := lt1_e hf
  refine j_put C hO (ci := 1) (k := 2) (x := 0) h0 rfl inlX1 tyX1_ok nmX1 (by decide) kF_28_11 rfl rfl (jz_n (Or.inl rfl)) (jz_f (Or.inl rfl)) (by simp [jfl]) (fs_1_2) dX1_begin_10 (fun H locs hO => ?_)
  rw [← hM2] at hO
  have hf := som_e hf
  subst hf
  exact j_vret C hO dX1_begin_13
set_option maxHeartbeats 1000000 in
theorem c_X1_begin (l : Launch) (G : jG)  (M : jM) (l0 l1 : Int) (h0 : jkd l0 = (1, 0)) {fin : jM} (h : f_X1_begin M l0 l1 = some fin) : Met l yX1_begin (Cond.code yX1_begin cX1_begin 2 none :: wsL_law) ({ frames := 1, cells := 0, slots := 0, locals := 21 } : Room) (va_Pc [jR G l0, vI l1] (fun U => jRep G M U)) (jQ G none fin) 0 0 (jA G) := by
  refine Met.ofW (cc := cX1_begin) (maxL := 2) (ret := none) (by decide) rfl ?_
  intro p e s m args below meth c s₁ B hml hv
  obtain ⟨rfl, hR0⟩ := hv
  have C : jCx p s m ([jR G l0, vI l1] : List Value).toArray meth c cX1_begin 2 RX1 (Cond.code yX1_begin cX1_begin 2 none) none := ⟨B.exec, B.bytes, hml, findClass_of_methodNamed B.named, atoms_spec B.pre, B.returns, B.notSynchronized⟩
  have hO := hR0.ok
  have hl := lv_entry ([jR G l0, vI l1]) (n := 2) (Nat.le_of_ble_eq_true rfl)
  rw [lg_entry_eq]
  generalize (lg_sl ([jR G l0, vI l1]) ++ List.replicate (2 - (lg_sl ([jR G l0, vI l1])).length) Slot.unset).toArray = ls at hl ⊢
  have hl : lv_has ls 2 [(0, jR G l0), (1, vI l1)] := hl
  exact w_X1_begin C (Nat.le_refl _) (Nat.le_refl _) M l0 l1 h0 h hO hl
set_option maxHeartbeats 4000000 in
theorem w_X9_compare_L17 {p : Program} {l : Launch} {e : Env} {R : Room} {s : State} {m : MethodId} {args : Array Value} {below : List Frame} {meth : Method} {c : Code} {H : Heap} {locs : List Loc} {ls : Array Slot} {G : jG}  (C : jCx p s m args meth c cX9_compare 25 RX9 (Cond.code yX9_compare cX9_compare 25 (some .int)) (some .int)) (hRf : 0 ≤ R.frames) (hRl : 0 ≤ R.locals)  (M : jM) {fin : Int} (S : Int × Int × Int × Int × Int) {rr : (Int × Int × Int × Int × Int) ⊕ (Unit ⊕ (Int × Int) ⊕ (Int × Int))} (hf : f_X9_compare_L17 M  S = some rr) (kc : ∀ q : Int × Int × Int × Int × Int, rr = .inl q → ∀ (H : Heap) (locs : List Loc) (ls : Array Slot), jOk G M s H locs → lv_has ls 25 [(8, vL q.1), (10, vL q.2.1), (12, vL q.2.2.1), (14, vL q.2.2.2.1), (16, vI q.2.2.2.2)] → W p l e R s m args below meth c H locs 0 0 (MQ below (jQ G (some (vI fin)) M) args s 0 0 (jA G)) (F0 m 17 ls [])) (kx0 : ∀ q : Unit, rr = .inr (.inl q) → ∀ (H : Heap) (locs : List Loc) (ls : Array Slot), jOk G M s H locs → lv_has ls 25 [] → W p l e R s m args below meth c H locs 0 0 (MQ below (jQ G (some (vI fin)) M) args s 0 0 (jA G)) (F0 m 142 ls [])) (kx1 : ∀ q : Int × Int, rr = .inr (.inr (.inl q)) → ∀ (H : Heap) (locs : List Loc) (ls : Array Slot), jOk G M s H locs → lv_has ls 25 [(10, vL q.1), (14, vL q.2)] → W p l e R s m args below meth c H locs 0 0 (MQ below (jQ G (some (vI fin)) M) args s 0 0 (jA G)) (F0 m 39 ls [])) (kx2 : ∀ q : Int × Int, rr = .inr (.inr (.inr q)) → ∀ (H : Heap) (locs : List Loc) (ls : Array Slot), jOk G M s H locs → lv_has ls 25 [(17, vL q.1), (19, vL q.2)] → W p l e R s m args below meth c H locs 0 0 (MQ below (jQ G (some (vI fin)) M) args s 0 0 (jA G)) (F0 m 86 ls [])) (hO : jOk G M s H locs) (hl : lv_has ls 25 [(8, vL S.1), (10, vL S.2.1), (12, vL S.2.2.1), (14, vL S.2.2.2.1), (16, vI S.2.2.2.2)]) : W p l e R s m args below meth c H locs 0 0 (MQ below (jQ G (some (vI fin)) M) args s 0 0 (jA G)) (F0 m 17 ls []) := by
  unfold f_X9_compare_L17 at hf
  refine lv_iload C.1 C.2.1 dX9_compare_17 (lv_at hl 4 rfl) ?_
  refine lv_sipush (v := Int32.ofInt 200) C.1 C.2.1 dX9_compare_19 (by decide) ?_
  refine j_icmp_ge (tgt := 142) C rfl (w32_id (by decide) (by decide)) dX9_compare_22 (by decide) (fun c1 => ?_) (fun c1 => ?_)
  · have hf := (if_pos c1).symm.trans hf
    exact kx0 _ (som_e hf).symm _ _ _ hO (lv_sub hl [] rfl)
  · have hf := (if_neg c1).symm.trans hf
    refine lv_lload C.1 C.2.1 dX9_compare_25 (lv_at hl 1 rfl) ?_
    refine lv_lconst (v := Int64.ofInt 0) C.1 C.2.1 dX9_compare_27 (by decide) ?_
    refine j_lcmp_eq (tgt := 39) C rfl (w64_id (by decide) (by decide)) dX9_compare_28 dX9_compare_29 (by decide) (fun c2 => ?_) (fun c2 => ?_)
    · have hf := (if_pos c2).symm.trans hf
      exact kx1 _ (som_e hf).symm _ _ _ hO (lv_sub hl [1, 3] rfl)
    · have hf := (if_neg c2).symm.trans hf
      refine lv_lload C.1 C.2.1 dX9_compare_32 (lv_at hl 3 rfl) ?_
      refine lv_lconst (v := Int64.ofInt 0) C.1 C.2.1 dX9_compare_34 (by decide) ?_
      refine j_lcmp_ne (tgt := 64) C rfl (w64_id (by decide) (by decide)) dX9_compare_35 dX9_compare_36 (by decide) (fun c3 => ?_) (fun c3 => ?_)
      · have hf := (if_neg c3).symm.trans hf
        refine lv_lload C.1 C.2.1 dX9_compare_64 (lv_at hl 0 rfl) ?_
        refine lv_lload C.1 C.2.1 dX9_compare_66 (lv_at hl 1 rfl) ?_
        obtain ⟨g4, hf⟩ := grd_e hf
        refine j_ldiv C g4 dX9_compare_68 ?_
        refine lv_lstore (lv' := [(17, vL ((w64 S.1).tdiv (w64 S.2.1))), (8, vL S.1), (10, vL S.2.1), (12, vL S.2.2.1), (14, vL S.2.2.2.1), (16, vI S.2.2.2.2)]) C.1 C.2.1 dX9_compare_69 hl (by decide) rfl (fun ls hl => ?_)
        refine lv_lload C.1 C.2.1 dX9_compare_71 (lv_at hl 3 rfl) ?_
        refine lv_lload C.1 C.2.1 dX9_compare_73 (lv_at hl 4 rfl) ?_
        obtain ⟨g5, hf⟩ := grd_e hf
        refine j_ldiv C g5 dX9_compare_75 ?_
        refine lv_lstore (lv' := [(19, vL ((w64 S.2.2.1).tdiv (w64 S.2.2.2.1))), (17, vL ((w64 S.1).tdiv (w64 S.2.1))), (8, vL S.1), (10, vL S.2.1), (12, vL S.2.2.1), (14, vL S.2.2.2.1), (16, vI S.2.2.2.2)]) C.1 C.2.1 dX9_compare_76 hl (by decide) rfl (fun ls hl => ?_)
        refine lv_lload C.1 C.2.1 dX9_compare_78 (lv_at hl 1 rfl) ?_
        refine lv_lload C.1 C.2.1 dX9_compare_80 (lv_at hl 0 rfl) ?_
        refine j_lcmp_eq (tgt := 100) C rfl rfl dX9_compare_82 dX9_compare_83 (by decide) (fun c6 => ?_) (fun c6 => ?_)
        · have hf := (if_pos c6).symm.trans hf
          refine lv_lload C.1 C.2.1 dX9_compare_100 (lv_at hl 2 rfl) ?_
          refine lv_lload C.1 C.2.1 dX9_compare_102 (lv_at hl 1 rfl) ?_
          refine lv_lload C.1 C.2.1 dX9_compare_104 (lv_at hl 3 rfl) ?_
          refine j_lmul C dX9_compare_106 ?_
          refine j_lsub C dX9_compare_107 ?_
          refine lv_lstore (lv' := [(21, vL (S.1 - (((w64 S.1).tdiv (w64 S.2.1)) * S.2.1))), (19, vL ((w64 S.2.2.1).tdiv (w64 S.2.2.2.1))), (17, vL ((w64 S.1).tdiv (w64 S.2.1))), (8, vL S.1), (10, vL S.2.1), (12, vL S.2.2.1), (14, vL S.2.2.2.1), (16, vI S.2.2.2.2)]) C.1 C.2.1 dX9_compare_108 hl (by decide) rfl (fun ls hl => ?_)
          refine lv_lload C.1 C.2.1 dX9_compare_110 (lv_at hl 5 rfl) ?_
          refine lv_lload C.1 C.2.1 dX9_compare_112 (lv_at hl 1 rfl) ?_
          refine lv_lload C.1 C.2.1 dX9_compare_114 (lv_at hl 6 rfl) ?_
          refine j_lmul C dX9_compare_116 ?_
          refine j_lsub C dX9_compare_117 ?_
          refine lv_lstore (lv' := [(23, vL (S.2.2.1 - (((w64 S.2.2.1).tdiv (w64 S.2.2.2.1)) * S.2.2.2.1))), (21, vL (S.1 - (((w64 S.1).tdiv (w64 S.2.1)) * S.2.1))), (19, vL ((w64 S.2.2.1).tdiv (w64 S.2.2.2.1))), (17, vL ((w64 S.1).tdiv (w64 S.2.1))), (8, vL S.1), (10, vL S.2.1), (12, vL S.2.2.1), (14, vL S.2.2.2.1), (16, vI S.2.2.2.2)]) C.1 C.2.1 dX9_compare_118 hl (by decide) rfl (fun ls hl => ?_)
          refine lv_lload C.1 C.2.1 dX9_compare_120 (lv_at hl 7 rfl) ?_
          refine lv_lstore (lv' := [(8, vL S.2.2.2.1), (23, vL (S.2.2.1 - (((w64 S.2.2.1).tdiv (w64 S.2.2.2.1)) * S.2.2.2.1))), (21, vL (S.1 - (((w64 S.1).tdiv (w64 S.2.1)) * S.2.1))), (19, vL ((w64 S.2.2.1).tdiv (w64 S.2.2.2.1))), (17, vL ((w64 S.1).tdiv (w64 S.2.1))), (10, vL S.2.1), (12, vL S.2.2.1), (14, vL S.2.2.2.1), (16, vI S.2.2.2.2)]) C.1 C.2.1 dX9_compare_122 hl (by decide) rfl (fun ls hl => ?_)
          refine lv_lload C.1 C.2.1 dX9_compare_124 (lv_at hl 5 rfl) ?_
          refine lv_lstore (lv' := [(12, vL S.2.1), (8, vL S.2.2.2.1), (23, vL (S.2.2.1 - (((w64 S.2.2.1).tdiv (w64 S.2.2.2.1)) * S.2.2.2.1))), (21, vL (S.1 - (((w64 S.1).tdiv (w64 S.2.1)) * S.2.1))), (19, vL ((w64 S.2.2.1).tdiv (w64 S.2.2.2.1))), (17, vL ((w64 S.1).tdiv (w64 S.2.1))), (10, vL S.2.1), (14, vL S.2.2.2.1), (16, vI S.2.2.2.2)]) C.1 C.2.1 dX9_compare_126 hl (by decide) rfl (fun ls hl => ?_)
          refine lv_lload C.1 C.2.1 dX9_compare_128 (lv_at hl 2 rfl) ?_
          refine lv_lstore (lv' := [(10, vL (S.2.2.1 - (((w64 S.2.2.1).tdiv (w64 S.2.2.2.1)) * S.2.2.2.1))), (12, vL S.2.1), (8, vL S.2.2.2.1), (23, vL (S.2.2.1 - (((w64 S.2.2.1).tdiv (w64 S.2.2.2.1)) * S.2.2.2.1))), (21, vL (S.1 - (((w64 S.1).tdiv (w64 S.2.1)) * S.2.1))), (19, vL ((w64 S.2.2.1).tdiv (w64 S.2.2.2.1))), (17, vL ((w64 S.1).tdiv (w64 S.2.1))), (14, vL S.2.2.2.1), (16, vI S.2.2.2.2)]) C.1 C.2.1 dX9_compare_130 hl (by decide) rfl (fun ls hl => ?_)
          refine lv_lload C.1 C.2.1 dX9_compare_132 (lv_at hl 4 rfl) ?_
          refine lv_lstore (lv' := [(14, vL (S.1 - (((w64 S.1).tdiv (w64 S.2.1)) * S.2.1))), (10, vL (S.2.2.1 - (((w64 S.2.2.1).tdiv (w64 S.2.2.2.1)) * S.2.2.2.1))), (12, vL S.2.1), (8, vL S.2.2.2.1), (23, vL (S.2.2.1 - (((w64 S.2.2.1).tdiv (w64 S.2.2.2.1)) * S.2.2.2.1))), (21, vL (S.1 - (((w64 S.1).tdiv (w64 S.2.1)) * S.2.1))), (19, vL ((w64 S.2.2.1).tdiv (w64 S.2.2.2.1))), (17, vL ((w64 S.1).tdiv (w64 S.2.1))), (16, vI S.2.2.2.2)]) C.1 C.2.1 dX9_compare_134 hl (by decide) rfl (fun ls hl => ?_)
          refine lv_iinc (v := Int32.ofInt (S.2.2.2.2 + 1)) (lv' := [(16, vI (S.2.2.2.2 + 1)), (14, vL (S.1 - (((w64 S.1).tdiv (w64 S.2.1)) * S.2.1))), (10, vL (S.2.2.1 - (((w64 S.2.2.1).tdiv (w64 S.2.2.2.1)) * S.2.2.2.1))), (12, vL S.2.1), (8, vL S.2.2.2.1), (23, vL (S.2.2.1 - (((w64 S.2.2.1).tdiv (w64 S.2.2.2.1)) * S.2.2.2.1))), (21, vL (S.1 - (((w64 S.1).tdiv (w64 S.2.1)) * S.2.1))), (19, vL ((w64 S.2.2.1).tdiv (w64 S.2.2.2.1))), (17, vL ((w64 S.1).tdiv (w64 S.2.1)))]) C.1 C.2.1 dX9_compare_136 hl (k := 8) rfl (Int32.ofInt_add _ _).symm (by decide) rfl (fun ls hl => ?_)
          refine lv_goto (tgt := 17) C.1 C.2.1 dX9_compare_139 (by decide) ?_
          exact kc _ (som_e hf).symm _ _ _ hO (lv_sub hl [4, 2, 3, 1, 0] rfl)
        · have hf := (if_neg c6).symm.trans hf
          exact kx2 _ (som_e hf).symm _ _ _ hO (lv_sub hl [1, 0] rfl)
      · have hf := (if_pos c3).symm.trans hf
        exact kx1 _ (som_e hf).symm _ _ _ hO (lv_sub hl [1, 3] rfl)
set_option maxHeartbeats 4000000 in
theorem w_X9_compare {p : Program} {l : Launch} {e : Env} {R : Room} {s : State} {m : MethodId} {args : Array Value} {below : List Frame} {meth : Method} {c : Code} {H : Heap} {locs : List Loc} {ls : Array Slot} {G : jG}  (C : jCx p s m args meth c cX9_compare 25 RX9 (Cond.code yX9_compare cX9_compare 25 (some .int)) (some .int)) (hRf : 0 ≤ R.frames) (hRl : 0 ≤ R.locals)  (M : jM) (l0 l2 l4 l6 : Int) {fin : Int} (hf : f_X9_compare M l0 l2 l4 l6 = some fin) (hO : jOk G M s H locs) (hl : lv_has ls 25 [(0, vL l0), (2, vL l2), (4, vL l4), (6, vL l6)]) : W p l e R s m args below meth c H locs 0 0 (MQ below (jQ G (some (vI fin)) M) args s 0 0 (jA G)) (F0 m 0 ls []) := by
  unfold f_X9_compare at hf
  refine lv_lload_n C.1 C.2.1 dX9_compare_0 rfl (lv_at hl 0 rfl) ?_
  refine lv_lstore (lv' := [(8, vL l0), (0, vL l0), (2, vL l2), (4, vL l4), (6, vL l6)]) C.1 C.2.1 dX9_compare_1 hl (by decide) rfl (fun ls hl => ?_)
  refine lv_lload_n C.1 C.2.1 dX9_compare_3 rfl (lv_at hl 2 rfl) ?_
  refine lv_lstore (lv' := [(10, vL l2), (8, vL l0), (0, vL l0), (2, vL l2), (4, vL l4), (6, vL l6)]) C.1 C.2.1 dX9_compare_4 hl (by decide) rfl (fun ls hl => ?_)
  refine lv_lload C.1 C.2.1 dX9_compare_6 (lv_at hl 4 rfl) ?_
  refine lv_lstore (lv' := [(12, vL l4), (10, vL l2), (8, vL l0), (0, vL l0), (2, vL l2), (4, vL l4), (6, vL l6)]) C.1 C.2.1 dX9_compare_8 hl (by decide) rfl (fun ls hl => ?_)
  refine lv_lload C.1 C.2.1 dX9_compare_10 (lv_at hl 6 rfl) ?_
  refine lv_lstore (lv' := [(14, vL l6), (12, vL l4), (10, vL l2), (8, vL l0), (0, vL l0), (2, vL l2), (4, vL l4), (6, vL l6)]) C.1 C.2.1 dX9_compare_12 hl (by decide) rfl (fun ls hl => ?_)
  refine lv_iconst (v := Int32.ofInt 0) C.1 C.2.1 dX9_compare_14 rfl ?_
  refine lv_istore (lv' := [(16, vI 0), (14, vL l6), (12, vL l4), (10, vL l2), (8, vL l0), (0, vL l0), (2, vL l2), (4, vL l4), (6, vL l6)]) C.1 C.2.1 dX9_compare_15 hl (by decide) rfl (fun ls hl => ?_)
  obtain ⟨x7, hx7, hf⟩ := bnd_e hf
  refine iter_e (P := fun Z => ∀ (H : Heap) (locs : List Loc) (ls : Array Slot), jOk G M s H locs → lv_has ls 25 [(8, vL Z.1), (10, vL Z.2.1), (12, vL Z.2.2.1), (14, vL Z.2.2.2.1), (16, vI Z.2.2.2.2)] → W p l e R s m args below meth c H locs 0 0 (MQ below (jQ G (some (vI fin)) M) args s 0 0 (jA G)) (F0 m 17 ls [])) (E := fun x => (∀ q : Unit, x = (.inl q) → ∀ (H : Heap) (locs : List Loc) (ls : Array Slot), jOk G M s H locs → lv_has ls 25 [] → W p l e R s m args below meth c H locs 0 0 (MQ below (jQ G (some (vI fin)) M) args s 0 0 (jA G)) (F0 m 142 ls [])) ∧ (∀ q : Int × Int, x = (.inr (.inl q)) → ∀ (H : Heap) (locs : List Loc) (ls : Array Slot), jOk G M s H locs → lv_has ls 25 [(10, vL q.1), (14, vL q.2)] → W p l e R s m args below meth c H locs 0 0 (MQ below (jQ G (some (vI fin)) M) args s 0 0 (jA G)) (F0 m 39 ls [])) ∧ (∀ q : Int × Int, x = (.inr (.inr q)) → ∀ (H : Heap) (locs : List Loc) (ls : Array Slot), jOk G M s H locs → lv_has ls 25 [(17, vL q.1), (19, vL q.2)] → W p l e R s m args below meth c H locs 0 0 (MQ below (jQ G (some (vI fin)) M) args s 0 0 (jA G)) (F0 m 86 ls []))) (fun Z rr hb kc kx H locs ls hO hl => w_X9_compare_L17 C hRf hRl M   Z hb kc (fun q e => (kx _ e).1 q rfl) (fun q e => (kx _ e).2.1 q rfl) (fun q e => (kx _ e).2.2 q rfl) hO hl) 5000 (l0, l2, l4, l6, 0) x7 hx7 ?_ _ _ _ hO (lv_sub hl [4, 3, 2, 1, 0] rfl)
  clear hO hl
  refine ⟨?_, ?_, ?_⟩
  · intro q8 eq8 H locs ls hO hl
    subst eq8
    have hf := sel_l hf
    refine lv_iconst (v := Int32.ofInt 0) C.1 C.2.1 dX9_compare_142 rfl ?_
    have hf := som_e hf
    subst hf
    exact j_iret C hO dX9_compare_143
  · intro q9 eq9 H locs ls hO hl
    subst eq9
    have hf := sel_r hf
    have hf := sel_l hf
    refine lv_lload C.1 C.2.1 dX9_compare_39 (lv_at hl 0 rfl) ?_
    refine lv_lload C.1 C.2.1 dX9_compare_41 (lv_at hl 1 rfl) ?_
    refine j_lcmp_ne (tgt := 51) C rfl rfl dX9_compare_43 dX9_compare_44 (by decide) (fun c10 => ?_) (fun c10 => ?_)
    · have hf := (if_neg c10).symm.trans hf
      refine lv_lload C.1 C.2.1 dX9_compare_51 (lv_at hl 0 rfl) ?_
      refine lv_lconst (v := Int64.ofInt 0) C.1 C.2.1 dX9_compare_53 (by decide) ?_
      refine j_lcmp_ne (tgt := 62) C rfl (w64_id (by decide) (by decide)) dX9_compare_54 dX9_compare_55 (by decide) (fun c11 => ?_) (fun c11 => ?_)
      · have hf := (if_neg c11).symm.trans hf
        refine lv_iconst (v := Int32.ofInt (-1)) C.1 C.2.1 dX9_compare_62 rfl ?_
        have hf := som_e hf
        subst hf
        exact j_iret C hO dX9_compare_63
      · have hf := (if_pos c11).symm.trans hf
        refine lv_iconst (v := Int32.ofInt 1) C.1 C.2.1 dX9_compare_58 rfl ?_
        refine lv_goto (tgt := 63) C.1 C.2.1 dX9_compare_59 (by decide) ?_
        have hf := som_e hf
        subst hf
        exact j_iret C hO dX9_compare_63
    · have hf := (if_pos c10).symm.trans hf
      refine lv_iconst (v := Int32.ofInt 0) C.1 C.2.1 dX9_compare_47 rfl ?_
      refine lv_goto (tgt := 63) C.1 C.2.1 dX9_compare_48 (by decide) ?_
      have hf := som_e hf
      subst hf
      exact j_iret C hO dX9_compare_63
  · intro q12 eq12 H locs ls hO hl
    subst eq12
    have hf := sel_r hf
    have hf := sel_r hf
    refine lv_lload C.1 C.2.1 dX9_compare_86 (lv_at hl 0 rfl) ?_
    refine lv_lload C.1 C.2.1 dX9_compare_88 (lv_at hl 1 rfl) ?_
    refine j_lcmp_ge (tgt := 98) C rfl rfl dX9_compare_90 dX9_compare_91 (by decide) (fun c13 => ?_) (fun c13 => ?_)
    · have hf := (if_pos c13).symm.trans hf
      refine lv_iconst (v := Int32.ofInt 1) C.1 C.2.1 dX9_compare_98 rfl ?_
      have hf := som_e hf
      subst hf
      exact j_iret C hO dX9_compare_99
    · have hf := (if_neg c13).symm.trans hf
      refine lv_iconst (v := Int32.ofInt (-1)) C.1 C.2.1 dX9_compare_94 rfl ?_
      refine lv_goto (tgt := 99) C.1 C.2.1 dX9_compare_95 (by decide) ?_
      have hf := som_e hf
      subst hf
      exact j_iret C hO dX9_compare_99
set_option maxHeartbeats 1000000 in
theorem c_X9_compare (l : Launch) (G : jG)  (M : jM) (l0 l2 l4 l6 : Int) {fin : Int} (h : f_X9_compare M l0 l2 l4 l6 = some fin) : Met l yX9_compare (Cond.code yX9_compare cX9_compare 25 (some .int) :: wsL_law) ({ frames := 0, cells := 0, slots := 0, locals := 0 } : Room) (va_Pc [vL l0, vL l2, vL l4, vL l6] (fun U => jRep G M U)) (jQ G (some (vI fin)) M) 0 0 (jA G) := by
  refine Met.ofW (cc := cX9_compare) (maxL := 25) (ret := (some .int)) (by decide) rfl ?_
  intro p e s m args below meth c s₁ B hml hv
  obtain ⟨rfl, hR0⟩ := hv
  have C : jCx p s m ([vL l0, vL l2, vL l4, vL l6] : List Value).toArray meth c cX9_compare 25 RX9 (Cond.code yX9_compare cX9_compare 25 (some .int)) (some .int) := ⟨B.exec, B.bytes, hml, findClass_of_methodNamed B.named, atoms_spec B.pre, B.returns, B.notSynchronized⟩
  have hO := hR0.ok
  have hl := lv_entry ([vL l0, vL l2, vL l4, vL l6]) (n := 25) (Nat.le_of_ble_eq_true rfl)
  rw [lg_entry_eq]
  generalize (lg_sl ([vL l0, vL l2, vL l4, vL l6]) ++ List.replicate (25 - (lg_sl ([vL l0, vL l2, vL l4, vL l6])).length) Slot.unset).toArray = ls at hl ⊢
  have hl : lv_has ls 25 [(0, vL l0), (2, vL l2), (4, vL l4), (6, vL l6)] := hl
  exact w_X9_compare C (Nat.le_refl _) (Nat.le_refl _) M l0 l2 l4 l6  h hO hl
set_option maxHeartbeats 4000000 in
theorem w_X1_consider_51 {p : Program} {l : Launch} {e : Env} {R : Room} {s : State} {m : MethodId} {args : Array Value} {below : List Frame} {meth : Method} {c : Code} {H : Heap} {locs : List Loc} {ls : Array Slot} {G : jG}  (C : jCx p s m args meth c cX1_consider 7 RX1 (Cond.code yX1_consider cX1_consider 7 none) none) (hRf : 1 ≤ R.frames) (hRl : 44 ≤ R.locals)  (M : jM) (l0 l1 l3 : Int) (h0 : jkd l0 = (1, 0)) {fin : jM} (hf : f_X1_consider_51 M l0 l1 l3 = some fin) (hO : jOk G M s H locs) (hl : lv_has ls 7 [(0, jR G l0), (1, vL l1), (3, vL l3)]) : W p l e R s m args below meth c H locs 0 0 (MQ below (jQ G none fin) args s 0 0 (jA G)) (F0 m 51 ls []) := by
  unfold f_X1_consider_51 at hf
  refine lv_aload_n C.1 C.2.1 dX1_consider_51 rfl (lv_at hl 0 rfl) ?_
  refine lv_iconst (v := Int32.ofInt 1) C.1 C.2.1 dX1_consider_52 rfl ?_
  obtain ⟨M3, hM3, hf⟩ := lt1_e hf
  refine j_put C hO (ci := 1) (k := 2) (x := 1) h0 rfl inlX1 tyX1_ok nmX1 (by decide) kF_28_11 rfl rfl (jz_n (Or.inr rfl)) (jz_f (Or.inr rfl)) (by simp [jfl]) (fs_1_2) dX1_consider_53 (fun H locs hO => ?_)
  rw [← hM3] at hO
  refine lv_aload_n C.1 C.2.1 dX1_consider_56 rfl (lv_at hl 0 rfl) ?_
  refine j_get C hO (ci := 1) (k := 0) (v := jR G (jpt l0 0)) h0 rfl inlX1 (by decide) kF_5_2 rfl rfl dX1_consider_57 ?_
  refine lv_aload_n C.1 C.2.1 dX1_consider_60 rfl (lv_at hl 0 rfl) ?_
  refine j_get C hO (ci := 1) (k := 1) (v := jR G (jpt l0 1)) h0 rfl inlX1 (by decide) kF_5_3 rfl rfl dX1_consider_61 ?_
  obtain ⟨r4, hr4, hf⟩ := bnd_e hf
  refine j_callV C hO (n := 1) (As := [jR G (jpt l0 1)]) (st1 := []) (c_X3_copy l G M3 (jpt l0 0) (jpt l0 1) (tp_1_0 h0) (tp_1_1 h0) hr4) (tp_1_0 h0) rfl kC_18_10 kM_29_3 kI_18_8 kS_18_9 kN_3_8 ⟨by decide, by decide, by decide⟩ ⟨Nat.le_trans (by decide) hRf, Nat.le_trans (by decide) hRl⟩ rfl rfl rfl hl.1 rfl (Nat.le_of_ble_eq_true rfl) ⟨Nat.zero_le _, Nat.zero_le _⟩ dX1_consider_64 rfl (fun H locs hO => ?_)
  refine lv_aload_n C.1 C.2.1 dX1_consider_67 rfl (lv_at hl 0 rfl) ?_
  refine lv_lload_n C.1 C.2.1 dX1_consider_68 rfl (lv_at hl 1 rfl) ?_
  obtain ⟨M5, hM5, hf⟩ := lt1_e hf
  refine j_put C hO (ci := 1) (k := 3) (x := l1) h0 rfl inlX1 tyX1_ok nmX1 (by decide) kF_28_23 rfl rfl rfl rfl (by simp [jfl]) (fs_1_3) dX1_consider_69 (fun H locs hO => ?_)
  rw [← hM5] at hO
  refine lv_aload_n C.1 C.2.1 dX1_consider_72 rfl (lv_at hl 0 rfl) ?_
  refine lv_lload_n C.1 C.2.1 dX1_consider_73 rfl (lv_at hl 2 rfl) ?_
  obtain ⟨M6, hM6, hf⟩ := lt1_e hf
  refine j_put C hO (ci := 1) (k := 4) (x := l3) h0 rfl inlX1 tyX1_ok nmX1 (by decide) kF_29_0 rfl rfl rfl rfl (by simp [jfl]) (fs_1_4) dX1_consider_74 (fun H locs hO => ?_)
  rw [← hM6] at hO
  have hf := som_e hf
  subst hf
  exact j_vret C hO dX1_consider_77
set_option maxHeartbeats 4000000 in
theorem w_X1_consider_24 {p : Program} {l : Launch} {e : Env} {R : Room} {s : State} {m : MethodId} {args : Array Value} {below : List Frame} {meth : Method} {c : Code} {H : Heap} {locs : List Loc} {ls : Array Slot} {G : jG}  (C : jCx p s m args meth c cX1_consider 7 RX1 (Cond.code yX1_consider cX1_consider 7 none) none) (hRf : 1 ≤ R.frames) (hRl : 44 ≤ R.locals)  (M : jM) (l0 l1 l3 l5 s0 : Int) (h0 : jkd l0 = (1, 0)) {fin : jM} (hf : f_X1_consider_24 M l0 l1 l3 l5 s0 = some fin) (hO : jOk G M s H locs) (hl : lv_has ls 7 [(0, jR G l0), (1, vL l1), (3, vL l3), (5, vI l5)]) : W p l e R s m args below meth c H locs 0 0 (MQ below (jQ G none fin) args s 0 0 (jA G)) (F0 m 24 ls [vI s0]) := by
  unfold f_X1_consider_24 at hf
  refine lv_istore (lv' := [(6, vI s0), (0, jR G l0), (1, vL l1), (3, vL l3), (5, vI l5)]) C.1 C.2.1 dX1_consider_24 hl (by decide) rfl (fun ls hl => ?_)
  refine lv_aload_n C.1 C.2.1 dX1_consider_26 rfl (lv_at hl 1 rfl) ?_
  refine j_get C hO (ci := 1) (k := 2) (v := vI (M l0 2)) h0 rfl inlX1 (by decide) kF_28_11 rfl rfl dX1_consider_27 ?_
  refine j_if_eq (tgt := 51) C rfl dX1_consider_30 (by decide) (fun c2 => ?_) (fun c2 => ?_)
  · have hf := (if_pos c2).symm.trans hf
    exact w_X1_consider_51 C hRf hRl M l0 l1 l3 h0 hf hO (lv_sub hl [1, 2, 3] rfl)
  · have hf := (if_neg c2).symm.trans hf
    refine lv_iload C.1 C.2.1 dX1_consider_33 (lv_at hl 4 rfl) ?_
    refine j_if_eq (tgt := 46) C rfl dX1_consider_35 (by decide) (fun c7 => ?_) (fun c7 => ?_)
    · have hf := (if_pos c7).symm.trans hf
      refine lv_iload C.1 C.2.1 dX1_consider_46 (lv_at hl 0 rfl) ?_
      refine j_if_ge (tgt := 77) C rfl dX1_consider_48 (by decide) (fun c8 => ?_) (fun c8 => ?_)
      · have hf := (if_pos c8).symm.trans hf
        have hf := som_e hf
        subst hf
        exact j_vret C hO dX1_consider_77
      · have hf := (if_neg c8).symm.trans hf
        exact w_X1_consider_51 C hRf hRl M l0 l1 l3 h0 hf hO (lv_sub hl [1, 2, 3] rfl)
    · have hf := (if_neg c7).symm.trans hf
      refine lv_iload C.1 C.2.1 dX1_consider_38 (lv_at hl 0 rfl) ?_
      refine j_if_le (tgt := 77) C rfl dX1_consider_40 (by decide) (fun c9 => ?_) (fun c9 => ?_)
      · have hf := (if_pos c9).symm.trans hf
        have hf := som_e hf
        subst hf
        exact j_vret C hO dX1_consider_77
      · have hf := (if_neg c9).symm.trans hf
        refine lv_goto (tgt := 51) C.1 C.2.1 dX1_consider_43 (by decide) ?_
        exact w_X1_consider_51 C hRf hRl M l0 l1 l3 h0 hf hO (lv_sub hl [1, 2, 3] rfl)
set_option maxHeartbeats 4000000 in
theorem w_X1_consider {p : Program} {l : Launch} {e : Env} {R : Room} {s : State} {m : MethodId} {args : Array Value} {below : List Frame} {meth : Method} {c : Code} {H : Heap} {locs : List Loc} {ls : Array Slot} {G : jG}  (C : jCx p s m args meth c cX1_consider 7 RX1 (Cond.code yX1_consider cX1_consider 7 none) none) (hRf : 1 ≤ R.frames) (hRl : 44 ≤ R.locals)  (M : jM) (l0 l1 l3 l5 : Int) (h0 : jkd l0 = (1, 0)) {fin : jM} (hf : f_X1_consider M l0 l1 l3 l5 = some fin) (hO : jOk G M s H locs) (hl : lv_has ls 7 [(0, jR G l0), (1, vL l1), (3, vL l3), (5, vI l5)]) : W p l e R s m args below meth c H locs 0 0 (MQ below (jQ G none fin) args s 0 0 (jA G)) (F0 m 0 ls []) := by
  unfold f_X1_consider at hf
  refine lv_aload_n C.1 C.2.1 dX1_consider_0 rfl (lv_at hl 0 rfl) ?_
  refine j_get C hO (ci := 1) (k := 2) (v := vI (M l0 2)) h0 rfl inlX1 (by decide) kF_28_11 rfl rfl dX1_consider_1 ?_
  refine j_if_eq (tgt := 23) C rfl dX1_consider_4 (by decide) (fun c1 => ?_) (fun c1 => ?_)
  · have hf := (if_pos c1).symm.trans hf
    refine lv_iconst (v := Int32.ofInt 0) C.1 C.2.1 dX1_consider_23 rfl ?_
    exact w_X1_consider_24 C hRf hRl M l0 l1 l3 l5 0 h0 hf hO (lv_sub hl [0, 1, 2, 3] rfl)
  · have hf := (if_neg c1).symm.trans hf
    refine lv_lload_n C.1 C.2.1 dX1_consider_7 rfl (lv_at hl 1 rfl) ?_
    refine lv_lload_n C.1 C.2.1 dX1_consider_8 rfl (lv_at hl 2 rfl) ?_
    refine lv_aload_n C.1 C.2.1 dX1_consider_9 rfl (lv_at hl 0 rfl) ?_
    refine j_get C hO (ci := 1) (k := 3) (v := vL (M l0 3)) h0 rfl inlX1 (by decide) kF_28_23 rfl rfl dX1_consider_10 ?_
    refine lv_aload_n C.1 C.2.1 dX1_consider_13 rfl (lv_at hl 0 rfl) ?_
    refine j_get C hO (ci := 1) (k := 4) (v := vL (M l0 4)) h0 rfl inlX1 (by decide) kF_29_0 rfl rfl dX1_consider_14 ?_
    obtain ⟨r10, hr10, hf⟩ := bnd_e hf
    refine j_callSN C hO (n := 4) (As := [vL l1, vL l3, vL (M l0 3), vL (M l0 4)]) (st1 := [vI r10]) (host := RX9) (c_X9_compare l G M l1 l3 (M l0 3) (M l0 4)  hr10) kC_29_2 (by simp [jnests]) kT_29_1 kN_1_2 ⟨by decide, by decide, by decide⟩ ⟨Nat.le_trans (by decide) hRf, Nat.le_trans (by decide) hRl⟩ rfl rfl rfl hl.1 rfl (Nat.le_of_ble_eq_true rfl) ⟨Nat.zero_le _, Nat.zero_le _⟩ dX1_consider_17 rfl (fun H locs hO => ?_)
    refine lv_goto (tgt := 24) C.1 C.2.1 dX1_consider_20 (by decide) ?_
    exact w_X1_consider_24 C hRf hRl M l0 l1 l3 l5 r10 h0 hf hO (lv_sub hl [0, 1, 2, 3] rfl)
set_option maxHeartbeats 1000000 in
theorem c_X1_consider (l : Launch) (G : jG)  (M : jM) (l0 l1 l3 l5 : Int) (h0 : jkd l0 = (1, 0)) {fin : jM} (h : f_X1_consider M l0 l1 l3 l5 = some fin) : Met l yX1_consider (Cond.code yX1_consider cX1_consider 7 none :: wsL_law) ({ frames := 1, cells := 0, slots := 0, locals := 44 } : Room) (va_Pc [jR G l0, vL l1, vL l3, vI l5] (fun U => jRep G M U)) (jQ G none fin) 0 0 (jA G) := by
  refine Met.ofW (cc := cX1_consider) (maxL := 7) (ret := none) (by decide) rfl ?_
  intro p e s m args below meth c s₁ B hml hv
  obtain ⟨rfl, hR0⟩ := hv
  have C : jCx p s m ([jR G l0, vL l1, vL l3, vI l5] : List Value).toArray meth c cX1_consider 7 RX1 (Cond.code yX1_consider cX1_consider 7 none) none := ⟨B.exec, B.bytes, hml, findClass_of_methodNamed B.named, atoms_spec B.pre, B.returns, B.notSynchronized⟩
  have hO := hR0.ok
  have hl := lv_entry ([jR G l0, vL l1, vL l3, vI l5]) (n := 7) (Nat.le_of_ble_eq_true rfl)
  rw [lg_entry_eq]
  generalize (lg_sl ([jR G l0, vL l1, vL l3, vI l5]) ++ List.replicate (7 - (lg_sl ([jR G l0, vL l1, vL l3, vI l5])).length) Slot.unset).toArray = ls at hl ⊢
  have hl : lv_has ls 7 [(0, jR G l0), (1, vL l1), (3, vL l3), (5, vI l5)] := hl
  exact w_X1_consider C (Nat.le_refl _) (Nat.le_refl _) M l0 l1 l3 l5 h0 h hO hl
set_option maxHeartbeats 4000000 in
theorem w_X1_considerWait {p : Program} {l : Launch} {e : Env} {R : Room} {s : State} {m : MethodId} {args : Array Value} {below : List Frame} {meth : Method} {c : Code} {H : Heap} {locs : List Loc} {ls : Array Slot} {G : jG}  (C : jCx p s m args meth c cX1_considerWait 3 RX1 (Cond.code yX1_considerWait cX1_considerWait 3 none) none) (hRf : 2 ≤ R.frames) (hRl : 70 ≤ R.locals)  (M : jM) (l0 l1 l2 : Int) (h0 : jkd l0 = (1, 0)) (h1 : jkd l1 = (6, 0)) {fin : jM} (hf : f_X1_considerWait M l0 l1 l2 = some fin) (hO : jOk G M s H locs) (hl : lv_has ls 3 [(0, jR G l0), (1, jR G l1), (2, vI l2)]) : W p l e R s m args below meth c H locs 0 0 (MQ below (jQ G none fin) args s 0 0 (jA G)) (F0 m 0 ls []) := by
  unfold f_X1_considerWait at hf
  refine lv_aload_n C.1 C.2.1 dX1_considerWait_0 rfl (lv_at hl 0 rfl) ?_
  refine lv_aload_n C.1 C.2.1 dX1_considerWait_1 rfl (lv_at hl 1 rfl) ?_
  refine lv_aload_n C.1 C.2.1 dX1_considerWait_2 rfl (lv_at hl 0 rfl) ?_
  refine j_get C hO (ci := 1) (k := 1) (v := jR G (jpt l0 1)) h0 rfl inlX1 (by decide) kF_5_3 rfl rfl dX1_considerWait_3 ?_
  refine lv_aload_n C.1 C.2.1 dX1_considerWait_6 rfl (lv_at hl 0 rfl) ?_
  refine j_get C hO (ci := 1) (k := 1) (v := jR G (jpt l0 1)) h0 rfl inlX1 (by decide) kF_5_3 rfl rfl dX1_considerWait_7 ?_
  obtain ⟨r1, hr1, hf⟩ := bnd_e hf
  refine j_callV C hO (n := 2) (As := [jR G (jpt l0 1), jR G (jpt l0 1)]) (st1 := [vL r1, jR G l0]) (c_X6_lap l G M l1 (jpt l0 1) (jpt l0 1) h1 (tp_1_1 h0) (tp_1_1 h0) hr1) h1 rfl kC_21_20 kM_31_22 kI_21_18 kS_21_19 kN_2_4 ⟨by decide, by decide, by decide⟩ ⟨Nat.le_trans (by decide) hRf, Nat.le_trans (by decide) hRl⟩ rfl rfl rfl hl.1 rfl (Nat.le_of_ble_eq_true rfl) ⟨Nat.zero_le _, Nat.zero_le _⟩ dX1_considerWait_10 rfl (fun H locs hO => ?_)
  refine lv_aload_n C.1 C.2.1 dX1_considerWait_13 rfl (lv_at hl 1 rfl) ?_
  refine lv_aload_n C.1 C.2.1 dX1_considerWait_14 rfl (lv_at hl 0 rfl) ?_
  refine j_get C hO (ci := 1) (k := 1) (v := jR G (jpt l0 1)) h0 rfl inlX1 (by decide) kF_5_3 rfl rfl dX1_considerWait_15 ?_
  obtain ⟨r2, hr2, hf⟩ := bnd_e hf
  refine j_callV C hO (n := 1) (As := [jR G (jpt l0 1)]) (st1 := [vL r2, vL r1, jR G l0]) (c_X6_product l G M l1 (jpt l0 1) h1 (tp_1_1 h0) hr2) h1 rfl kC_22_9 kM_31_23 kI_22_7 kS_22_8 kN_2_4 ⟨by decide, by decide, by decide⟩ ⟨Nat.le_trans (by decide) hRf, Nat.le_trans (by decide) hRl⟩ rfl rfl rfl hl.1 rfl (Nat.le_of_ble_eq_true rfl) ⟨Nat.zero_le _, Nat.zero_le _⟩ dX1_considerWait_18 rfl (fun H locs hO => ?_)
  refine lv_iload_n C.1 C.2.1 dX1_considerWait_21 rfl (lv_at hl 2 rfl) ?_
  obtain ⟨r3, hr3, hf⟩ := bnd_e hf
  refine j_callV C hO (n := 3) (As := [vL r1, vL r2, vI l2]) (st1 := []) (c_X1_consider l G M l0 r1 r2 l2 h0 hr3) h0 rfl kC_28_22 kM_28_19 kI_28_20 kS_28_21 kN_2_12 ⟨by decide, by decide, by decide⟩ ⟨Nat.le_trans (by decide) hRf, Nat.le_trans (by decide) hRl⟩ rfl rfl rfl hl.1 rfl (Nat.le_of_ble_eq_true rfl) ⟨Nat.zero_le _, Nat.zero_le _⟩ dX1_considerWait_22 rfl (fun H locs hO => ?_)
  have hf := som_e hf
  subst hf
  exact j_vret C hO dX1_considerWait_25
set_option maxHeartbeats 1000000 in
theorem c_X1_considerWait (l : Launch) (G : jG)  (M : jM) (l0 l1 l2 : Int) (h0 : jkd l0 = (1, 0)) (h1 : jkd l1 = (6, 0)) {fin : jM} (h : f_X1_considerWait M l0 l1 l2 = some fin) : Met l yX1_considerWait (Cond.code yX1_considerWait cX1_considerWait 3 none :: wsL_law) ({ frames := 2, cells := 0, slots := 0, locals := 70 } : Room) (va_Pc [jR G l0, jR G l1, vI l2] (fun U => jRep G M U)) (jQ G none fin) 0 0 (jA G) := by
  refine Met.ofW (cc := cX1_considerWait) (maxL := 3) (ret := none) (by decide) rfl ?_
  intro p e s m args below meth c s₁ B hml hv
  obtain ⟨rfl, hR0⟩ := hv
  have C : jCx p s m ([jR G l0, jR G l1, vI l2] : List Value).toArray meth c cX1_considerWait 3 RX1 (Cond.code yX1_considerWait cX1_considerWait 3 none) none := ⟨B.exec, B.bytes, hml, findClass_of_methodNamed B.named, atoms_spec B.pre, B.returns, B.notSynchronized⟩
  have hO := hR0.ok
  have hl := lv_entry ([jR G l0, jR G l1, vI l2]) (n := 3) (Nat.le_of_ble_eq_true rfl)
  rw [lg_entry_eq]
  generalize (lg_sl ([jR G l0, jR G l1, vI l2]) ++ List.replicate (3 - (lg_sl ([jR G l0, jR G l1, vI l2])).length) Slot.unset).toArray = ls at hl ⊢
  have hl : lv_has ls 3 [(0, jR G l0), (1, jR G l1), (2, vI l2)] := hl
  exact w_X1_considerWait C (Nat.le_refl _) (Nat.le_refl _) M l0 l1 l2 h0 h1 h hO hl
set_option maxHeartbeats 4000000 in
theorem w_X1_findBest_58 {p : Program} {l : Launch} {e : Env} {R : Room} {s : State} {m : MethodId} {args : Array Value} {below : List Frame} {meth : Method} {c : Code} {H : Heap} {locs : List Loc} {ls : Array Slot} {G : jG}  (C : jCx p s m args meth c cX1_findBest 7 RX1 (Cond.code yX1_findBest cX1_findBest 7 (some .boolean)) (some .boolean)) (hRf : 4 ≤ R.frames) (hRl : 86 ≤ R.locals)  (M : jM) (l0 l1 l2 l3 l6 : Int) (h0 : jkd l0 = (1, 0)) (h1 : jkd l1 = (6, 0)) (h2 : jkd l2 = (2, 0)) (h3 : jkd l3 = (3, 0)) {fin : Int × jM} {rr : (jM × Int × Int) ⊕ jM} (hf : f_X1_findBest_58 M l0 l1 l2 l3 l6 = some rr) (kc : ∀ q : jM × Int × Int, rr = .inl q → ∀ (H : Heap) (locs : List Loc) (ls : Array Slot), jOk G q.1 s H locs → lv_has ls 7 [(0, jR G l0), (1, jR G l1), (2, jR G l2), (3, jR G l3), (5, vI q.2.1), (6, vI q.2.2)] → W p l e R s m args below meth c H locs 0 0 (MQ below (jQ G (some (vI fin.1)) fin.2) args s 0 0 (jA G)) (F0 m 12 ls [])) (kx0 : ∀ q : jM, rr = .inr q → ∀ (H : Heap) (locs : List Loc) (ls : Array Slot), jOk G q s H locs → lv_has ls 7 [(0, jR G l0)] → W p l e R s m args below meth c H locs 0 0 (MQ below (jQ G (some (vI fin.1)) fin.2) args s 0 0 (jA G)) (F0 m 77 ls [])) (hO : jOk G M s H locs) (hl : lv_has ls 7 [(0, jR G l0), (1, jR G l1), (2, jR G l2), (3, jR G l3), (6, vI l6)]) : W p l e R s m args below meth c H locs 0 0 (MQ below (jQ G (some (vI fin.1)) fin.2) args s 0 0 (jA G)) (F0 m 58 ls []) := by
  unfold f_X1_findBest_58 at hf
  refine lv_aload_n C.1 C.2.1 dX1_findBest_58 rfl (lv_at hl 0 rfl) ?_
  refine j_get C hO (ci := 1) (k := 1) (v := jR G (jpt l0 1)) h0 rfl inlX1 (by decide) kF_5_3 rfl rfl dX1_findBest_59 ?_
  refine lv_aload_n C.1 C.2.1 dX1_findBest_62 rfl (lv_at hl 1 rfl) ?_
  refine j_get C hO (ci := 6) (k := 0) (v := vI (M l1 0)) h1 rfl inlX6 (by decide) kF_28_10 rfl rfl dX1_findBest_63 ?_
  obtain ⟨r6, hr6, hf⟩ := bnd_e hf
  refine j_callV C hO (n := 1) (As := [vI (M l1 0)]) (st1 := [vI r6.1]) (c_X3_stepOn l G M (jpt l0 1) (M l1 0) (tp_1_1 h0) hr6) (tp_1_1 h0) rfl kC_29_7 kM_29_4 kI_29_5 kS_29_6 kN_3_8 ⟨by decide, by decide, by decide⟩ ⟨Nat.le_trans (by decide) hRf, Nat.le_trans (by decide) hRl⟩ rfl rfl rfl hl.1 rfl (Nat.le_of_ble_eq_true rfl) ⟨Nat.zero_le _, Nat.zero_le _⟩ dX1_findBest_66 rfl (fun H locs hO => ?_)
  refine lv_istore (lv' := [(5, vI r6.1), (0, jR G l0), (1, jR G l1), (2, jR G l2), (3, jR G l3), (6, vI l6)]) C.1 C.2.1 dX1_findBest_69 hl (by decide) rfl (fun ls hl => ?_)
  refine lv_iinc (v := Int32.ofInt (l6 + 1)) (lv' := [(6, vI (l6 + 1)), (5, vI r6.1), (0, jR G l0), (1, jR G l1), (2, jR G l2), (3, jR G l3)]) C.1 C.2.1 dX1_findBest_71 hl (k := 5) rfl (Int32.ofInt_add _ _).symm (by decide) rfl (fun ls hl => ?_)
  refine lv_goto (tgt := 12) C.1 C.2.1 dX1_findBest_74 (by decide) ?_
  exact kc _ (som_e hf).symm _ _ _ hO (lv_sub hl [2, 3, 4, 5, 1, 0] rfl)
set_option maxHeartbeats 4000000 in
theorem w_X1_findBest_L12 {p : Program} {l : Launch} {e : Env} {R : Room} {s : State} {m : MethodId} {args : Array Value} {below : List Frame} {meth : Method} {c : Code} {H : Heap} {locs : List Loc} {ls : Array Slot} {G : jG}  (C : jCx p s m args meth c cX1_findBest 7 RX1 (Cond.code yX1_findBest cX1_findBest 7 (some .boolean)) (some .boolean)) (hRf : 4 ≤ R.frames) (hRl : 86 ≤ R.locals)  (M : jM) (l0 l1 l2 l3 : Int) (h0 : jkd l0 = (1, 0)) (h1 : jkd l1 = (6, 0)) (h2 : jkd l2 = (2, 0)) (h3 : jkd l3 = (3, 0)) {fin : Int × jM} (S : jM × Int × Int) {rr : (jM × Int × Int) ⊕ jM} (hf : f_X1_findBest_L12 M l0 l1 l2 l3 S = some rr) (kc : ∀ q : jM × Int × Int, rr = .inl q → ∀ (H : Heap) (locs : List Loc) (ls : Array Slot), jOk G q.1 s H locs → lv_has ls 7 [(0, jR G l0), (1, jR G l1), (2, jR G l2), (3, jR G l3), (5, vI q.2.1), (6, vI q.2.2)] → W p l e R s m args below meth c H locs 0 0 (MQ below (jQ G (some (vI fin.1)) fin.2) args s 0 0 (jA G)) (F0 m 12 ls [])) (kx0 : ∀ q : jM, rr = .inr q → ∀ (H : Heap) (locs : List Loc) (ls : Array Slot), jOk G q s H locs → lv_has ls 7 [(0, jR G l0)] → W p l e R s m args below meth c H locs 0 0 (MQ below (jQ G (some (vI fin.1)) fin.2) args s 0 0 (jA G)) (F0 m 77 ls [])) (hO : jOk G S.1 s H locs) (hl : lv_has ls 7 [(0, jR G l0), (1, jR G l1), (2, jR G l2), (3, jR G l3), (5, vI S.2.1), (6, vI S.2.2)]) : W p l e R s m args below meth c H locs 0 0 (MQ below (jQ G (some (vI fin.1)) fin.2) args s 0 0 (jA G)) (F0 m 12 ls []) := by
  unfold f_X1_findBest_L12 at hf
  refine lv_iload C.1 C.2.1 dX1_findBest_12 (lv_at hl 5 rfl) ?_
  refine lv_bipush (v := Int32.ofInt 81) C.1 C.2.1 dX1_findBest_14 (by decide) ?_
  refine j_icmp_ge (tgt := 77) C rfl (w32_id (by decide) (by decide)) dX1_findBest_16 (by decide) (fun c2 => ?_) (fun c2 => ?_)
  · have hf := (if_pos c2).symm.trans hf
    exact kx0 _ (som_e hf).symm _ _ _ hO (lv_sub hl [0] rfl)
  · have hf := (if_neg c2).symm.trans hf
    refine lv_iload C.1 C.2.1 dX1_findBest_19 (lv_at hl 4 rfl) ?_
    refine j_if_eq (tgt := 77) C rfl dX1_findBest_21 (by decide) (fun c3 => ?_) (fun c3 => ?_)
    · have hf := (if_pos c3).symm.trans hf
      exact kx0 _ (som_e hf).symm _ _ _ hO (lv_sub hl [0] rfl)
    · have hf := (if_neg c3).symm.trans hf
      refine lv_aload_n C.1 C.2.1 dX1_findBest_24 rfl (lv_at hl 0 rfl) ?_
      refine j_get C hO (ci := 1) (k := 1) (v := jR G (jpt l0 1)) h0 rfl inlX1 (by decide) kF_5_3 rfl rfl dX1_findBest_25 ?_
      refine lv_aload_n C.1 C.2.1 dX1_findBest_28 rfl (lv_at hl 3 rfl) ?_
      obtain ⟨r4, hr4, hf⟩ := bnd_e hf
      refine j_callV C hO (n := 1) (As := [jR G l3]) (st1 := [vI r4]) (c_X3_isApart l G S.1 (jpt l0 1) l3 (tp_1_1 h0) h3 hr4) (tp_1_1 h0) rfl kC_24_15 kM_28_17 kI_24_13 kS_24_14 kN_3_8 ⟨by decide, by decide, by decide⟩ ⟨Nat.le_trans (by decide) hRf, Nat.le_trans (by decide) hRl⟩ rfl rfl rfl hl.1 rfl (Nat.le_of_ble_eq_true rfl) ⟨Nat.zero_le _, Nat.zero_le _⟩ dX1_findBest_29 rfl (fun H locs hO => ?_)
      refine j_if_eq (tgt := 58) C rfl dX1_findBest_32 (by decide) (fun c5 => ?_) (fun c5 => ?_)
      · have hf := (if_pos c5).symm.trans hf
        exact w_X1_findBest_58 C hRf hRl S.1 l0 l1 l2 l3 S.2.2 h0 h1 h2 h3 hf kc kx0 hO (lv_sub hl [0, 1, 2, 3, 5] rfl)
      · have hf := (if_neg c5).symm.trans hf
        refine lv_aload_n C.1 C.2.1 dX1_findBest_35 rfl (lv_at hl 2 rfl) ?_
        refine lv_aload_n C.1 C.2.1 dX1_findBest_36 rfl (lv_at hl 1 rfl) ?_
        refine lv_aload_n C.1 C.2.1 dX1_findBest_37 rfl (lv_at hl 0 rfl) ?_
        refine j_get C hO (ci := 1) (k := 1) (v := jR G (jpt l0 1)) h0 rfl inlX1 (by decide) kF_5_3 rfl rfl dX1_findBest_38 ?_
        refine lv_aload_n C.1 C.2.1 dX1_findBest_41 rfl (lv_at hl 3 rfl) ?_
        obtain ⟨r7, hr7, hf⟩ := bnd_e hf
        refine j_callV C hO (n := 3) (As := [jR G l1, jR G (jpt l0 1), jR G l3]) (st1 := []) (c_X2_measure l G S.1 l2 l1 (jpt l0 1) l3 h2 h1 (tp_1_1 h0) h3 hr7) h2 rfl kC_25_4 kM_28_18 kI_25_2 kS_25_3 kN_2_8 ⟨by decide, by decide, by decide⟩ ⟨Nat.le_trans (by decide) hRf, Nat.le_trans (by decide) hRl⟩ rfl rfl rfl hl.1 rfl (Nat.le_of_ble_eq_true rfl) ⟨Nat.zero_le _, Nat.zero_le _⟩ dX1_findBest_42 rfl (fun H locs hO => ?_)
        refine lv_aload_n C.1 C.2.1 dX1_findBest_45 rfl (lv_at hl 0 rfl) ?_
        refine lv_aload_n C.1 C.2.1 dX1_findBest_46 rfl (lv_at hl 2 rfl) ?_
        refine j_get C hO (ci := 2) (k := 0) (v := vL (r7 l2 0)) h2 rfl inlX2 (by decide) kF_28_8 rfl rfl dX1_findBest_47 ?_
        refine lv_aload_n C.1 C.2.1 dX1_findBest_50 rfl (lv_at hl 2 rfl) ?_
        refine j_get C hO (ci := 2) (k := 2) (v := vL (r7 l2 2)) h2 rfl inlX2 (by decide) kF_28_9 rfl rfl dX1_findBest_51 ?_
        refine lv_iconst (v := Int32.ofInt 1) C.1 C.2.1 dX1_findBest_54 rfl ?_
        obtain ⟨r8, hr8, hf⟩ := bnd_e hf
        refine j_callV C hO (n := 3) (As := [vL (r7 l2 0), vL (r7 l2 2), vI 1]) (st1 := []) (c_X1_consider l G r7 l0 (r7 l2 0) (r7 l2 2) 1 h0 hr8) h0 rfl kC_28_22 kM_28_19 kI_28_20 kS_28_21 kN_2_12 ⟨by decide, by decide, by decide⟩ ⟨Nat.le_trans (by decide) hRf, Nat.le_trans (by decide) hRl⟩ rfl rfl rfl hl.1 rfl (Nat.le_of_ble_eq_true rfl) ⟨Nat.zero_le _, Nat.zero_le _⟩ dX1_findBest_55 rfl (fun H locs hO => ?_)
        exact w_X1_findBest_58 C hRf hRl r8 l0 l1 l2 l3 S.2.2 h0 h1 h2 h3 hf kc kx0 hO (lv_sub hl [0, 1, 2, 3, 5] rfl)
set_option maxHeartbeats 4000000 in
theorem w_X1_findBest {p : Program} {l : Launch} {e : Env} {R : Room} {s : State} {m : MethodId} {args : Array Value} {below : List Frame} {meth : Method} {c : Code} {H : Heap} {locs : List Loc} {ls : Array Slot} {G : jG}  (C : jCx p s m args meth c cX1_findBest 7 RX1 (Cond.code yX1_findBest cX1_findBest 7 (some .boolean)) (some .boolean)) (hRf : 4 ≤ R.frames) (hRl : 86 ≤ R.locals)  (M : jM) (l0 l1 l2 l3 l4 : Int) (h0 : jkd l0 = (1, 0)) (h1 : jkd l1 = (6, 0)) (h2 : jkd l2 = (2, 0)) (h3 : jkd l3 = (3, 0)) {fin : Int × jM} (hf : f_X1_findBest M l0 l1 l2 l3 l4 = some fin) (hO : jOk G M s H locs) (hl : lv_has ls 7 [(0, jR G l0), (1, jR G l1), (2, jR G l2), (3, jR G l3), (4, vI l4)]) : W p l e R s m args below meth c H locs 0 0 (MQ below (jQ G (some (vI fin.1)) fin.2) args s 0 0 (jA G)) (F0 m 0 ls []) := by
  unfold f_X1_findBest at hf
  refine lv_aload_n C.1 C.2.1 dX1_findBest_0 rfl (lv_at hl 0 rfl) ?_
  refine lv_iload C.1 C.2.1 dX1_findBest_1 (lv_at hl 4 rfl) ?_
  obtain ⟨r1, hr1, hf⟩ := bnd_e hf
  refine j_callV C hO (n := 1) (As := [vI l4]) (st1 := []) (c_X1_begin l G M l0 l4 h0 hr1) h0 rfl kC_28_15 kM_28_12 kI_28_13 kS_28_14 kN_2_12 ⟨by decide, by decide, by decide⟩ ⟨Nat.le_trans (by decide) hRf, Nat.le_trans (by decide) hRl⟩ rfl rfl rfl hl.1 rfl (Nat.le_of_ble_eq_true rfl) ⟨Nat.zero_le _, Nat.zero_le _⟩ dX1_findBest_3 rfl (fun H locs hO => ?_)
  refine lv_iconst (v := Int32.ofInt 1) C.1 C.2.1 dX1_findBest_6 rfl ?_
  refine lv_istore (lv' := [(5, vI 1), (0, jR G l0), (1, jR G l1), (2, jR G l2), (3, jR G l3), (4, vI l4)]) C.1 C.2.1 dX1_findBest_7 hl (by decide) rfl (fun ls hl => ?_)
  refine lv_iconst (v := Int32.ofInt 0) C.1 C.2.1 dX1_findBest_9 rfl ?_
  refine lv_istore (lv' := [(6, vI 0), (5, vI 1), (0, jR G l0), (1, jR G l1), (2, jR G l2), (3, jR G l3), (4, vI l4)]) C.1 C.2.1 dX1_findBest_10 hl (by decide) rfl (fun ls hl => ?_)
  obtain ⟨x9, hx9, hf⟩ := bnd_e hf
  refine iter_e (P := fun Z => ∀ (H : Heap) (locs : List Loc) (ls : Array Slot), jOk G Z.1 s H locs → lv_has ls 7 [(0, jR G l0), (1, jR G l1), (2, jR G l2), (3, jR G l3), (5, vI Z.2.1), (6, vI Z.2.2)] → W p l e R s m args below meth c H locs 0 0 (MQ below (jQ G (some (vI fin.1)) fin.2) args s 0 0 (jA G)) (F0 m 12 ls [])) (E := fun q => ∀ (H : Heap) (locs : List Loc) (ls : Array Slot), jOk G q s H locs → lv_has ls 7 [(0, jR G l0)] → W p l e R s m args below meth c H locs 0 0 (MQ below (jQ G (some (vI fin.1)) fin.2) args s 0 0 (jA G)) (F0 m 77 ls [])) (fun Z rr hb kc kx H locs ls hO hl => w_X1_findBest_L12 C hRf hRl r1 l0 l1 l2 l3 h0 h1 h2 h3 Z hb kc (fun q e => kx q e) hO hl) 5000 (r1, 1, 0) x9 hx9 ?_ _ _ _ hO (lv_sub hl [2, 3, 4, 5, 1, 0] rfl)
  clear hO hl
  intro H locs ls hO hl
  refine lv_aload_n C.1 C.2.1 dX1_findBest_77 rfl (lv_at hl 0 rfl) ?_
  refine j_get C hO (ci := 1) (k := 2) (v := vI (x9 l0 2)) h0 rfl inlX1 (by decide) kF_28_11 rfl rfl dX1_findBest_78 ?_
  obtain ⟨g10, hf⟩ := grd_e hf
  have hf := som_e hf
  subst hf
  exact j_zret C hO g10 dX1_findBest_81
set_option maxHeartbeats 1000000 in
theorem c_X1_findBest (l : Launch) (G : jG)  (M : jM) (l0 l1 l2 l3 l4 : Int) (h0 : jkd l0 = (1, 0)) (h1 : jkd l1 = (6, 0)) (h2 : jkd l2 = (2, 0)) (h3 : jkd l3 = (3, 0)) {fin : Int × jM} (h : f_X1_findBest M l0 l1 l2 l3 l4 = some fin) : Met l yX1_findBest (Cond.code yX1_findBest cX1_findBest 7 (some .boolean) :: wsL_law) ({ frames := 4, cells := 0, slots := 0, locals := 86 } : Room) (va_Pc [jR G l0, jR G l1, jR G l2, jR G l3, vI l4] (fun U => jRep G M U)) (jQ G (some (vI fin.1)) fin.2) 0 0 (jA G) := by
  refine Met.ofW (cc := cX1_findBest) (maxL := 7) (ret := (some .boolean)) (by decide) rfl ?_
  intro p e s m args below meth c s₁ B hml hv
  obtain ⟨rfl, hR0⟩ := hv
  have C : jCx p s m ([jR G l0, jR G l1, jR G l2, jR G l3, vI l4] : List Value).toArray meth c cX1_findBest 7 RX1 (Cond.code yX1_findBest cX1_findBest 7 (some .boolean)) (some .boolean) := ⟨B.exec, B.bytes, hml, findClass_of_methodNamed B.named, atoms_spec B.pre, B.returns, B.notSynchronized⟩
  have hO := hR0.ok
  have hl := lv_entry ([jR G l0, jR G l1, jR G l2, jR G l3, vI l4]) (n := 7) (Nat.le_of_ble_eq_true rfl)
  rw [lg_entry_eq]
  generalize (lg_sl ([jR G l0, jR G l1, jR G l2, jR G l3, vI l4]) ++ List.replicate (7 - (lg_sl ([jR G l0, jR G l1, jR G l2, jR G l3, vI l4])).length) Slot.unset).toArray = ls at hl ⊢
  have hl : lv_has ls 7 [(0, jR G l0), (1, jR G l1), (2, jR G l2), (3, jR G l3), (4, vI l4)] := hl
  exact w_X1_findBest C (Nat.le_refl _) (Nat.le_refl _) M l0 l1 l2 l3 l4 h0 h1 h2 h3 h hO hl
set_option maxHeartbeats 4000000 in
theorem w_X1_findSlowBest_63 {p : Program} {l : Launch} {e : Env} {R : Room} {s : State} {m : MethodId} {args : Array Value} {below : List Frame} {meth : Method} {c : Code} {H : Heap} {locs : List Loc} {ls : Array Slot} {G : jG}  (C : jCx p s m args meth c cX1_findSlowBest 7 RX1 (Cond.code yX1_findSlowBest cX1_findSlowBest 7 (some .boolean)) (some .boolean)) (hRf : 4 ≤ R.frames) (hRl : 92 ≤ R.locals)  (M : jM) (l0 l1 l2 l3 l6 : Int) (h0 : jkd l0 = (1, 0)) (h1 : jkd l1 = (6, 0)) (h2 : jkd l2 = (2, 0)) (h3 : jkd l3 = (3, 0)) {fin : Int × jM} {rr : (jM × Int × Int) ⊕ jM} (hf : f_X1_findSlowBest_63 M l0 l1 l2 l3 l6 = some rr) (kc : ∀ q : jM × Int × Int, rr = .inl q → ∀ (H : Heap) (locs : List Loc) (ls : Array Slot), jOk G q.1 s H locs → lv_has ls 7 [(0, jR G l0), (1, jR G l1), (2, jR G l2), (3, jR G l3), (5, vI q.2.1), (6, vI q.2.2)] → W p l e R s m args below meth c H locs 0 0 (MQ below (jQ G (some (vI fin.1)) fin.2) args s 0 0 (jA G)) (F0 m 12 ls [])) (kx0 : ∀ q : jM, rr = .inr q → ∀ (H : Heap) (locs : List Loc) (ls : Array Slot), jOk G q s H locs → lv_has ls 7 [(0, jR G l0)] → W p l e R s m args below meth c H locs 0 0 (MQ below (jQ G (some (vI fin.1)) fin.2) args s 0 0 (jA G)) (F0 m 82 ls [])) (hO : jOk G M s H locs) (hl : lv_has ls 7 [(0, jR G l0), (1, jR G l1), (2, jR G l2), (3, jR G l3), (6, vI l6)]) : W p l e R s m args below meth c H locs 0 0 (MQ below (jQ G (some (vI fin.1)) fin.2) args s 0 0 (jA G)) (F0 m 63 ls []) := by
  unfold f_X1_findSlowBest_63 at hf
  refine lv_aload_n C.1 C.2.1 dX1_findSlowBest_63 rfl (lv_at hl 0 rfl) ?_
  refine j_get C hO (ci := 1) (k := 1) (v := jR G (jpt l0 1)) h0 rfl inlX1 (by decide) kF_5_3 rfl rfl dX1_findSlowBest_64 ?_
  refine lv_aload_n C.1 C.2.1 dX1_findSlowBest_67 rfl (lv_at hl 1 rfl) ?_
  refine j_get C hO (ci := 6) (k := 0) (v := vI (M l1 0)) h1 rfl inlX6 (by decide) kF_28_10 rfl rfl dX1_findSlowBest_68 ?_
  obtain ⟨r6, hr6, hf⟩ := bnd_e hf
  refine j_callV C hO (n := 1) (As := [vI (M l1 0)]) (st1 := [vI r6.1]) (c_X3_stepOn l G M (jpt l0 1) (M l1 0) (tp_1_1 h0) hr6) (tp_1_1 h0) rfl kC_29_7 kM_29_4 kI_29_5 kS_29_6 kN_3_8 ⟨by decide, by decide, by decide⟩ ⟨Nat.le_trans (by decide) hRf, Nat.le_trans (by decide) hRl⟩ rfl rfl rfl hl.1 rfl (Nat.le_of_ble_eq_true rfl) ⟨Nat.zero_le _, Nat.zero_le _⟩ dX1_findSlowBest_71 rfl (fun H locs hO => ?_)
  refine lv_istore (lv' := [(5, vI r6.1), (0, jR G l0), (1, jR G l1), (2, jR G l2), (3, jR G l3), (6, vI l6)]) C.1 C.2.1 dX1_findSlowBest_74 hl (by decide) rfl (fun ls hl => ?_)
  refine lv_iinc (v := Int32.ofInt (l6 + 1)) (lv' := [(6, vI (l6 + 1)), (5, vI r6.1), (0, jR G l0), (1, jR G l1), (2, jR G l2), (3, jR G l3)]) C.1 C.2.1 dX1_findSlowBest_76 hl (k := 5) rfl (Int32.ofInt_add _ _).symm (by decide) rfl (fun ls hl => ?_)
  refine lv_goto (tgt := 12) C.1 C.2.1 dX1_findSlowBest_79 (by decide) ?_
  exact kc _ (som_e hf).symm _ _ _ hO (lv_sub hl [2, 3, 4, 5, 1, 0] rfl)
set_option maxHeartbeats 4000000 in
theorem w_X1_findSlowBest_L12 {p : Program} {l : Launch} {e : Env} {R : Room} {s : State} {m : MethodId} {args : Array Value} {below : List Frame} {meth : Method} {c : Code} {H : Heap} {locs : List Loc} {ls : Array Slot} {G : jG}  (C : jCx p s m args meth c cX1_findSlowBest 7 RX1 (Cond.code yX1_findSlowBest cX1_findSlowBest 7 (some .boolean)) (some .boolean)) (hRf : 4 ≤ R.frames) (hRl : 92 ≤ R.locals)  (M : jM) (l0 l1 l2 l3 : Int) (h0 : jkd l0 = (1, 0)) (h1 : jkd l1 = (6, 0)) (h2 : jkd l2 = (2, 0)) (h3 : jkd l3 = (3, 0)) {fin : Int × jM} (S : jM × Int × Int) {rr : (jM × Int × Int) ⊕ jM} (hf : f_X1_findSlowBest_L12 M l0 l1 l2 l3 S = some rr) (kc : ∀ q : jM × Int × Int, rr = .inl q → ∀ (H : Heap) (locs : List Loc) (ls : Array Slot), jOk G q.1 s H locs → lv_has ls 7 [(0, jR G l0), (1, jR G l1), (2, jR G l2), (3, jR G l3), (5, vI q.2.1), (6, vI q.2.2)] → W p l e R s m args below meth c H locs 0 0 (MQ below (jQ G (some (vI fin.1)) fin.2) args s 0 0 (jA G)) (F0 m 12 ls [])) (kx0 : ∀ q : jM, rr = .inr q → ∀ (H : Heap) (locs : List Loc) (ls : Array Slot), jOk G q s H locs → lv_has ls 7 [(0, jR G l0)] → W p l e R s m args below meth c H locs 0 0 (MQ below (jQ G (some (vI fin.1)) fin.2) args s 0 0 (jA G)) (F0 m 82 ls [])) (hO : jOk G S.1 s H locs) (hl : lv_has ls 7 [(0, jR G l0), (1, jR G l1), (2, jR G l2), (3, jR G l3), (5, vI S.2.1), (6, vI S.2.2)]) : W p l e R s m args below meth c H locs 0 0 (MQ below (jQ G (some (vI fin.1)) fin.2) args s 0 0 (jA G)) (F0 m 12 ls []) := by
  unfold f_X1_findSlowBest_L12 at hf
  refine lv_iload C.1 C.2.1 dX1_findSlowBest_12 (lv_at hl 5 rfl) ?_
  refine lv_bipush (v := Int32.ofInt 81) C.1 C.2.1 dX1_findSlowBest_14 (by decide) ?_
  refine j_icmp_ge (tgt := 82) C rfl (w32_id (by decide) (by decide)) dX1_findSlowBest_16 (by decide) (fun c2 => ?_) (fun c2 => ?_)
  · have hf := (if_pos c2).symm.trans hf
    exact kx0 _ (som_e hf).symm _ _ _ hO (lv_sub hl [0] rfl)
  · have hf := (if_neg c2).symm.trans hf
    refine lv_iload C.1 C.2.1 dX1_findSlowBest_19 (lv_at hl 4 rfl) ?_
    refine j_if_eq (tgt := 82) C rfl dX1_findSlowBest_21 (by decide) (fun c3 => ?_) (fun c3 => ?_)
    · have hf := (if_pos c3).symm.trans hf
      exact kx0 _ (som_e hf).symm _ _ _ hO (lv_sub hl [0] rfl)
    · have hf := (if_neg c3).symm.trans hf
      refine lv_aload_n C.1 C.2.1 dX1_findSlowBest_24 rfl (lv_at hl 0 rfl) ?_
      refine j_get C hO (ci := 1) (k := 1) (v := jR G (jpt l0 1)) h0 rfl inlX1 (by decide) kF_5_3 rfl rfl dX1_findSlowBest_25 ?_
      refine lv_aload_n C.1 C.2.1 dX1_findSlowBest_28 rfl (lv_at hl 3 rfl) ?_
      obtain ⟨r4, hr4, hf⟩ := bnd_e hf
      refine j_callV C hO (n := 1) (As := [jR G l3]) (st1 := [vI r4]) (c_X3_isApart l G S.1 (jpt l0 1) l3 (tp_1_1 h0) h3 hr4) (tp_1_1 h0) rfl kC_24_15 kM_28_17 kI_24_13 kS_24_14 kN_3_8 ⟨by decide, by decide, by decide⟩ ⟨Nat.le_trans (by decide) hRf, Nat.le_trans (by decide) hRl⟩ rfl rfl rfl hl.1 rfl (Nat.le_of_ble_eq_true rfl) ⟨Nat.zero_le _, Nat.zero_le _⟩ dX1_findSlowBest_29 rfl (fun H locs hO => ?_)
      refine j_if_eq (tgt := 63) C rfl dX1_findSlowBest_32 (by decide) (fun c5 => ?_) (fun c5 => ?_)
      · have hf := (if_pos c5).symm.trans hf
        exact w_X1_findSlowBest_63 C hRf hRl S.1 l0 l1 l2 l3 S.2.2 h0 h1 h2 h3 hf kc kx0 hO (lv_sub hl [0, 1, 2, 3, 5] rfl)
      · have hf := (if_neg c5).symm.trans hf
        refine lv_aload_n C.1 C.2.1 dX1_findSlowBest_35 rfl (lv_at hl 2 rfl) ?_
        refine lv_aload_n C.1 C.2.1 dX1_findSlowBest_36 rfl (lv_at hl 1 rfl) ?_
        refine lv_aload_n C.1 C.2.1 dX1_findSlowBest_37 rfl (lv_at hl 0 rfl) ?_
        refine j_get C hO (ci := 1) (k := 1) (v := jR G (jpt l0 1)) h0 rfl inlX1 (by decide) kF_5_3 rfl rfl dX1_findSlowBest_38 ?_
        refine lv_aload_n C.1 C.2.1 dX1_findSlowBest_41 rfl (lv_at hl 3 rfl) ?_
        obtain ⟨r7, hr7, hf⟩ := bnd_e hf
        refine j_callV C hO (n := 3) (As := [jR G l1, jR G (jpt l0 1), jR G l3]) (st1 := []) (c_X2_measure l G S.1 l2 l1 (jpt l0 1) l3 h2 h1 (tp_1_1 h0) h3 hr7) h2 rfl kC_25_4 kM_28_18 kI_25_2 kS_25_3 kN_2_8 ⟨by decide, by decide, by decide⟩ ⟨Nat.le_trans (by decide) hRf, Nat.le_trans (by decide) hRl⟩ rfl rfl rfl hl.1 rfl (Nat.le_of_ble_eq_true rfl) ⟨Nat.zero_le _, Nat.zero_le _⟩ dX1_findSlowBest_42 rfl (fun H locs hO => ?_)
        refine lv_aload_n C.1 C.2.1 dX1_findSlowBest_45 rfl (lv_at hl 2 rfl) ?_
        refine j_get C hO (ci := 2) (k := 0) (v := vL (r7 l2 0)) h2 rfl inlX2 (by decide) kF_28_8 rfl rfl dX1_findSlowBest_46 ?_
        refine lv_aload_n C.1 C.2.1 dX1_findSlowBest_49 rfl (lv_at hl 2 rfl) ?_
        refine j_get C hO (ci := 2) (k := 1) (v := vL (r7 l2 1)) h2 rfl inlX2 (by decide) kF_32_15 rfl rfl dX1_findSlowBest_50 ?_
        refine j_lcmp_lt (tgt := 63) C rfl rfl dX1_findSlowBest_53 dX1_findSlowBest_54 (by decide) (fun c8 => ?_) (fun c8 => ?_)
        · have hf := (if_pos c8).symm.trans hf
          exact w_X1_findSlowBest_63 C hRf hRl r7 l0 l1 l2 l3 S.2.2 h0 h1 h2 h3 hf kc kx0 hO (lv_sub hl [0, 1, 2, 3, 5] rfl)
        · have hf := (if_neg c8).symm.trans hf
          refine lv_aload_n C.1 C.2.1 dX1_findSlowBest_57 rfl (lv_at hl 0 rfl) ?_
          refine lv_aload_n C.1 C.2.1 dX1_findSlowBest_58 rfl (lv_at hl 1 rfl) ?_
          refine lv_iconst (v := Int32.ofInt 1) C.1 C.2.1 dX1_findSlowBest_59 rfl ?_
          obtain ⟨r9, hr9, hf⟩ := bnd_e hf
          refine j_callV C hO (n := 2) (As := [jR G l1, vI 1]) (st1 := []) (c_X1_considerWait l G r7 l0 l1 1 h0 h1 hr9) h0 rfl kC_31_21 kM_31_18 kI_31_19 kS_31_20 kN_2_12 ⟨by decide, by decide, by decide⟩ ⟨Nat.le_trans (by decide) hRf, Nat.le_trans (by decide) hRl⟩ rfl rfl rfl hl.1 rfl (Nat.le_of_ble_eq_true rfl) ⟨Nat.zero_le _, Nat.zero_le _⟩ dX1_findSlowBest_60 rfl (fun H locs hO => ?_)
          exact w_X1_findSlowBest_63 C hRf hRl r9 l0 l1 l2 l3 S.2.2 h0 h1 h2 h3 hf kc kx0 hO (lv_sub hl [0, 1, 2, 3, 5] rfl)
set_option maxHeartbeats 4000000 in
theorem w_X1_findSlowBest {p : Program} {l : Launch} {e : Env} {R : Room} {s : State} {m : MethodId} {args : Array Value} {below : List Frame} {meth : Method} {c : Code} {H : Heap} {locs : List Loc} {ls : Array Slot} {G : jG}  (C : jCx p s m args meth c cX1_findSlowBest 7 RX1 (Cond.code yX1_findSlowBest cX1_findSlowBest 7 (some .boolean)) (some .boolean)) (hRf : 4 ≤ R.frames) (hRl : 92 ≤ R.locals)  (M : jM) (l0 l1 l2 l3 l4 : Int) (h0 : jkd l0 = (1, 0)) (h1 : jkd l1 = (6, 0)) (h2 : jkd l2 = (2, 0)) (h3 : jkd l3 = (3, 0)) {fin : Int × jM} (hf : f_X1_findSlowBest M l0 l1 l2 l3 l4 = some fin) (hO : jOk G M s H locs) (hl : lv_has ls 7 [(0, jR G l0), (1, jR G l1), (2, jR G l2), (3, jR G l3), (4, vI l4)]) : W p l e R s m args below meth c H locs 0 0 (MQ below (jQ G (some (vI fin.1)) fin.2) args s 0 0 (jA G)) (F0 m 0 ls []) := by
  unfold f_X1_findSlowBest at hf
  refine lv_aload_n C.1 C.2.1 dX1_findSlowBest_0 rfl (lv_at hl 0 rfl) ?_
  refine lv_iload C.1 C.2.1 dX1_findSlowBest_1 (lv_at hl 4 rfl) ?_
  obtain ⟨r1, hr1, hf⟩ := bnd_e hf
  refine j_callV C hO (n := 1) (As := [vI l4]) (st1 := []) (c_X1_begin l G M l0 l4 h0 hr1) h0 rfl kC_28_15 kM_28_12 kI_28_13 kS_28_14 kN_2_12 ⟨by decide, by decide, by decide⟩ ⟨Nat.le_trans (by decide) hRf, Nat.le_trans (by decide) hRl⟩ rfl rfl rfl hl.1 rfl (Nat.le_of_ble_eq_true rfl) ⟨Nat.zero_le _, Nat.zero_le _⟩ dX1_findSlowBest_3 rfl (fun H locs hO => ?_)
  refine lv_iconst (v := Int32.ofInt 1) C.1 C.2.1 dX1_findSlowBest_6 rfl ?_
  refine lv_istore (lv' := [(5, vI 1), (0, jR G l0), (1, jR G l1), (2, jR G l2), (3, jR G l3), (4, vI l4)]) C.1 C.2.1 dX1_findSlowBest_7 hl (by decide) rfl (fun ls hl => ?_)
  refine lv_iconst (v := Int32.ofInt 0) C.1 C.2.1 dX1_findSlowBest_9 rfl ?_
  refine lv_istore (lv' := [(6, vI 0), (5, vI 1), (0, jR G l0), (1, jR G l1), (2, jR G l2), (3, jR G l3), (4, vI l4)]) C.1 C.2.1 dX1_findSlowBest_10 hl (by decide) rfl (fun ls hl => ?_)
  obtain ⟨x10, hx10, hf⟩ := bnd_e hf
  refine iter_e (P := fun Z => ∀ (H : Heap) (locs : List Loc) (ls : Array Slot), jOk G Z.1 s H locs → lv_has ls 7 [(0, jR G l0), (1, jR G l1), (2, jR G l2), (3, jR G l3), (5, vI Z.2.1), (6, vI Z.2.2)] → W p l e R s m args below meth c H locs 0 0 (MQ below (jQ G (some (vI fin.1)) fin.2) args s 0 0 (jA G)) (F0 m 12 ls [])) (E := fun q => ∀ (H : Heap) (locs : List Loc) (ls : Array Slot), jOk G q s H locs → lv_has ls 7 [(0, jR G l0)] → W p l e R s m args below meth c H locs 0 0 (MQ below (jQ G (some (vI fin.1)) fin.2) args s 0 0 (jA G)) (F0 m 82 ls [])) (fun Z rr hb kc kx H locs ls hO hl => w_X1_findSlowBest_L12 C hRf hRl r1 l0 l1 l2 l3 h0 h1 h2 h3 Z hb kc (fun q e => kx q e) hO hl) 5000 (r1, 1, 0) x10 hx10 ?_ _ _ _ hO (lv_sub hl [2, 3, 4, 5, 1, 0] rfl)
  clear hO hl
  intro H locs ls hO hl
  refine lv_aload_n C.1 C.2.1 dX1_findSlowBest_82 rfl (lv_at hl 0 rfl) ?_
  refine j_get C hO (ci := 1) (k := 2) (v := vI (x10 l0 2)) h0 rfl inlX1 (by decide) kF_28_11 rfl rfl dX1_findSlowBest_83 ?_
  obtain ⟨g11, hf⟩ := grd_e hf
  have hf := som_e hf
  subst hf
  exact j_zret C hO g11 dX1_findSlowBest_86
set_option maxHeartbeats 1000000 in
theorem c_X1_findSlowBest (l : Launch) (G : jG)  (M : jM) (l0 l1 l2 l3 l4 : Int) (h0 : jkd l0 = (1, 0)) (h1 : jkd l1 = (6, 0)) (h2 : jkd l2 = (2, 0)) (h3 : jkd l3 = (3, 0)) {fin : Int × jM} (h : f_X1_findSlowBest M l0 l1 l2 l3 l4 = some fin) : Met l yX1_findSlowBest (Cond.code yX1_findSlowBest cX1_findSlowBest 7 (some .boolean) :: wsL_law) ({ frames := 4, cells := 0, slots := 0, locals := 92 } : Room) (va_Pc [jR G l0, jR G l1, jR G l2, jR G l3, vI l4] (fun U => jRep G M U)) (jQ G (some (vI fin.1)) fin.2) 0 0 (jA G) := by
  refine Met.ofW (cc := cX1_findSlowBest) (maxL := 7) (ret := (some .boolean)) (by decide) rfl ?_
  intro p e s m args below meth c s₁ B hml hv
  obtain ⟨rfl, hR0⟩ := hv
  have C : jCx p s m ([jR G l0, jR G l1, jR G l2, jR G l3, vI l4] : List Value).toArray meth c cX1_findSlowBest 7 RX1 (Cond.code yX1_findSlowBest cX1_findSlowBest 7 (some .boolean)) (some .boolean) := ⟨B.exec, B.bytes, hml, findClass_of_methodNamed B.named, atoms_spec B.pre, B.returns, B.notSynchronized⟩
  have hO := hR0.ok
  have hl := lv_entry ([jR G l0, jR G l1, jR G l2, jR G l3, vI l4]) (n := 7) (Nat.le_of_ble_eq_true rfl)
  rw [lg_entry_eq]
  generalize (lg_sl ([jR G l0, jR G l1, jR G l2, jR G l3, vI l4]) ++ List.replicate (7 - (lg_sl ([jR G l0, jR G l1, jR G l2, jR G l3, vI l4])).length) Slot.unset).toArray = ls at hl ⊢
  have hl : lv_has ls 7 [(0, jR G l0), (1, jR G l1), (2, jR G l2), (3, jR G l3), (4, vI l4)] := hl
  exact w_X1_findSlowBest C (Nat.le_refl _) (Nat.le_refl _) M l0 l1 l2 l3 l4 h0 h1 h2 h3 h hO hl
set_option maxHeartbeats 4000000 in
theorem w_X1_findByWait_L11 {p : Program} {l : Launch} {e : Env} {R : Room} {s : State} {m : MethodId} {args : Array Value} {below : List Frame} {meth : Method} {c : Code} {H : Heap} {locs : List Loc} {ls : Array Slot} {G : jG}  (C : jCx p s m args meth c cX1_findByWait 6 RX1 (Cond.code yX1_findByWait cX1_findByWait 6 none) none) (hRf : 3 ≤ R.frames) (hRl : 92 ≤ R.locals)  (M : jM) (l0 l1 l3 : Int) (h0 : jkd l0 = (1, 0)) (h1 : jkd l1 = (6, 0)) {fin : jM} (S : jM × Int × Int) {rr : (jM × Int × Int) ⊕ jM} (hf : f_X1_findByWait_L11 M l0 l1 l3 S = some rr) (kc : ∀ q : jM × Int × Int, rr = .inl q → ∀ (H : Heap) (locs : List Loc) (ls : Array Slot), jOk G q.1 s H locs → lv_has ls 6 [(0, jR G l0), (1, jR G l1), (3, vI l3), (4, vI q.2.1), (5, vI q.2.2)] → W p l e R s m args below meth c H locs 0 0 (MQ below (jQ G none fin) args s 0 0 (jA G)) (F0 m 11 ls [])) (kx0 : ∀ q : jM, rr = .inr q → ∀ (H : Heap) (locs : List Loc) (ls : Array Slot), jOk G q s H locs → lv_has ls 6 [] → W p l e R s m args below meth c H locs 0 0 (MQ below (jQ G none fin) args s 0 0 (jA G)) (F0 m 48 ls [])) (hO : jOk G S.1 s H locs) (hl : lv_has ls 6 [(0, jR G l0), (1, jR G l1), (3, vI l3), (4, vI S.2.1), (5, vI S.2.2)]) : W p l e R s m args below meth c H locs 0 0 (MQ below (jQ G none fin) args s 0 0 (jA G)) (F0 m 11 ls []) := by
  unfold f_X1_findByWait_L11 at hf
  refine lv_iload C.1 C.2.1 dX1_findByWait_11 (lv_at hl 4 rfl) ?_
  refine lv_bipush (v := Int32.ofInt 81) C.1 C.2.1 dX1_findByWait_13 (by decide) ?_
  refine j_icmp_ge (tgt := 48) C rfl (w32_id (by decide) (by decide)) dX1_findByWait_15 (by decide) (fun c2 => ?_) (fun c2 => ?_)
  · have hf := (if_pos c2).symm.trans hf
    exact kx0 _ (som_e hf).symm _ _ _ hO (lv_sub hl [] rfl)
  · have hf := (if_neg c2).symm.trans hf
    refine lv_iload C.1 C.2.1 dX1_findByWait_18 (lv_at hl 3 rfl) ?_
    refine j_if_eq (tgt := 48) C rfl dX1_findByWait_20 (by decide) (fun c3 => ?_) (fun c3 => ?_)
    · have hf := (if_pos c3).symm.trans hf
      exact kx0 _ (som_e hf).symm _ _ _ hO (lv_sub hl [] rfl)
    · have hf := (if_neg c3).symm.trans hf
      refine lv_aload_n C.1 C.2.1 dX1_findByWait_23 rfl (lv_at hl 0 rfl) ?_
      refine lv_aload_n C.1 C.2.1 dX1_findByWait_24 rfl (lv_at hl 1 rfl) ?_
      refine lv_iload_n C.1 C.2.1 dX1_findByWait_25 rfl (lv_at hl 2 rfl) ?_
      obtain ⟨r4, hr4, hf⟩ := bnd_e hf
      refine j_callV C hO (n := 2) (As := [jR G l1, vI l3]) (st1 := []) (c_X1_considerWait l G S.1 l0 l1 l3 h0 h1 hr4) h0 rfl kC_31_21 kM_31_18 kI_31_19 kS_31_20 kN_2_12 ⟨by decide, by decide, by decide⟩ ⟨Nat.le_trans (by decide) hRf, Nat.le_trans (by decide) hRl⟩ rfl rfl rfl hl.1 rfl (Nat.le_of_ble_eq_true rfl) ⟨Nat.zero_le _, Nat.zero_le _⟩ dX1_findByWait_26 rfl (fun H locs hO => ?_)
      refine lv_aload_n C.1 C.2.1 dX1_findByWait_29 rfl (lv_at hl 0 rfl) ?_
      refine j_get C hO (ci := 1) (k := 1) (v := jR G (jpt l0 1)) h0 rfl inlX1 (by decide) kF_5_3 rfl rfl dX1_findByWait_30 ?_
      refine lv_aload_n C.1 C.2.1 dX1_findByWait_33 rfl (lv_at hl 1 rfl) ?_
      refine j_get C hO (ci := 6) (k := 0) (v := vI (r4 l1 0)) h1 rfl inlX6 (by decide) kF_28_10 rfl rfl dX1_findByWait_34 ?_
      obtain ⟨r5, hr5, hf⟩ := bnd_e hf
      refine j_callV C hO (n := 1) (As := [vI (r4 l1 0)]) (st1 := [vI r5.1]) (c_X3_stepOn l G r4 (jpt l0 1) (r4 l1 0) (tp_1_1 h0) hr5) (tp_1_1 h0) rfl kC_29_7 kM_29_4 kI_29_5 kS_29_6 kN_3_8 ⟨by decide, by decide, by decide⟩ ⟨Nat.le_trans (by decide) hRf, Nat.le_trans (by decide) hRl⟩ rfl rfl rfl hl.1 rfl (Nat.le_of_ble_eq_true rfl) ⟨Nat.zero_le _, Nat.zero_le _⟩ dX1_findByWait_37 rfl (fun H locs hO => ?_)
      refine lv_istore (lv' := [(4, vI r5.1), (0, jR G l0), (1, jR G l1), (3, vI l3), (5, vI S.2.2)]) C.1 C.2.1 dX1_findByWait_40 hl (by decide) rfl (fun ls hl => ?_)
      refine lv_iinc (v := Int32.ofInt (S.2.2 + 1)) (lv' := [(5, vI (S.2.2 + 1)), (4, vI r5.1), (0, jR G l0), (1, jR G l1), (3, vI l3)]) C.1 C.2.1 dX1_findByWait_42 hl (k := 4) rfl (Int32.ofInt_add _ _).symm (by decide) rfl (fun ls hl => ?_)
      refine lv_goto (tgt := 11) C.1 C.2.1 dX1_findByWait_45 (by decide) ?_
      exact kc _ (som_e hf).symm _ _ _ hO (lv_sub hl [2, 3, 4, 1, 0] rfl)
set_option maxHeartbeats 4000000 in
theorem w_X1_findByWait {p : Program} {l : Launch} {e : Env} {R : Room} {s : State} {m : MethodId} {args : Array Value} {below : List Frame} {meth : Method} {c : Code} {H : Heap} {locs : List Loc} {ls : Array Slot} {G : jG}  (C : jCx p s m args meth c cX1_findByWait 6 RX1 (Cond.code yX1_findByWait cX1_findByWait 6 none) none) (hRf : 3 ≤ R.frames) (hRl : 92 ≤ R.locals)  (M : jM) (l0 l1 l2 l3 : Int) (h0 : jkd l0 = (1, 0)) (h1 : jkd l1 = (6, 0)) {fin : jM} (hf : f_X1_findByWait M l0 l1 l2 l3 = some fin) (hO : jOk G M s H locs) (hl : lv_has ls 6 [(0, jR G l0), (1, jR G l1), (2, vI l2), (3, vI l3)]) : W p l e R s m args below meth c H locs 0 0 (MQ below (jQ G none fin) args s 0 0 (jA G)) (F0 m 0 ls []) := by
  unfold f_X1_findByWait at hf
  refine lv_aload_n C.1 C.2.1 dX1_findByWait_0 rfl (lv_at hl 0 rfl) ?_
  refine lv_iload_n C.1 C.2.1 dX1_findByWait_1 rfl (lv_at hl 2 rfl) ?_
  obtain ⟨r1, hr1, hf⟩ := bnd_e hf
  refine j_callV C hO (n := 1) (As := [vI l2]) (st1 := []) (c_X1_begin l G M l0 l2 h0 hr1) h0 rfl kC_28_15 kM_28_12 kI_28_13 kS_28_14 kN_2_12 ⟨by decide, by decide, by decide⟩ ⟨Nat.le_trans (by decide) hRf, Nat.le_trans (by decide) hRl⟩ rfl rfl rfl hl.1 rfl (Nat.le_of_ble_eq_true rfl) ⟨Nat.zero_le _, Nat.zero_le _⟩ dX1_findByWait_2 rfl (fun H locs hO => ?_)
  refine lv_iconst (v := Int32.ofInt 1) C.1 C.2.1 dX1_findByWait_5 rfl ?_
  refine lv_istore (lv' := [(4, vI 1), (0, jR G l0), (1, jR G l1), (2, vI l2), (3, vI l3)]) C.1 C.2.1 dX1_findByWait_6 hl (by decide) rfl (fun ls hl => ?_)
  refine lv_iconst (v := Int32.ofInt 0) C.1 C.2.1 dX1_findByWait_8 rfl ?_
  refine lv_istore (lv' := [(5, vI 0), (4, vI 1), (0, jR G l0), (1, jR G l1), (2, vI l2), (3, vI l3)]) C.1 C.2.1 dX1_findByWait_9 hl (by decide) rfl (fun ls hl => ?_)
  obtain ⟨x6, hx6, hf⟩ := bnd_e hf
  refine iter_e (P := fun Z => ∀ (H : Heap) (locs : List Loc) (ls : Array Slot), jOk G Z.1 s H locs → lv_has ls 6 [(0, jR G l0), (1, jR G l1), (3, vI l3), (4, vI Z.2.1), (5, vI Z.2.2)] → W p l e R s m args below meth c H locs 0 0 (MQ below (jQ G none fin) args s 0 0 (jA G)) (F0 m 11 ls [])) (E := fun q => ∀ (H : Heap) (locs : List Loc) (ls : Array Slot), jOk G q s H locs → lv_has ls 6 [] → W p l e R s m args below meth c H locs 0 0 (MQ below (jQ G none fin) args s 0 0 (jA G)) (F0 m 48 ls [])) (fun Z rr hb kc kx H locs ls hO hl => w_X1_findByWait_L11 C hRf hRl r1 l0 l1 l3 h0 h1 Z hb kc (fun q e => kx q e) hO hl) 5000 (r1, 1, 0) x6 hx6 ?_ _ _ _ hO (lv_sub hl [2, 3, 5, 1, 0] rfl)
  clear hO hl
  intro H locs ls hO hl
  have hf := som_e hf
  subst hf
  exact j_vret C hO dX1_findByWait_48
set_option maxHeartbeats 1000000 in
theorem c_X1_findByWait (l : Launch) (G : jG)  (M : jM) (l0 l1 l2 l3 : Int) (h0 : jkd l0 = (1, 0)) (h1 : jkd l1 = (6, 0)) {fin : jM} (h : f_X1_findByWait M l0 l1 l2 l3 = some fin) : Met l yX1_findByWait (Cond.code yX1_findByWait cX1_findByWait 6 none :: wsL_law) ({ frames := 3, cells := 0, slots := 0, locals := 92 } : Room) (va_Pc [jR G l0, jR G l1, vI l2, vI l3] (fun U => jRep G M U)) (jQ G none fin) 0 0 (jA G) := by
  refine Met.ofW (cc := cX1_findByWait) (maxL := 6) (ret := none) (by decide) rfl ?_
  intro p e s m args below meth c s₁ B hml hv
  obtain ⟨rfl, hR0⟩ := hv
  have C : jCx p s m ([jR G l0, jR G l1, vI l2, vI l3] : List Value).toArray meth c cX1_findByWait 6 RX1 (Cond.code yX1_findByWait cX1_findByWait 6 none) none := ⟨B.exec, B.bytes, hml, findClass_of_methodNamed B.named, atoms_spec B.pre, B.returns, B.notSynchronized⟩
  have hO := hR0.ok
  have hl := lv_entry ([jR G l0, jR G l1, vI l2, vI l3]) (n := 6) (Nat.le_of_ble_eq_true rfl)
  rw [lg_entry_eq]
  generalize (lg_sl ([jR G l0, jR G l1, vI l2, vI l3]) ++ List.replicate (6 - (lg_sl ([jR G l0, jR G l1, vI l2, vI l3])).length) Slot.unset).toArray = ls at hl ⊢
  have hl : lv_has ls 6 [(0, jR G l0), (1, jR G l1), (2, vI l2), (3, vI l3)] := hl
  exact w_X1_findByWait C (Nat.le_refl _) (Nat.le_refl _) M l0 l1 l2 l3 h0 h1 h hO hl
set_option maxHeartbeats 4000000 in
theorem w_X1_findBeside_38 {p : Program} {l : Launch} {e : Env} {R : Room} {s : State} {m : MethodId} {args : Array Value} {below : List Frame} {meth : Method} {c : Code} {H : Heap} {locs : List Loc} {ls : Array Slot} {G : jG}  (C : jCx p s m args meth c cX1_findBeside 4 RX1 (Cond.code yX1_findBeside cX1_findBeside 4 none) none) (hRf : 2 ≤ R.frames) (hRl : 42 ≤ R.locals)  (M : jM) (s0 s1 : Int) (g0 : jkd s0 = (3, 0)) {fin : jM} (hf : f_X1_findBeside_38 M s0 s1 = some fin) (hO : jOk G M s H locs) (hl : lv_has ls 4 []) : W p l e R s m args below meth c H locs 0 0 (MQ below (jQ G none fin) args s 0 0 (jA G)) (F0 m 38 ls [vI s1, jR G s0]) := by
  unfold f_X1_findBeside_38 at hf
  obtain ⟨r4, hr4, hf⟩ := bnd_e hf
  refine j_callV C hO (n := 1) (As := [vI s1]) (st1 := []) (c_X3_putLast l G M s0 s1 g0 hr4) g0 rfl kC_32_9 kM_32_6 kI_32_7 kS_32_8 kN_3_8 ⟨by decide, by decide, by decide⟩ ⟨Nat.le_trans (by decide) hRf, Nat.le_trans (by decide) hRl⟩ rfl rfl rfl hl.1 rfl (Nat.le_of_ble_eq_true rfl) ⟨Nat.zero_le _, Nat.zero_le _⟩ dX1_findBeside_38 rfl (fun H locs hO => ?_)
  have hf := som_e hf
  subst hf
  exact j_vret C hO dX1_findBeside_41
set_option maxHeartbeats 4000000 in
theorem w_X1_findBeside {p : Program} {l : Launch} {e : Env} {R : Room} {s : State} {m : MethodId} {args : Array Value} {below : List Frame} {meth : Method} {c : Code} {H : Heap} {locs : List Loc} {ls : Array Slot} {G : jG}  (C : jCx p s m args meth c cX1_findBeside 4 RX1 (Cond.code yX1_findBeside cX1_findBeside 4 none) none) (hRf : 2 ≤ R.frames) (hRl : 42 ≤ R.locals)  (M : jM) (l0 l1 l2 : Int) (h0 : jkd l0 = (1, 0)) (h1 : jkd l1 = (6, 0)) (h2 : jkd l2 = (3, 0)) {fin : jM} (hf : f_X1_findBeside M l0 l1 l2 = some fin) (hO : jOk G M s H locs) (hl : lv_has ls 4 [(0, jR G l0), (1, jR G l1), (2, jR G l2)]) : W p l e R s m args below meth c H locs 0 0 (MQ below (jQ G none fin) args s 0 0 (jA G)) (F0 m 0 ls []) := by
  unfold f_X1_findBeside at hf
  refine lv_aload_n C.1 C.2.1 dX1_findBeside_0 rfl (lv_at hl 2 rfl) ?_
  refine lv_aload_n C.1 C.2.1 dX1_findBeside_1 rfl (lv_at hl 2 rfl) ?_
  refine j_get C hO (ci := 3) (k := 0) (v := vI (M l2 0)) h2 rfl inlX3 (by decide) kF_32_4 rfl rfl dX1_findBeside_2 ?_
  refine lv_iconst (v := Int32.ofInt 1) C.1 C.2.1 dX1_findBeside_5 rfl ?_
  refine j_isub C dX1_findBeside_6 ?_
  obtain ⟨r1, hr1, hf⟩ := bnd_e hf
  refine j_callV C hO (n := 1) (As := [vI ((M l2 0) - 1)]) (st1 := [vI r1]) (c_X3_signAt l G M l2 ((M l2 0) - 1) h2 hr1) h2 rfl kC_19_6 kM_32_5 kI_19_4 kS_19_5 kN_3_8 ⟨by decide, by decide, by decide⟩ ⟨Nat.le_trans (by decide) hRf, Nat.le_trans (by decide) hRl⟩ rfl rfl rfl hl.1 rfl (Nat.le_of_ble_eq_true rfl) ⟨Nat.zero_le _, Nat.zero_le _⟩ dX1_findBeside_7 rfl (fun H locs hO => ?_)
  refine lv_iconst (v := Int32.ofInt 1) C.1 C.2.1 dX1_findBeside_10 rfl ?_
  refine j_iadd C dX1_findBeside_11 ?_
  refine lv_istore_n (lv' := [(3, vI (r1 + 1)), (0, jR G l0), (1, jR G l1), (2, jR G l2)]) C.1 C.2.1 dX1_findBeside_12 rfl hl (by decide) rfl (fun ls hl => ?_)
  refine lv_aload_n C.1 C.2.1 dX1_findBeside_13 rfl (lv_at hl 1 rfl) ?_
  refine j_get C hO (ci := 1) (k := 0) (v := jR G (jpt l0 0)) h0 rfl inlX1 (by decide) kF_5_2 rfl rfl dX1_findBeside_14 ?_
  refine lv_aload_n C.1 C.2.1 dX1_findBeside_17 rfl (lv_at hl 3 rfl) ?_
  obtain ⟨r2, hr2, hf⟩ := bnd_e hf
  refine j_callV C hO (n := 1) (As := [jR G l2]) (st1 := []) (c_X3_copy l G M (jpt l0 0) l2 (tp_1_0 h0) h2 hr2) (tp_1_0 h0) rfl kC_18_10 kM_29_3 kI_18_8 kS_18_9 kN_3_8 ⟨by decide, by decide, by decide⟩ ⟨Nat.le_trans (by decide) hRf, Nat.le_trans (by decide) hRl⟩ rfl rfl rfl hl.1 rfl (Nat.le_of_ble_eq_true rfl) ⟨Nat.zero_le _, Nat.zero_le _⟩ dX1_findBeside_18 rfl (fun H locs hO => ?_)
  refine lv_aload_n C.1 C.2.1 dX1_findBeside_21 rfl (lv_at hl 1 rfl) ?_
  refine j_get C hO (ci := 1) (k := 0) (v := jR G (jpt l0 0)) h0 rfl inlX1 (by decide) kF_5_2 rfl rfl dX1_findBeside_22 ?_
  refine lv_iload_n C.1 C.2.1 dX1_findBeside_25 rfl (lv_at hl 0 rfl) ?_
  refine lv_aload_n C.1 C.2.1 dX1_findBeside_26 rfl (lv_at hl 2 rfl) ?_
  refine j_get C hO (ci := 6) (k := 0) (v := vI (r2 l1 0)) h1 rfl inlX6 (by decide) kF_28_10 rfl rfl dX1_findBeside_27 ?_
  refine j_icmp_ge (tgt := 37) C rfl rfl dX1_findBeside_30 (by decide) (fun c3 => ?_) (fun c3 => ?_)
  · have hf := (if_pos c3).symm.trans hf
    refine lv_iconst (v := Int32.ofInt 0) C.1 C.2.1 dX1_findBeside_37 rfl ?_
    exact w_X1_findBeside_38 C hRf hRl r2 (jpt l0 0) 0 (tp_1_0 h0) hf hO (lv_sub hl [] rfl)
  · have hf := (if_neg c3).symm.trans hf
    refine lv_iload_n C.1 C.2.1 dX1_findBeside_33 rfl (lv_at hl 0 rfl) ?_
    refine lv_goto (tgt := 38) C.1 C.2.1 dX1_findBeside_34 (by decide) ?_
    exact w_X1_findBeside_38 C hRf hRl r2 (jpt l0 0) (r1 + 1) (tp_1_0 h0) hf hO (lv_sub hl [] rfl)
set_option maxHeartbeats 1000000 in
theorem c_X1_findBeside (l : Launch) (G : jG)  (M : jM) (l0 l1 l2 : Int) (h0 : jkd l0 = (1, 0)) (h1 : jkd l1 = (6, 0)) (h2 : jkd l2 = (3, 0)) {fin : jM} (h : f_X1_findBeside M l0 l1 l2 = some fin) : Met l yX1_findBeside (Cond.code yX1_findBeside cX1_findBeside 4 none :: wsL_law) ({ frames := 2, cells := 0, slots := 0, locals := 42 } : Room) (va_Pc [jR G l0, jR G l1, jR G l2] (fun U => jRep G M U)) (jQ G none fin) 0 0 (jA G) := by
  refine Met.ofW (cc := cX1_findBeside) (maxL := 4) (ret := none) (by decide) rfl ?_
  intro p e s m args below meth c s₁ B hml hv
  obtain ⟨rfl, hR0⟩ := hv
  have C : jCx p s m ([jR G l0, jR G l1, jR G l2] : List Value).toArray meth c cX1_findBeside 4 RX1 (Cond.code yX1_findBeside cX1_findBeside 4 none) none := ⟨B.exec, B.bytes, hml, findClass_of_methodNamed B.named, atoms_spec B.pre, B.returns, B.notSynchronized⟩
  have hO := hR0.ok
  have hl := lv_entry ([jR G l0, jR G l1, jR G l2]) (n := 4) (Nat.le_of_ble_eq_true rfl)
  rw [lg_entry_eq]
  generalize (lg_sl ([jR G l0, jR G l1, jR G l2]) ++ List.replicate (4 - (lg_sl ([jR G l0, jR G l1, jR G l2])).length) Slot.unset).toArray = ls at hl ⊢
  have hl : lv_has ls 4 [(0, jR G l0), (1, jR G l1), (2, jR G l2)] := hl
  exact w_X1_findBeside C (Nat.le_refl _) (Nat.le_refl _) M l0 l1 l2 h0 h1 h2 h hO hl
set_option maxHeartbeats 4000000 in
theorem w_X4_addNode_L13 {p : Program} {l : Launch} {e : Env} {R : Room} {s : State} {m : MethodId} {args : Array Value} {below : List Frame} {meth : Method} {c : Code} {H : Heap} {locs : List Loc} {ls : Array Slot} {G : jG}  (C : jCx p s m args meth c cX4_addNode 2 RX4 (Cond.code yX4_addNode cX4_addNode 2 (some .int)) (some .int)) (hRf : 0 ≤ R.frames) (hRl : 0 ≤ R.locals)  (M : jM) (l0 : Int) (h0 : jkd l0 = (4, 0)) {fin : Int × jM} (S : jM × Int) {rr : (jM × Int) ⊕ jM} (hf : f_X4_addNode_L13 M l0 S = some rr) (kc : ∀ q : jM × Int, rr = .inl q → ∀ (H : Heap) (locs : List Loc) (ls : Array Slot), jOk G q.1 s H locs → lv_has ls 2 [(0, jR G l0), (1, vI q.2)] → W p l e R s m args below meth c H locs 0 0 (MQ below (jQ G (some (vI fin.1)) fin.2) args s 0 0 (jA G)) (F0 m 13 ls [])) (kx0 : ∀ q : jM, rr = .inr q → ∀ (H : Heap) (locs : List Loc) (ls : Array Slot), jOk G q s H locs → lv_has ls 2 [(0, jR G l0)] → W p l e R s m args below meth c H locs 0 0 (MQ below (jQ G (some (vI fin.1)) fin.2) args s 0 0 (jA G)) (F0 m 38 ls [])) (hO : jOk G S.1 s H locs) (hl : lv_has ls 2 [(0, jR G l0), (1, vI S.2)]) : W p l e R s m args below meth c H locs 0 0 (MQ below (jQ G (some (vI fin.1)) fin.2) args s 0 0 (jA G)) (F0 m 13 ls []) := by
  unfold f_X4_addNode_L13 at hf
  refine lv_iload_n C.1 C.2.1 dX4_addNode_13 rfl (lv_at hl 1 rfl) ?_
  refine lv_iconst (v := Int32.ofInt 3) C.1 C.2.1 dX4_addNode_14 rfl ?_
  refine j_icmp_ge (tgt := 38) C rfl (w32_id (by decide) (by decide)) dX4_addNode_15 (by decide) (fun c2 => ?_) (fun c2 => ?_)
  · have hf := (if_pos c2).symm.trans hf
    exact kx0 _ (som_e hf).symm _ _ _ hO (lv_sub hl [0] rfl)
  · have hf := (if_neg c2).symm.trans hf
    refine lv_aload_n C.1 C.2.1 dX4_addNode_18 rfl (lv_at hl 0 rfl) ?_
    refine j_get C hO (ci := 4) (k := 0) (v := jR G (jpt l0 0)) h0 rfl inlX4 (by decide) kF_5_8 rfl rfl dX4_addNode_19 ?_
    refine lv_aload_n C.1 C.2.1 dX4_addNode_22 rfl (lv_at hl 0 rfl) ?_
    refine j_get C hO (ci := 4) (k := 6) (v := vI (S.1 l0 6)) h0 rfl inlX4 (by decide) kF_34_12 rfl rfl dX4_addNode_23 ?_
    refine lv_iconst (v := Int32.ofInt 3) C.1 C.2.1 dX4_addNode_26 rfl ?_
    refine j_imul C dX4_addNode_27 ?_
    refine lv_iload_n C.1 C.2.1 dX4_addNode_28 rfl (lv_at hl 1 rfl) ?_
    refine j_iadd C dX4_addNode_29 ?_
    refine lv_iconst (v := Int32.ofInt (-1)) C.1 C.2.1 dX4_addNode_30 rfl ?_
    obtain ⟨g3, hf⟩ := grd_e hf
    obtain ⟨M4, hM4, hf⟩ := lt1_e hf
    refine j_iast C hO (x := (-1)) (tp_4_0 h0) rfl g3.1 g3.2 dX4_addNode_31 (fun H locs hO => ?_)
    rw [← hM4] at hO
    refine lv_iinc (v := Int32.ofInt (S.2 + 1)) (lv' := [(1, vI (S.2 + 1)), (0, jR G l0)]) C.1 C.2.1 dX4_addNode_32 hl (k := 1) rfl (Int32.ofInt_add _ _).symm (by decide) rfl (fun ls hl => ?_)
    refine lv_goto (tgt := 13) C.1 C.2.1 dX4_addNode_35 (by decide) ?_
    exact kc _ (som_e hf).symm _ _ _ hO (lv_sub hl [1, 0] rfl)
set_option maxHeartbeats 4000000 in
theorem w_X4_addNode {p : Program} {l : Launch} {e : Env} {R : Room} {s : State} {m : MethodId} {args : Array Value} {below : List Frame} {meth : Method} {c : Code} {H : Heap} {locs : List Loc} {ls : Array Slot} {G : jG}  (C : jCx p s m args meth c cX4_addNode 2 RX4 (Cond.code yX4_addNode cX4_addNode 2 (some .int)) (some .int)) (hRf : 0 ≤ R.frames) (hRl : 0 ≤ R.locals)  (M : jM) (l0 : Int) (h0 : jkd l0 = (4, 0)) {fin : Int × jM} (hf : f_X4_addNode M l0 = some fin) (hO : jOk G M s H locs) (hl : lv_has ls 2 [(0, jR G l0)]) : W p l e R s m args below meth c H locs 0 0 (MQ below (jQ G (some (vI fin.1)) fin.2) args s 0 0 (jA G)) (F0 m 0 ls []) := by
  unfold f_X4_addNode at hf
  refine lv_aload_n C.1 C.2.1 dX4_addNode_0 rfl (lv_at hl 0 rfl) ?_
  refine j_get C hO (ci := 4) (k := 6) (v := vI (M l0 6)) h0 rfl inlX4 (by decide) kF_34_12 rfl rfl dX4_addNode_1 ?_
  refine lv_bipush (v := Int32.ofInt 37) C.1 C.2.1 dX4_addNode_4 (by decide) ?_
  refine j_icmp_lt (tgt := 11) C rfl (w32_id (by decide) (by decide)) dX4_addNode_6 (by decide) (fun c1 => ?_) (fun c1 => ?_)
  · have hf := (if_pos c1).symm.trans hf
    refine lv_iconst (v := Int32.ofInt 0) C.1 C.2.1 dX4_addNode_11 rfl ?_
    refine lv_istore_n (lv' := [(1, vI 0), (0, jR G l0)]) C.1 C.2.1 dX4_addNode_12 rfl hl (by decide) rfl (fun ls hl => ?_)
    obtain ⟨x5, hx5, hf⟩ := bnd_e hf
    refine iter_e (P := fun Z => ∀ (H : Heap) (locs : List Loc) (ls : Array Slot), jOk G Z.1 s H locs → lv_has ls 2 [(0, jR G l0), (1, vI Z.2)] → W p l e R s m args below meth c H locs 0 0 (MQ below (jQ G (some (vI fin.1)) fin.2) args s 0 0 (jA G)) (F0 m 13 ls [])) (E := fun q => ∀ (H : Heap) (locs : List Loc) (ls : Array Slot), jOk G q s H locs → lv_has ls 2 [(0, jR G l0)] → W p l e R s m args below meth c H locs 0 0 (MQ below (jQ G (some (vI fin.1)) fin.2) args s 0 0 (jA G)) (F0 m 38 ls [])) (fun Z rr hb kc kx H locs ls hO hl => w_X4_addNode_L13 C hRf hRl M l0 h0 Z hb kc (fun q e => kx q e) hO hl) 5000 (M, 0) x5 hx5 ?_ _ _ _ hO (lv_sub hl [1, 0] rfl)
    clear hO hl
    intro H locs ls hO hl
    refine lv_aload_n C.1 C.2.1 dX4_addNode_38 rfl (lv_at hl 0 rfl) ?_
    refine j_get C hO (ci := 4) (k := 1) (v := jR G (jpt l0 1)) h0 rfl inlX4 (by decide) kF_5_9 rfl rfl dX4_addNode_39 ?_
    refine lv_aload_n C.1 C.2.1 dX4_addNode_42 rfl (lv_at hl 0 rfl) ?_
    refine j_get C hO (ci := 4) (k := 6) (v := vI (x5 l0 6)) h0 rfl inlX4 (by decide) kF_34_12 rfl rfl dX4_addNode_43 ?_
    refine lv_iconst (v := Int32.ofInt 0) C.1 C.2.1 dX4_addNode_46 rfl ?_
    obtain ⟨g6, hf⟩ := grd_e hf
    obtain ⟨M7, hM7, hf⟩ := lt1_e hf
    refine j_iast C hO (x := 0) (tp_4_1 h0) rfl g6.1 g6.2 dX4_addNode_47 (fun H locs hO => ?_)
    rw [← hM7] at hO
    refine lv_aload_n C.1 C.2.1 dX4_addNode_48 rfl (lv_at hl 0 rfl) ?_
    refine j_get C hO (ci := 4) (k := 2) (v := jR G (jpt l0 2)) h0 rfl inlX4 (by decide) kF_5_10 rfl rfl dX4_addNode_49 ?_
    refine lv_aload_n C.1 C.2.1 dX4_addNode_52 rfl (lv_at hl 0 rfl) ?_
    refine j_get C hO (ci := 4) (k := 6) (v := vI (M7 l0 6)) h0 rfl inlX4 (by decide) kF_34_12 rfl rfl dX4_addNode_53 ?_
    refine lv_bipush (v := Int32.ofInt 6) C.1 C.2.1 dX4_addNode_56 (by decide) ?_
    obtain ⟨g8, hf⟩ := grd_e hf
    obtain ⟨M9, hM9, hf⟩ := lt1_e hf
    refine j_iast C hO (x := 6) (tp_4_2 h0) rfl g8.1 g8.2 dX4_addNode_58 (fun H locs hO => ?_)
    rw [← hM9] at hO
    refine lv_aload_n C.1 C.2.1 dX4_addNode_59 rfl (lv_at hl 0 rfl) ?_
    refine lv_dup C.1 C.2.1 dX4_addNode_60 rfl ?_
    refine j_get C hO (ci := 4) (k := 6) (v := vI (M9 l0 6)) h0 rfl inlX4 (by decide) kF_34_12 rfl rfl dX4_addNode_61 ?_
    refine lv_iconst (v := Int32.ofInt 1) C.1 C.2.1 dX4_addNode_64 rfl ?_
    refine j_iadd C dX4_addNode_65 ?_
    obtain ⟨M10, hM10, hf⟩ := lt1_e hf
    refine j_put C hO (ci := 4) (k := 6) (x := (M9 l0 6) + 1) h0 rfl inlX4 tyX4_ok nmX4 (by decide) kF_34_12 rfl rfl rfl rfl (by simp [jfl]) (fs_4_6) dX4_addNode_66 (fun H locs hO => ?_)
    rw [← hM10] at hO
    refine lv_aload_n C.1 C.2.1 dX4_addNode_69 rfl (lv_at hl 0 rfl) ?_
    refine j_get C hO (ci := 4) (k := 6) (v := vI (M10 l0 6)) h0 rfl inlX4 (by decide) kF_34_12 rfl rfl dX4_addNode_70 ?_
    refine lv_iconst (v := Int32.ofInt 1) C.1 C.2.1 dX4_addNode_73 rfl ?_
    refine j_isub C dX4_addNode_74 ?_
    have hf := som_e hf
    subst hf
    exact j_iret C hO dX4_addNode_75
  · have hf := (if_neg c1).symm.trans hf
    refine lv_iconst (v := Int32.ofInt 0) C.1 C.2.1 dX4_addNode_9 rfl ?_
    have hf := som_e hf
    subst hf
    exact j_iret C hO dX4_addNode_10
set_option maxHeartbeats 1000000 in
theorem c_X4_addNode (l : Launch) (G : jG)  (M : jM) (l0 : Int) (h0 : jkd l0 = (4, 0)) {fin : Int × jM} (h : f_X4_addNode M l0 = some fin) : Met l yX4_addNode (Cond.code yX4_addNode cX4_addNode 2 (some .int) :: wsL_law) ({ frames := 0, cells := 0, slots := 0, locals := 0 } : Room) (va_Pc [jR G l0] (fun U => jRep G M U)) (jQ G (some (vI fin.1)) fin.2) 0 0 (jA G) := by
  refine Met.ofW (cc := cX4_addNode) (maxL := 2) (ret := (some .int)) (by decide) rfl ?_
  intro p e s m args below meth c s₁ B hml hv
  obtain ⟨rfl, hR0⟩ := hv
  have C : jCx p s m ([jR G l0] : List Value).toArray meth c cX4_addNode 2 RX4 (Cond.code yX4_addNode cX4_addNode 2 (some .int)) (some .int) := ⟨B.exec, B.bytes, hml, findClass_of_methodNamed B.named, atoms_spec B.pre, B.returns, B.notSynchronized⟩
  have hO := hR0.ok
  have hl := lv_entry ([jR G l0]) (n := 2) (Nat.le_of_ble_eq_true rfl)
  rw [lg_entry_eq]
  generalize (lg_sl ([jR G l0]) ++ List.replicate (2 - (lg_sl ([jR G l0])).length) Slot.unset).toArray = ls at hl ⊢
  have hl : lv_has ls 2 [(0, jR G l0)] := hl
  exact w_X4_addNode C (Nat.le_refl _) (Nat.le_refl _) M l0 h0 h hO hl
set_option maxHeartbeats 4000000 in
theorem w_X4_grow_47 {p : Program} {l : Launch} {e : Env} {R : Room} {s : State} {m : MethodId} {args : Array Value} {below : List Frame} {meth : Method} {c : Code} {H : Heap} {locs : List Loc} {ls : Array Slot} {G : jG}  (C : jCx p s m args meth c cX4_grow 6 RX4 (Cond.code yX4_grow cX4_grow 6 none) none) (hRf : 1 ≤ R.frames) (hRl : 21 ≤ R.locals)  (M : jM) (l0 l1 l2 l3 l5 : Int) (h0 : jkd l0 = (4, 0)) (h1 : jkd l1 = (3, 0)) {fin : jM} (hf : f_X4_grow_47 M l0 l1 l2 l3 l5 = some fin) (hO : jOk G M s H locs) (hl : lv_has ls 6 [(0, jR G l0), (1, jR G l1), (2, vI l2), (3, vI l3), (5, vI l5)]) : W p l e R s m args below meth c H locs 0 0 (MQ below (jQ G none fin) args s 0 0 (jA G)) (F0 m 47 ls []) := by
  unfold f_X4_grow_47 at hf
  refine lv_aload_n C.1 C.2.1 dX4_grow_47 rfl (lv_at hl 0 rfl) ?_
  refine j_get C hO (ci := 4) (k := 3) (v := jR G (jpt l0 3)) h0 rfl inlX4 (by decide) kF_5_11 rfl rfl dX4_grow_48 ?_
  refine lv_iload_n C.1 C.2.1 dX4_grow_51 rfl (lv_at hl 2 rfl) ?_
  refine lv_aload_n C.1 C.2.1 dX4_grow_52 rfl (lv_at hl 0 rfl) ?_
  refine j_get C hO (ci := 4) (k := 0) (v := jR G (jpt l0 0)) h0 rfl inlX4 (by decide) kF_5_8 rfl rfl dX4_grow_53 ?_
  refine lv_iload C.1 C.2.1 dX4_grow_56 (lv_at hl 4 rfl) ?_
  obtain ⟨g6, hf⟩ := grd_e hf
  refine j_iald C hO (tp_4_0 h0) rfl g6.1 g6.2 dX4_grow_58 ?_
  obtain ⟨g7, hf⟩ := grd_e hf
  obtain ⟨M8, hM8, hf⟩ := lt1_e hf
  refine j_iast C hO (x := M (jpt l0 0) (w32 l5)) (tp_4_3 h0) rfl g7.1 g7.2 dX4_grow_59 (fun H locs hO => ?_)
  rw [← hM8] at hO
  refine lv_iload_n C.1 C.2.1 dX4_grow_60 rfl (lv_at hl 3 rfl) ?_
  refine lv_aload_n C.1 C.2.1 dX4_grow_61 rfl (lv_at hl 1 rfl) ?_
  refine j_get C hO (ci := 3) (k := 0) (v := vI (M8 l1 0)) h1 rfl inlX3 (by decide) kF_35_0 rfl rfl dX4_grow_62 ?_
  refine lv_iconst (v := Int32.ofInt 1) C.1 C.2.1 dX4_grow_65 rfl ?_
  refine j_isub C dX4_grow_66 ?_
  refine j_icmp_ne (tgt := 96) C rfl rfl dX4_grow_67 (by decide) (fun c9 => ?_) (fun c9 => ?_)
  · have hf := (if_neg c9).symm.trans hf
    have hf := som_e hf
    subst hf
    exact j_vret C hO dX4_grow_96
  · have hf := (if_pos c9).symm.trans hf
    refine lv_aload_n C.1 C.2.1 dX4_grow_70 rfl (lv_at hl 0 rfl) ?_
    refine j_get C hO (ci := 4) (k := 2) (v := jR G (jpt l0 2)) h0 rfl inlX4 (by decide) kF_5_10 rfl rfl dX4_grow_71 ?_
    refine lv_aload_n C.1 C.2.1 dX4_grow_74 rfl (lv_at hl 0 rfl) ?_
    refine j_get C hO (ci := 4) (k := 3) (v := jR G (jpt l0 3)) h0 rfl inlX4 (by decide) kF_5_11 rfl rfl dX4_grow_75 ?_
    refine lv_iload_n C.1 C.2.1 dX4_grow_78 rfl (lv_at hl 2 rfl) ?_
    obtain ⟨g10, hf⟩ := grd_e hf
    refine j_iald C hO (tp_4_3 h0) rfl g10.1 g10.2 dX4_grow_79 ?_
    refine lv_aload_n C.1 C.2.1 dX4_grow_80 rfl (lv_at hl 0 rfl) ?_
    refine j_get C hO (ci := 4) (k := 2) (v := jR G (jpt l0 2)) h0 rfl inlX4 (by decide) kF_5_10 rfl rfl dX4_grow_81 ?_
    refine lv_aload_n C.1 C.2.1 dX4_grow_84 rfl (lv_at hl 0 rfl) ?_
    refine j_get C hO (ci := 4) (k := 3) (v := jR G (jpt l0 3)) h0 rfl inlX4 (by decide) kF_5_11 rfl rfl dX4_grow_85 ?_
    refine lv_iload_n C.1 C.2.1 dX4_grow_88 rfl (lv_at hl 2 rfl) ?_
    obtain ⟨g11, hf⟩ := grd_e hf
    refine j_iald C hO (tp_4_3 h0) rfl g11.1 g11.2 dX4_grow_89 ?_
    obtain ⟨g12, hf⟩ := grd_e hf
    refine j_iald C hO (tp_4_2 h0) rfl g12.1 g12.2 dX4_grow_90 ?_
    refine lv_iload_n C.1 C.2.1 dX4_grow_91 rfl (lv_at hl 2 rfl) ?_
    refine j_mmin C kM_35_1 kT_7_15 kN_7_16 kC_7_17 hl.1 (Nat.le_trans (by decide) hRf) (Nat.le_trans (by decide) hRl) ⟨Nat.zero_le _, Nat.zero_le _⟩ (Nat.le_of_ble_eq_true rfl) dX4_grow_92 ?_
    obtain ⟨g13, hf⟩ := grd_e hf
    obtain ⟨M14, hM14, hf⟩ := lt1_e hf
    refine j_iast C hO (x := (min (w32 (M8 (jpt l0 2) (w32 (M8 (jpt l0 3) (w32 l2))))) (w32 l2))) (tp_4_2 h0) rfl g13.1 g13.2 dX4_grow_95 (fun H locs hO => ?_)
    rw [← hM14] at hO
    have hf := som_e hf
    subst hf
    exact j_vret C hO dX4_grow_96
set_option maxHeartbeats 4000000 in
theorem w_X4_grow {p : Program} {l : Launch} {e : Env} {R : Room} {s : State} {m : MethodId} {args : Array Value} {below : List Frame} {meth : Method} {c : Code} {H : Heap} {locs : List Loc} {ls : Array Slot} {G : jG}  (C : jCx p s m args meth c cX4_grow 6 RX4 (Cond.code yX4_grow cX4_grow 6 none) none) (hRf : 1 ≤ R.frames) (hRl : 21 ≤ R.locals)  (M : jM) (l0 l1 l2 l3 : Int) (h0 : jkd l0 = (4, 0)) (h1 : jkd l1 = (3, 0)) {fin : jM} (hf : f_X4_grow M l0 l1 l2 l3 = some fin) (hO : jOk G M s H locs) (hl : lv_has ls 6 [(0, jR G l0), (1, jR G l1), (2, vI l2), (3, vI l3)]) : W p l e R s m args below meth c H locs 0 0 (MQ below (jQ G none fin) args s 0 0 (jA G)) (F0 m 0 ls []) := by
  unfold f_X4_grow at hf
  refine lv_aload_n C.1 C.2.1 dX4_grow_0 rfl (lv_at hl 1 rfl) ?_
  refine lv_iload_n C.1 C.2.1 dX4_grow_1 rfl (lv_at hl 3 rfl) ?_
  obtain ⟨r1, hr1, hf⟩ := bnd_e hf
  refine j_callV C hO (n := 1) (As := [vI l3]) (st1 := [vI r1]) (c_X3_signAt l G M l1 l3 h1 hr1) h1 rfl kC_19_6 kM_35_2 kI_19_4 kS_19_5 kN_3_8 ⟨by decide, by decide, by decide⟩ ⟨Nat.le_trans (by decide) hRf, Nat.le_trans (by decide) hRl⟩ rfl rfl rfl hl.1 rfl (Nat.le_of_ble_eq_true rfl) ⟨Nat.zero_le _, Nat.zero_le _⟩ dX4_grow_2 rfl (fun H locs hO => ?_)
  refine lv_istore (lv' := [(4, vI r1), (0, jR G l0), (1, jR G l1), (2, vI l2), (3, vI l3)]) C.1 C.2.1 dX4_grow_5 hl (by decide) rfl (fun ls hl => ?_)
  refine lv_iload C.1 C.2.1 dX4_grow_7 (lv_at hl 0 rfl) ?_
  refine j_if_ge (tgt := 13) C rfl dX4_grow_9 (by decide) (fun c2 => ?_) (fun c2 => ?_)
  · have hf := (if_pos c2).symm.trans hf
    refine lv_aload_n C.1 C.2.1 dX4_grow_13 rfl (lv_at hl 1 rfl) ?_
    refine j_get C hO (ci := 4) (k := 3) (v := jR G (jpt l0 3)) h0 rfl inlX4 (by decide) kF_5_11 rfl rfl dX4_grow_14 ?_
    refine lv_iload_n C.1 C.2.1 dX4_grow_17 rfl (lv_at hl 3 rfl) ?_
    obtain ⟨g3, hf⟩ := grd_e hf
    refine j_iald C hO (tp_4_3 h0) rfl g3.1 g3.2 dX4_grow_18 ?_
    refine lv_iconst (v := Int32.ofInt 3) C.1 C.2.1 dX4_grow_19 rfl ?_
    refine j_imul C dX4_grow_20 ?_
    refine lv_iload C.1 C.2.1 dX4_grow_21 (lv_at hl 0 rfl) ?_
    refine j_iadd C dX4_grow_23 ?_
    refine lv_istore (lv' := [(5, vI (((M (jpt l0 3) (w32 l2)) * 3) + r1)), (4, vI r1), (0, jR G l0), (1, jR G l1), (2, vI l2), (3, vI l3)]) C.1 C.2.1 dX4_grow_24 hl (by decide) rfl (fun ls hl => ?_)
    refine lv_aload_n C.1 C.2.1 dX4_grow_26 rfl (lv_at hl 2 rfl) ?_
    refine j_get C hO (ci := 4) (k := 0) (v := jR G (jpt l0 0)) h0 rfl inlX4 (by decide) kF_5_8 rfl rfl dX4_grow_27 ?_
    refine lv_iload C.1 C.2.1 dX4_grow_30 (lv_at hl 0 rfl) ?_
    obtain ⟨g4, hf⟩ := grd_e hf
    refine j_iald C hO (tp_4_0 h0) rfl g4.1 g4.2 dX4_grow_32 ?_
    refine j_if_ge (tgt := 47) C rfl dX4_grow_33 (by decide) (fun c5 => ?_) (fun c5 => ?_)
    · have hf := (if_pos c5).symm.trans hf
      exact w_X4_grow_47 C hRf hRl M l0 l1 l2 l3 (((M (jpt l0 3) (w32 l2)) * 3) + r1) h0 h1 hf hO (lv_sub hl [2, 3, 4, 5, 0] rfl)
    · have hf := (if_neg c5).symm.trans hf
      refine lv_aload_n C.1 C.2.1 dX4_grow_36 rfl (lv_at hl 2 rfl) ?_
      refine j_get C hO (ci := 4) (k := 0) (v := jR G (jpt l0 0)) h0 rfl inlX4 (by decide) kF_5_8 rfl rfl dX4_grow_37 ?_
      refine lv_iload C.1 C.2.1 dX4_grow_40 (lv_at hl 0 rfl) ?_
      refine lv_aload_n C.1 C.2.1 dX4_grow_42 rfl (lv_at hl 2 rfl) ?_
      obtain ⟨r15, hr15, hf⟩ := bnd_e hf
      refine j_callV C hO (n := 0) (As := []) (st1 := [vI r15.1, vI (((M (jpt l0 3) (w32 l2)) * 3) + r1), jR G (jpt l0 0)]) (c_X4_addNode l G M l0 h0 hr15) h0 rfl kC_34_18 kM_34_15 kI_34_16 kS_34_17 kN_2_16 ⟨by decide, by decide, by decide⟩ ⟨Nat.le_trans (by decide) hRf, Nat.le_trans (by decide) hRl⟩ rfl rfl rfl hl.1 rfl (Nat.le_of_ble_eq_true rfl) ⟨Nat.zero_le _, Nat.zero_le _⟩ dX4_grow_43 rfl (fun H locs hO => ?_)
      obtain ⟨g16, hf⟩ := grd_e hf
      obtain ⟨M17, hM17, hf⟩ := lt1_e hf
      refine j_iast C hO (x := r15.1) (tp_4_0 h0) rfl g16.1 g16.2 dX4_grow_46 (fun H locs hO => ?_)
      rw [← hM17] at hO
      exact w_X4_grow_47 C hRf hRl M17 l0 l1 l2 l3 (((M (jpt l0 3) (w32 l2)) * 3) + r1) h0 h1 hf hO (lv_sub hl [2, 3, 4, 5, 0] rfl)
  · have hf := (if_neg c2).symm.trans hf
    have hf := som_e hf
    subst hf
    exact j_vret C hO dX4_grow_12
set_option maxHeartbeats 1000000 in
theorem c_X4_grow (l : Launch) (G : jG)  (M : jM) (l0 l1 l2 l3 : Int) (h0 : jkd l0 = (4, 0)) (h1 : jkd l1 = (3, 0)) {fin : jM} (h : f_X4_grow M l0 l1 l2 l3 = some fin) : Met l yX4_grow (Cond.code yX4_grow cX4_grow 6 none :: wsL_law) ({ frames := 1, cells := 0, slots := 0, locals := 21 } : Room) (va_Pc [jR G l0, jR G l1, vI l2, vI l3] (fun U => jRep G M U)) (jQ G none fin) 0 0 (jA G) := by
  refine Met.ofW (cc := cX4_grow) (maxL := 6) (ret := none) (by decide) rfl ?_
  intro p e s m args below meth c s₁ B hml hv
  obtain ⟨rfl, hR0⟩ := hv
  have C : jCx p s m ([jR G l0, jR G l1, vI l2, vI l3] : List Value).toArray meth c cX4_grow 6 RX4 (Cond.code yX4_grow cX4_grow 6 none) none := ⟨B.exec, B.bytes, hml, findClass_of_methodNamed B.named, atoms_spec B.pre, B.returns, B.notSynchronized⟩
  have hO := hR0.ok
  have hl := lv_entry ([jR G l0, jR G l1, vI l2, vI l3]) (n := 6) (Nat.le_of_ble_eq_true rfl)
  rw [lg_entry_eq]
  generalize (lg_sl ([jR G l0, jR G l1, vI l2, vI l3]) ++ List.replicate (6 - (lg_sl ([jR G l0, jR G l1, vI l2, vI l3])).length) Slot.unset).toArray = ls at hl ⊢
  have hl : lv_has ls 6 [(0, jR G l0), (1, jR G l1), (2, vI l2), (3, vI l3)] := hl
  exact w_X4_grow C (Nat.le_refl _) (Nat.le_refl _) M l0 l1 l2 l3 h0 h1 h hO hl
