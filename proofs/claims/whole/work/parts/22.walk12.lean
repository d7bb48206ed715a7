set_option maxHeartbeats 4000000 in
theorem w_X10_weightsFrom_L5 {p : Program} {l : Launch} {e : Env} {R : Room} {s : State} {m : MethodId} {args : Array Value} {below : List Frame} {meth : Method} {c : Code} {H : Heap} {locs : List Loc} {ls : Array Slot} {G : jG}  (C : jCx p s m args meth c cX10_weightsFrom 6 RX10 (Cond.code yX10_weightsFrom cX10_weightsFrom 6 (some .long)) (some .long)) (hRf : 0 ≤ R.frames) (hRl : 0 ≤ R.locals)  (M : jM) (l0 l1 : Int) (h0 : jkd l0 = (10, 0)) {fin : Int} (S : Int × Int) {rr : (Int × Int) ⊕ Int} (hf : f_X10_weightsFrom_L5 M l0 l1 S = some rr) (kc : ∀ q : Int × Int, rr = .inl q → ∀ (H : Heap) (locs : List Loc) (ls : Array Slot), jOk G M s H locs → lv_has ls 6 [(0, jR G l0), (1, vI l1), (3, vL q.1), (5, vI q.2)] → W p l e R s m args below meth c H locs 0 0 (MQ below (jQ G (some (vL fin)) M) args s 0 0 (jA G)) (F0 m 5 ls [])) (kx0 : ∀ q : Int, rr = .inr q → ∀ (H : Heap) (locs : List Loc) (ls : Array Slot), jOk G M s H locs → lv_has ls 6 [(3, vL q)] → W p l e R s m args below meth c H locs 0 0 (MQ below (jQ G (some (vL fin)) M) args s 0 0 (jA G)) (F0 m 49 ls [])) (hO : jOk G M s H locs) (hl : lv_has ls 6 [(0, jR G l0), (1, vI l1), (3, vL S.1), (5, vI S.2)]) : W p l e R s m args below meth c H locs 0 0 (MQ below (jQ G (some (vL fin)) M) args s 0 0 (jA G)) (F0 m 5 ls []) := by
  unfold f_X10_weightsFrom_L5 at hf
  refine lv_iload C.1 C.2.1 dX10_weightsFrom_5 (lv_at hl 3 rfl) ?_
  refine lv_aload_n C.1 C.2.1 dX10_weightsFrom_7 rfl (lv_at hl 0 rfl) ?_
  refine j_get C hO (ci := 10) (k := 1) (v := jR G (jpt l0 1)) h0 rfl inlX10 (by decide) kF_5_23 rfl rfl dX10_weightsFrom_8 ?_
  refine lv_bipush (v := Int32.ofInt 58) C.1 C.2.1 dX10_weightsFrom_11 (by decide) ?_
  refine lv_iload_n C.1 C.2.1 dX10_weightsFrom_13 rfl (lv_at hl 1 rfl) ?_
  refine j_iadd C dX10_weightsFrom_14 ?_
  obtain ⟨g1, hf⟩ := grd_e hf
  refine j_iald C hO (tp_10_1 h0) rfl g1.1 g1.2 dX10_weightsFrom_15 ?_
  refine j_icmp_ge (tgt := 49) C rfl rfl dX10_weightsFrom_16 (by decide) (fun c2 => ?_) (fun c2 => ?_)
  · have hf := (if_pos c2).symm.trans hf
    exact kx0 _ (som_e hf).symm _ _ _ hO (lv_sub hl [2] rfl)
  · have hf := (if_neg c2).symm.trans hf
    refine lv_lload_n C.1 C.2.1 dX10_weightsFrom_19 rfl (lv_at hl 2 rfl) ?_
    refine lv_aload_n C.1 C.2.1 dX10_weightsFrom_20 rfl (lv_at hl 0 rfl) ?_
    refine j_get C hO (ci := 10) (k := 11) (v := jR G (jpt l0 11)) h0 rfl inlX10 (by decide) kF_6_4 rfl rfl dX10_weightsFrom_21 ?_
    refine lv_aload_n C.1 C.2.1 dX10_weightsFrom_24 rfl (lv_at hl 0 rfl) ?_
    refine j_get C hO (ci := 10) (k := 1) (v := jR G (jpt l0 1)) h0 rfl inlX10 (by decide) kF_5_23 rfl rfl dX10_weightsFrom_25 ?_
    refine lv_bipush (v := Int32.ofInt 10) C.1 C.2.1 dX10_weightsFrom_28 (by decide) ?_
    refine lv_bipush (v := Int32.ofInt 6) C.1 C.2.1 dX10_weightsFrom_30 (by decide) ?_
    refine lv_iload_n C.1 C.2.1 dX10_weightsFrom_32 rfl (lv_at hl 1 rfl) ?_
    refine j_imul C dX10_weightsFrom_33 ?_
    refine j_iadd C dX10_weightsFrom_34 ?_
    refine lv_iload C.1 C.2.1 dX10_weightsFrom_35 (lv_at hl 3 rfl) ?_
    refine j_iadd C dX10_weightsFrom_37 ?_
    obtain ⟨g3, hf⟩ := grd_e hf
    refine j_iald C hO (tp_10_1 h0) rfl g3.1 g3.2 dX10_weightsFrom_38 ?_
    obtain ⟨g4, hf⟩ := grd_e hf
    refine j_iald C hO (tp_10_11 h0) rfl g4.1 g4.2 dX10_weightsFrom_39 ?_
    refine j_i2l C dX10_weightsFrom_40 ?_
    refine j_lmul C dX10_weightsFrom_41 ?_
    refine lv_lstore_n (lv' := [(3, vL (S.1 * (w32 (M (jpt l0 11) (w32 (M (jpt l0 1) (w32 ((10 + (6 * l1)) + S.2)))))))), (0, jR G l0), (1, vI l1), (5, vI S.2)]) C.1 C.2.1 dX10_weightsFrom_42 rfl hl (by decide) rfl (fun ls hl => ?_)
    refine lv_iinc (v := Int32.ofInt (S.2 + 1)) (lv' := [(5, vI (S.2 + 1)), (3, vL (S.1 * (w32 (M (jpt l0 11) (w32 (M (jpt l0 1) (w32 ((10 + (6 * l1)) + S.2)))))))), (0, jR G l0), (1, vI l1)]) C.1 C.2.1 dX10_weightsFrom_43 hl (k := 3) rfl (Int32.ofInt_add _ _).symm (by decide) rfl (fun ls hl => ?_)
    refine lv_goto (tgt := 5) C.1 C.2.1 dX10_weightsFrom_46 (by decide) ?_
    exact kc _ (som_e hf).symm _ _ _ hO (lv_sub hl [2, 3, 1, 0] rfl)
set_option maxHeartbeats 4000000 in
theorem w_X10_weightsFrom {p : Program} {l : Launch} {e : Env} {R : Room} {s : State} {m : MethodId} {args : Array Value} {below : List Frame} {meth : Method} {c : Code} {H : Heap} {locs : List Loc} {ls : Array Slot} {G : jG}  (C : jCx p s m args meth c cX10_weightsFrom 6 RX10 (Cond.code yX10_weightsFrom cX10_weightsFrom 6 (some .long)) (some .long)) (hRf : 0 ≤ R.frames) (hRl : 0 ≤ R.locals)  (M : jM) (l0 l1 l2 : Int) (h0 : jkd l0 = (10, 0)) {fin : Int} (hf : f_X10_weightsFrom M l0 l1 l2 = some fin) (hO : jOk G M s H locs) (hl : lv_has ls 6 [(0, jR G l0), (1, vI l1), (2, vI l2)]) : W p l e R s m args below meth c H locs 0 0 (MQ below (jQ G (some (vL fin)) M) args s 0 0 (jA G)) (F0 m 0 ls []) := by
  unfold f_X10_weightsFrom at hf
  refine lv_lconst (v := Int64.ofInt 1) C.1 C.2.1 dX10_weightsFrom_0 (by decide) ?_
  refine lv_lstore_n (lv' := [(3, vL 1), (0, jR G l0), (1, vI l1), (2, vI l2)]) C.1 C.2.1 dX10_weightsFrom_1 rfl hl (by decide) rfl (fun ls hl => ?_)
  refine lv_iload_n C.1 C.2.1 dX10_weightsFrom_2 rfl (lv_at hl 3 rfl) ?_
  refine lv_istore (lv' := [(5, vI l2), (3, vL 1), (0, jR G l0), (1, vI l1), (2, vI l2)]) C.1 C.2.1 dX10_weightsFrom_3 hl (by decide) rfl (fun ls hl => ?_)
  obtain ⟨x5, hx5, hf⟩ := bnd_e hf
  refine iter_e (P := fun Z => ∀ (H : Heap) (locs : List Loc) (ls : Array Slot), jOk G M s H locs → lv_has ls 6 [(0, jR G l0), (1, vI l1), (3, vL Z.1), (5, vI Z.2)] → W p l e R s m args below meth c H locs 0 0 (MQ below (jQ G (some (vL fin)) M) args s 0 0 (jA G)) (F0 m 5 ls [])) (E := fun q => ∀ (H : Heap) (locs : List Loc) (ls : Array Slot), jOk G M s H locs → lv_has ls 6 [(3, vL q)] → W p l e R s m args below meth c H locs 0 0 (MQ below (jQ G (some (vL fin)) M) args s 0 0 (jA G)) (F0 m 49 ls [])) (fun Z rr hb kc kx H locs ls hO hl => w_X10_weightsFrom_L5 C hRf hRl M l0 l1 h0 Z hb kc (fun q e => kx q e) hO hl) 5000 (1, l2) x5 hx5 ?_ _ _ _ hO (lv_sub hl [2, 3, 1, 0] rfl)
  clear hO hl
  intro H locs ls hO hl
  refine lv_lload_n C.1 C.2.1 dX10_weightsFrom_49 rfl (lv_at hl 0 rfl) ?_
  have hf := som_e hf
  subst hf
  exact j_lret C hO dX10_weightsFrom_50
set_option maxHeartbeats 1000000 in
theorem c_X10_weightsFrom (l : Launch) (G : jG)  (M : jM) (l0 l1 l2 : Int) (h0 : jkd l0 = (10, 0)) {fin : Int} (h : f_X10_weightsFrom M l0 l1 l2 = some fin) : Met l yX10_weightsFrom (Cond.code yX10_weightsFrom cX10_weightsFrom 6 (some .long) :: wsL_law) ({ frames := 0, cells := 0, slots := 0, locals := 0 } : Room) (va_Pc [jR G l0, vI l1, vI l2] (fun U => jRep G M U)) (jQ G (some (vL fin)) M) 0 0 (jA G) := by
  refine Met.ofW (cc := cX10_weightsFrom) (maxL := 6) (ret := (some .long)) (by decide) rfl ?_
  intro p e s m args below meth c s₁ B hml hv
  obtain ⟨rfl, hR0⟩ := hv
  have C : jCx p s m ([jR G l0, vI l1, vI l2] : List Value).toArray meth c cX10_weightsFrom 6 RX10 (Cond.code yX10_weightsFrom cX10_weightsFrom 6 (some .long)) (some .long) := ⟨B.exec, B.bytes, hml, findClass_of_methodNamed B.named, atoms_spec B.pre, B.returns, B.notSynchronized⟩
  have hO := hR0.ok
  have hl := lv_entry ([jR G l0, vI l1, vI l2]) (n := 6) (Nat.le_of_ble_eq_true rfl)
  rw [lg_entry_eq]
  generalize (lg_sl ([jR G l0, vI l1, vI l2]) ++ List.replicate (6 - (lg_sl ([jR G l0, vI l1, vI l2])).length) Slot.unset).toArray = ls at hl ⊢
  have hl : lv_has ls 6 [(0, jR G l0), (1, vI l1), (2, vI l2)] := hl
  exact w_X10_weightsFrom C (Nat.le_refl _) (Nat.le_refl _) M l0 l1 l2 h0 h hO hl
set_option maxHeartbeats 4000000 in
theorem w_X10_lap_61 {p : Program} {l : Launch} {e : Env} {R : Room} {s : State} {m : MethodId} {args : Array Value} {below : List Frame} {meth : Method} {c : Code} {H : Heap} {locs : List Loc} {ls : Array Slot} {G : jG}  (C : jCx p s m args meth c cX10_lap 9 RX10 (Cond.code yX10_lap cX10_lap 9 (some .long)) (some .long)) (hRf : 1 ≤ R.frames) (hRl : 26 ≤ R.locals)  (M : jM) (l0 l1 l2 l3 l6 l8 s0 s1 : Int) (h0 : jkd l0 = (10, 0)) {fin : Int} {rr : (Int × Int × Int) ⊕ Int} (hf : f_X10_lap_61 M l0 l1 l2 l3 l6 l8 s0 s1 = some rr) (kc : ∀ q : Int × Int × Int, rr = .inl q → ∀ (H : Heap) (locs : List Loc) (ls : Array Slot), jOk G M s H locs → lv_has ls 9 [(0, jR G l0), (1, vI l1), (2, vI l2), (3, vI l3), (4, vL q.1), (6, vL q.2.1), (8, vI q.2.2)] → W p l e R s m args below meth c H locs 0 0 (MQ below (jQ G (some (vL fin)) M) args s 0 0 (jA G)) (F0 m 9 ls [])) (kx0 : ∀ q : Int, rr = .inr q → ∀ (H : Heap) (locs : List Loc) (ls : Array Slot), jOk G M s H locs → lv_has ls 9 [(4, vL q)] → W p l e R s m args below meth c H locs 0 0 (MQ below (jQ G (some (vL fin)) M) args s 0 0 (jA G)) (F0 m 70 ls [])) (hO : jOk G M s H locs) (hl : lv_has ls 9 [(0, jR G l0), (1, vI l1), (2, vI l2), (3, vI l3), (6, vL l6), (8, vI l8)]) : W p l e R s m args below meth c H locs 0 0 (MQ below (jQ G (some (vL fin)) M) args s 0 0 (jA G)) (F0 m 61 ls [vL s1, vL s0]) := by
  unfold f_X10_lap_61 at hf
  refine j_ladd C dX10_lap_61 ?_
  refine lv_lstore (lv' := [(4, vL (s0 + s1)), (0, jR G l0), (1, vI l1), (2, vI l2), (3, vI l3), (6, vL l6), (8, vI l8)]) C.1 C.2.1 dX10_lap_62 hl (by decide) rfl (fun ls hl => ?_)
  refine lv_iinc (v := Int32.ofInt (l8 + 1)) (lv' := [(8, vI (l8 + 1)), (4, vL (s0 + s1)), (0, jR G l0), (1, vI l1), (2, vI l2), (3, vI l3), (6, vL l6)]) C.1 C.2.1 dX10_lap_64 hl (k := 6) rfl (Int32.ofInt_add _ _).symm (by decide) rfl (fun ls hl => ?_)
  refine lv_goto (tgt := 9) C.1 C.2.1 dX10_lap_67 (by decide) ?_
  exact kc _ (som_e hf).symm _ _ _ hO (lv_sub hl [2, 3, 4, 5, 1, 6, 0] rfl)
set_option maxHeartbeats 4000000 in
theorem w_X10_lap_L9 {p : Program} {l : Launch} {e : Env} {R : Room} {s : State} {m : MethodId} {args : Array Value} {below : List Frame} {meth : Method} {c : Code} {H : Heap} {locs : List Loc} {ls : Array Slot} {G : jG}  (C : jCx p s m args meth c cX10_lap 9 RX10 (Cond.code yX10_lap cX10_lap 9 (some .long)) (some .long)) (hRf : 1 ≤ R.frames) (hRl : 26 ≤ R.locals)  (M : jM) (l0 l1 l2 l3 : Int) (h0 : jkd l0 = (10, 0)) {fin : Int} (S : Int × Int × Int) {rr : (Int × Int × Int) ⊕ Int} (hf : f_X10_lap_L9 M l0 l1 l2 l3 S = some rr) (kc : ∀ q : Int × Int × Int, rr = .inl q → ∀ (H : Heap) (locs : List Loc) (ls : Array Slot), jOk G M s H locs → lv_has ls 9 [(0, jR G l0), (1, vI l1), (2, vI l2), (3, vI l3), (4, vL q.1), (6, vL q.2.1), (8, vI q.2.2)] → W p l e R s m args below meth c H locs 0 0 (MQ below (jQ G (some (vL fin)) M) args s 0 0 (jA G)) (F0 m 9 ls [])) (kx0 : ∀ q : Int, rr = .inr q → ∀ (H : Heap) (locs : List Loc) (ls : Array Slot), jOk G M s H locs → lv_has ls 9 [(4, vL q)] → W p l e R s m args below meth c H locs 0 0 (MQ below (jQ G (some (vL fin)) M) args s 0 0 (jA G)) (F0 m 70 ls [])) (hO : jOk G M s H locs) (hl : lv_has ls 9 [(0, jR G l0), (1, vI l1), (2, vI l2), (3, vI l3), (4, vL S.1), (6, vL S.2.1), (8, vI S.2.2)]) : W p l e R s m args below meth c H locs 0 0 (MQ below (jQ G (some (vL fin)) M) args s 0 0 (jA G)) (F0 m 9 ls []) := by
  unfold f_X10_lap_L9 at hf
  refine lv_iload C.1 C.2.1 dX10_lap_9 (lv_at hl 6 rfl) ?_
  refine lv_aload_n C.1 C.2.1 dX10_lap_11 rfl (lv_at hl 0 rfl) ?_
  refine j_get C hO (ci := 10) (k := 1) (v := jR G (jpt l0 1)) h0 rfl inlX10 (by decide) kF_5_23 rfl rfl dX10_lap_12 ?_
  refine lv_bipush (v := Int32.ofInt 58) C.1 C.2.1 dX10_lap_15 (by decide) ?_
  refine lv_iload_n C.1 C.2.1 dX10_lap_17 rfl (lv_at hl 3 rfl) ?_
  refine j_iadd C dX10_lap_18 ?_
  obtain ⟨g1, hf⟩ := grd_e hf
  refine j_iald C hO (tp_10_1 h0) rfl g1.1 g1.2 dX10_lap_19 ?_
  refine j_icmp_gt (tgt := 70) C rfl rfl dX10_lap_20 (by decide) (fun c2 => ?_) (fun c2 => ?_)
  · have hf := (if_pos c2).symm.trans hf
    exact kx0 _ (som_e hf).symm _ _ _ hO (lv_sub hl [4] rfl)
  · have hf := (if_neg c2).symm.trans hf
    refine lv_lload C.1 C.2.1 dX10_lap_23 (lv_at hl 5 rfl) ?_
    refine lv_aload_n C.1 C.2.1 dX10_lap_25 rfl (lv_at hl 0 rfl) ?_
    refine j_get C hO (ci := 10) (k := 12) (v := vI (M l0 12)) h0 rfl inlX10 (by decide) kF_16_9 rfl rfl dX10_lap_26 ?_
    refine j_i2l C dX10_lap_29 ?_
    refine j_lmul C dX10_lap_30 ?_
    refine lv_lstore (lv' := [(6, vL (S.2.1 * (w32 (M l0 12)))), (0, jR G l0), (1, vI l1), (2, vI l2), (3, vI l3), (4, vL S.1), (8, vI S.2.2)]) C.1 C.2.1 dX10_lap_31 hl (by decide) rfl (fun ls hl => ?_)
    refine lv_lload C.1 C.2.1 dX10_lap_33 (lv_at hl 5 rfl) ?_
    refine lv_aload_n C.1 C.2.1 dX10_lap_35 rfl (lv_at hl 1 rfl) ?_
    refine lv_iload_n C.1 C.2.1 dX10_lap_36 rfl (lv_at hl 2 rfl) ?_
    refine lv_iload_n C.1 C.2.1 dX10_lap_37 rfl (lv_at hl 3 rfl) ?_
    refine lv_iload_n C.1 C.2.1 dX10_lap_38 rfl (lv_at hl 4 rfl) ?_
    refine lv_iload C.1 C.2.1 dX10_lap_39 (lv_at hl 6 rfl) ?_
    obtain ⟨r3, hr3, hf⟩ := bnd_e hf
    refine j_callV C hO (n := 4) (As := [vI l1, vI l2, vI l3, vI S.2.2]) (st1 := [vI r3, vL S.1]) (c_X10_endsWith l G M l0 l1 l2 l3 S.2.2 h0 hr3) h0 rfl kC_23_15 kM_23_12 kI_23_13 kS_23_14 kN_1_5 ⟨by decide, by decide, by decide⟩ ⟨Nat.le_trans (by decide) hRf, Nat.le_trans (by decide) hRl⟩ rfl rfl rfl hl.1 rfl (Nat.le_of_ble_eq_true rfl) ⟨Nat.zero_le _, Nat.zero_le _⟩ dX10_lap_41 rfl (fun H locs hO => ?_)
    refine j_if_eq (tgt := 60) C rfl dX10_lap_44 (by decide) (fun c4 => ?_) (fun c4 => ?_)
    · have hf := (if_pos c4).symm.trans hf
      refine lv_lconst (v := Int64.ofInt 0) C.1 C.2.1 dX10_lap_60 (by decide) ?_
      exact w_X10_lap_61 C hRf hRl M l0 l1 l2 l3 (S.2.1 * (w32 (M l0 12))) S.2.2 S.1 0 h0 hf kc kx0 hO (lv_sub hl [1, 2, 3, 4, 0, 6] rfl)
    · have hf := (if_neg c4).symm.trans hf
      refine lv_lload C.1 C.2.1 dX10_lap_47 (lv_at hl 0 rfl) ?_
      refine lv_aload_n C.1 C.2.1 dX10_lap_49 rfl (lv_at hl 1 rfl) ?_
      refine lv_iload_n C.1 C.2.1 dX10_lap_50 rfl (lv_at hl 4 rfl) ?_
      refine lv_iload C.1 C.2.1 dX10_lap_51 (lv_at hl 6 rfl) ?_
      obtain ⟨r5, hr5, hf⟩ := bnd_e hf
      refine j_callV C hO (n := 2) (As := [vI l3, vI S.2.2]) (st1 := [vL r5, vL (S.2.1 * (w32 (M l0 12))), vL S.1]) (c_X10_weightsFrom l G M l0 l3 S.2.2 h0 hr5) h0 rfl kC_23_19 kM_23_16 kI_23_17 kS_23_18 kN_1_5 ⟨by decide, by decide, by decide⟩ ⟨Nat.le_trans (by decide) hRf, Nat.le_trans (by decide) hRl⟩ rfl rfl rfl hl.1 rfl (Nat.le_of_ble_eq_true rfl) ⟨Nat.zero_le _, Nat.zero_le _⟩ dX10_lap_53 rfl (fun H locs hO => ?_)
      refine j_lmul C dX10_lap_56 ?_
      refine lv_goto (tgt := 61) C.1 C.2.1 dX10_lap_57 (by decide) ?_
      exact w_X10_lap_61 C hRf hRl M l0 l1 l2 l3 (S.2.1 * (w32 (M l0 12))) S.2.2 S.1 ((S.2.1 * (w32 (M l0 12))) * r5) h0 hf kc kx0 hO (lv_sub hl [1, 2, 3, 4, 0, 6] rfl)
set_option maxHeartbeats 4000000 in
theorem w_X10_lap {p : Program} {l : Launch} {e : Env} {R : Room} {s : State} {m : MethodId} {args : Array Value} {below : List Frame} {meth : Method} {c : Code} {H : Heap} {locs : List Loc} {ls : Array Slot} {G : jG}  (C : jCx p s m args meth c cX10_lap 9 RX10 (Cond.code yX10_lap cX10_lap 9 (some .long)) (some .long)) (hRf : 1 ≤ R.frames) (hRl : 26 ≤ R.locals)  (M : jM) (l0 l1 l2 l3 : Int) (h0 : jkd l0 = (10, 0)) {fin : Int} (hf : f_X10_lap M l0 l1 l2 l3 = some fin) (hO : jOk G M s H locs) (hl : lv_has ls 9 [(0, jR G l0), (1, vI l1), (2, vI l2), (3, vI l3)]) : W p l e R s m args below meth c H locs 0 0 (MQ below (jQ G (some (vL fin)) M) args s 0 0 (jA G)) (F0 m 0 ls []) := by
  unfold f_X10_lap at hf
  refine lv_lconst (v := Int64.ofInt 0) C.1 C.2.1 dX10_lap_0 (by decide) ?_
  refine lv_lstore (lv' := [(4, vL 0), (0, jR G l0), (1, vI l1), (2, vI l2), (3, vI l3)]) C.1 C.2.1 dX10_lap_1 hl (by decide) rfl (fun ls hl => ?_)
  refine lv_lconst (v := Int64.ofInt 1) C.1 C.2.1 dX10_lap_3 (by decide) ?_
  refine lv_lstore (lv' := [(6, vL 1), (4, vL 0), (0, jR G l0), (1, vI l1), (2, vI l2), (3, vI l3)]) C.1 C.2.1 dX10_lap_4 hl (by decide) rfl (fun ls hl => ?_)
  refine lv_iconst (v := Int32.ofInt 1) C.1 C.2.1 dX10_lap_6 rfl ?_
  refine lv_istore (lv' := [(8, vI 1), (6, vL 1), (4, vL 0), (0, jR G l0), (1, vI l1), (2, vI l2), (3, vI l3)]) C.1 C.2.1 dX10_lap_7 hl (by decide) rfl (fun ls hl => ?_)
  obtain ⟨x6, hx6, hf⟩ := bnd_e hf
  refine iter_e (P := fun Z => ∀ (H : Heap) (locs : List Loc) (ls : Array Slot), jOk G M s H locs → lv_has ls 9 [(0, jR G l0), (1, vI l1), (2, vI l2), (3, vI l3), (4, vL Z.1), (6, vL Z.2.1), (8, vI Z.2.2)] → W p l e R s m args below meth c H locs 0 0 (MQ below (jQ G (some (vL fin)) M) args s 0 0 (jA G)) (F0 m 9 ls [])) (E := fun q => ∀ (H : Heap) (locs : List Loc) (ls : Array Slot), jOk G M s H locs → lv_has ls 9 [(4, vL q)] → W p l e R s m args below meth c H locs 0 0 (MQ below (jQ G (some (vL fin)) M) args s 0 0 (jA G)) (F0 m 70 ls [])) (fun Z rr hb kc kx H locs ls hO hl => w_X10_lap_L9 C hRf hRl M l0 l1 l2 l3 h0 Z hb kc (fun q e => kx q e) hO hl) 5000 (0, 1, 1) x6 hx6 ?_ _ _ _ hO (lv_sub hl [3, 4, 5, 6, 2, 1, 0] rfl)
  clear hO hl
  intro H locs ls hO hl
  refine lv_lload C.1 C.2.1 dX10_lap_70 (lv_at hl 0 rfl) ?_
  have hf := som_e hf
  subst hf
  exact j_lret C hO dX10_lap_72
set_option maxHeartbeats 1000000 in
theorem c_X10_lap (l : Launch) (G : jG)  (M : jM) (l0 l1 l2 l3 : Int) (h0 : jkd l0 = (10, 0)) {fin : Int} (h : f_X10_lap M l0 l1 l2 l3 = some fin) : Met l yX10_lap (Cond.code yX10_lap cX10_lap 9 (some .long) :: wsL_law) ({ frames := 1, cells := 0, slots := 0, locals := 26 } : Room) (va_Pc [jR G l0, vI l1, vI l2, vI l3] (fun U => jRep G M U)) (jQ G (some (vL fin)) M) 0 0 (jA G) := by
  refine Met.ofW (cc := cX10_lap) (maxL := 9) (ret := (some .long)) (by decide) rfl ?_
  intro p e s m args below meth c s₁ B hml hv
  obtain ⟨rfl, hR0⟩ := hv
  have C : jCx p s m ([jR G l0, vI l1, vI l2, vI l3] : List Value).toArray meth c cX10_lap 9 RX10 (Cond.code yX10_lap cX10_lap 9 (some .long)) (some .long) := ⟨B.exec, B.bytes, hml, findClass_of_methodNamed B.named, atoms_spec B.pre, B.returns, B.notSynchronized⟩
  have hO := hR0.ok
  have hl := lv_entry ([jR G l0, vI l1, vI l2, vI l3]) (n := 9) (Nat.le_of_ble_eq_true rfl)
  rw [lg_entry_eq]
  generalize (lg_sl ([jR G l0, vI l1, vI l2, vI l3]) ++ List.replicate (9 - (lg_sl ([jR G l0, vI l1, vI l2, vI l3])).length) Slot.unset).toArray = ls at hl ⊢
  have hl : lv_has ls 9 [(0, jR G l0), (1, vI l1), (2, vI l2), (3, vI l3)] := hl
  exact w_X10_lap C (Nat.le_refl _) (Nat.le_refl _) M l0 l1 l2 l3 h0 h hO hl
set_option maxHeartbeats 4000000 in
theorem w_X10_lapOf {p : Program} {l : Launch} {e : Env} {R : Room} {s : State} {m : MethodId} {args : Array Value} {below : List Frame} {meth : Method} {c : Code} {H : Heap} {locs : List Loc} {ls : Array Slot} {G : jG}  (C : jCx p s m args meth c cX10_lapOf 3 RX10 (Cond.code yX10_lapOf cX10_lapOf 3 (some .long)) (some .long)) (hRf : 2 ≤ R.frames) (hRl : 54 ≤ R.locals)  (M : jM) (l0 l1 l2 : Int) (h0 : jkd l0 = (10, 0)) {fin : Int} (hf : f_X10_lapOf M l0 l1 l2 = some fin) (hO : jOk G M s H locs) (hl : lv_has ls 3 [(0, jR G l0), (1, vI l1), (2, vI l2)]) : W p l e R s m args below meth c H locs 0 0 (MQ below (jQ G (some (vL fin)) M) args s 0 0 (jA G)) (F0 m 0 ls []) := by
  unfold f_X10_lapOf at hf
  refine lv_aload_n C.1 C.2.1 dX10_lapOf_0 rfl (lv_at hl 0 rfl) ?_
  refine lv_bipush (v := Int32.ofInt 10) C.1 C.2.1 dX10_lapOf_1 (by decide) ?_
  refine lv_bipush (v := Int32.ofInt 6) C.1 C.2.1 dX10_lapOf_3 (by decide) ?_
  refine lv_iload_n C.1 C.2.1 dX10_lapOf_5 rfl (lv_at hl 1 rfl) ?_
  refine j_imul C dX10_lapOf_6 ?_
  refine j_iadd C dX10_lapOf_7 ?_
  refine lv_aload_n C.1 C.2.1 dX10_lapOf_8 rfl (lv_at hl 0 rfl) ?_
  refine j_get C hO (ci := 10) (k := 1) (v := jR G (jpt l0 1)) h0 rfl inlX10 (by decide) kF_5_23 rfl rfl dX10_lapOf_9 ?_
  refine lv_bipush (v := Int32.ofInt 58) C.1 C.2.1 dX10_lapOf_12 (by decide) ?_
  refine lv_iload_n C.1 C.2.1 dX10_lapOf_14 rfl (lv_at hl 1 rfl) ?_
  refine j_iadd C dX10_lapOf_15 ?_
  obtain ⟨g1, hf⟩ := grd_e hf
  refine j_iald C hO (tp_10_1 h0) rfl g1.1 g1.2 dX10_lapOf_16 ?_
  refine lv_iload_n C.1 C.2.1 dX10_lapOf_17 rfl (lv_at hl 2 rfl) ?_
  obtain ⟨r2, hr2, hf⟩ := bnd_e hf
  refine j_callV C hO (n := 3) (As := [vI (10 + (6 * l1)), vI (M (jpt l0 1) (w32 (58 + l1))), vI l2]) (st1 := [vL r2]) (c_X10_lap l G M l0 (10 + (6 * l1)) (M (jpt l0 1) (w32 (58 + l1))) l2 h0 hr2) h0 rfl kC_23_11 kM_23_8 kI_23_9 kS_23_10 kN_1_5 ⟨by decide, by decide, by decide⟩ ⟨Nat.le_trans (by decide) hRf, Nat.le_trans (by decide) hRl⟩ rfl rfl rfl hl.1 rfl (Nat.le_of_ble_eq_true rfl) ⟨Nat.zero_le _, Nat.zero_le _⟩ dX10_lapOf_18 rfl (fun H locs hO => ?_)
  have hf := som_e hf
  subst hf
  exact j_lret C hO dX10_lapOf_21
set_option maxHeartbeats 1000000 in
theorem c_X10_lapOf (l : Launch) (G : jG)  (M : jM) (l0 l1 l2 : Int) (h0 : jkd l0 = (10, 0)) {fin : Int} (h : f_X10_lapOf M l0 l1 l2 = some fin) : Met l yX10_lapOf (Cond.code yX10_lapOf cX10_lapOf 3 (some .long) :: wsL_law) ({ frames := 2, cells := 0, slots := 0, locals := 54 } : Room) (va_Pc [jR G l0, vI l1, vI l2] (fun U => jRep G M U)) (jQ G (some (vL fin)) M) 0 0 (jA G) := by
  refine Met.ofW (cc := cX10_lapOf) (maxL := 3) (ret := (some .long)) (by decide) rfl ?_
  intro p e s m args below meth c s₁ B hml hv
  obtain ⟨rfl, hR0⟩ := hv
  have C : jCx p s m ([jR G l0, vI l1, vI l2] : List Value).toArray meth c cX10_lapOf 3 RX10 (Cond.code yX10_lapOf cX10_lapOf 3 (some .long)) (some .long) := ⟨B.exec, B.bytes, hml, findClass_of_methodNamed B.named, atoms_spec B.pre, B.returns, B.notSynchronized⟩
  have hO := hR0.ok
  have hl := lv_entry ([jR G l0, vI l1, vI l2]) (n := 3) (Nat.le_of_ble_eq_true rfl)
  rw [lg_entry_eq]
  generalize (lg_sl ([jR G l0, vI l1, vI l2]) ++ List.replicate (3 - (lg_sl ([jR G l0, vI l1, vI l2])).length) Slot.unset).toArray = ls at hl ⊢
  have hl : lv_has ls 3 [(0, jR G l0), (1, vI l1), (2, vI l2)] := hl
  exact w_X10_lapOf C (Nat.le_refl _) (Nat.le_refl _) M l0 l1 l2 h0 h hO hl
set_option maxHeartbeats 4000000 in
theorem w_X10_looksForOdds {p : Program} {l : Launch} {e : Env} {R : Room} {s : State} {m : MethodId} {args : Array Value} {below : List Frame} {meth : Method} {c : Code} {H : Heap} {locs : List Loc} {ls : Array Slot} {G : jG}  (C : jCx p s m args meth c cX10_looksForOdds 7 RX10 (Cond.code yX10_looksForOdds cX10_looksForOdds 7 none) none) (hRf : 4 ≤ R.frames) (hRl : 93 ≤ R.locals)  (M : jM) (l0 l1 l2 : Int) (h0 : jkd l0 = (10, 0)) {fin : jM} (hf : f_X10_looksForOdds M l0 l1 l2 = some fin) (hO : jOk G M s H locs) (hl : lv_has ls 7 [(0, jR G l0), (1, vI l1), (2, vI l2)]) : W p l e R s m args below meth c H locs 0 0 (MQ below (jQ G none fin) args s 0 0 (jA G)) (F0 m 0 ls []) := by
  unfold f_X10_looksForOdds at hf
  refine lv_aload_n C.1 C.2.1 dX10_looksForOdds_0 rfl (lv_at hl 0 rfl) ?_
  obtain ⟨r1, hr1, hf⟩ := bnd_e hf
  refine j_callV C hO (n := 0) (As := []) (st1 := []) (c_X10_looksForWeights l G M l0 h0 hr1) h0 rfl kC_16_13 kM_16_10 kI_16_11 kS_16_12 kN_1_5 ⟨by decide, by decide, by decide⟩ ⟨Nat.le_trans (by decide) hRf, Nat.le_trans (by decide) hRl⟩ rfl rfl rfl hl.1 rfl (Nat.le_of_ble_eq_true rfl) ⟨Nat.zero_le _, Nat.zero_le _⟩ dX10_looksForOdds_1 rfl (fun H locs hO => ?_)
  refine lv_aload_n C.1 C.2.1 dX10_looksForOdds_4 rfl (lv_at hl 0 rfl) ?_
  refine lv_iload_n C.1 C.2.1 dX10_looksForOdds_5 rfl (lv_at hl 1 rfl) ?_
  refine lv_iconst (v := Int32.ofInt 0) C.1 C.2.1 dX10_looksForOdds_6 rfl ?_
  obtain ⟨r2, hr2, hf⟩ := bnd_e hf
  refine j_callV C hO (n := 2) (As := [vI l1, vI 0]) (st1 := [vL r2]) (c_X10_weightsFrom l G r1 l0 l1 0 h0 hr2) h0 rfl kC_23_19 kM_23_16 kI_23_17 kS_23_18 kN_1_5 ⟨by decide, by decide, by decide⟩ ⟨Nat.le_trans (by decide) hRf, Nat.le_trans (by decide) hRl⟩ rfl rfl rfl hl.1 rfl (Nat.le_of_ble_eq_true rfl) ⟨Nat.zero_le _, Nat.zero_le _⟩ dX10_looksForOdds_7 rfl (fun H locs hO => ?_)
  refine lv_lstore_n (lv' := [(3, vL r2), (0, jR G l0), (1, vI l1), (2, vI l2)]) C.1 C.2.1 dX10_looksForOdds_10 rfl hl (by decide) rfl (fun ls hl => ?_)
  refine lv_aload_n C.1 C.2.1 dX10_looksForOdds_11 rfl (lv_at hl 1 rfl) ?_
  refine lv_iload_n C.1 C.2.1 dX10_looksForOdds_12 rfl (lv_at hl 3 rfl) ?_
  refine lv_iconst (v := Int32.ofInt 0) C.1 C.2.1 dX10_looksForOdds_13 rfl ?_
  obtain ⟨r3, hr3, hf⟩ := bnd_e hf
  refine j_callV C hO (n := 2) (As := [vI l2, vI 0]) (st1 := [vL r3]) (c_X10_weightsFrom l G r1 l0 l2 0 h0 hr3) h0 rfl kC_23_19 kM_23_16 kI_23_17 kS_23_18 kN_1_5 ⟨by decide, by decide, by decide⟩ ⟨Nat.le_trans (by decide) hRf, Nat.le_trans (by decide) hRl⟩ rfl rfl rfl hl.1 rfl (Nat.le_of_ble_eq_true rfl) ⟨Nat.zero_le _, Nat.zero_le _⟩ dX10_looksForOdds_14 rfl (fun H locs hO => ?_)
  refine lv_lstore (lv' := [(5, vL r3), (3, vL r2), (0, jR G l0), (1, vI l1), (2, vI l2)]) C.1 C.2.1 dX10_looksForOdds_17 hl (by decide) rfl (fun ls hl => ?_)
  refine lv_aload_n C.1 C.2.1 dX10_looksForOdds_19 rfl (lv_at hl 2 rfl) ?_
  refine lv_aload_n C.1 C.2.1 dX10_looksForOdds_20 rfl (lv_at hl 2 rfl) ?_
  refine lv_iload_n C.1 C.2.1 dX10_looksForOdds_21 rfl (lv_at hl 4 rfl) ?_
  refine lv_iload_n C.1 C.2.1 dX10_looksForOdds_22 rfl (lv_at hl 4 rfl) ?_
  obtain ⟨r4, hr4, hf⟩ := bnd_e hf
  refine j_callV C hO (n := 2) (As := [vI l2, vI l2]) (st1 := [vL r4, jR G l0]) (c_X10_lapOf l G r1 l0 l2 l2 h0 hr4) h0 rfl kC_23_7 kM_23_4 kI_23_5 kS_23_6 kN_1_5 ⟨by decide, by decide, by decide⟩ ⟨Nat.le_trans (by decide) hRf, Nat.le_trans (by decide) hRl⟩ rfl rfl rfl hl.1 rfl (Nat.le_of_ble_eq_true rfl) ⟨Nat.zero_le _, Nat.zero_le _⟩ dX10_looksForOdds_23 rfl (fun H locs hO => ?_)
  refine lv_lload_n C.1 C.2.1 dX10_looksForOdds_26 rfl (lv_at hl 1 rfl) ?_
  refine j_lmul C dX10_looksForOdds_27 ?_
  refine lv_aload_n C.1 C.2.1 dX10_looksForOdds_28 rfl (lv_at hl 2 rfl) ?_
  refine lv_iload_n C.1 C.2.1 dX10_looksForOdds_29 rfl (lv_at hl 4 rfl) ?_
  refine lv_iload_n C.1 C.2.1 dX10_looksForOdds_30 rfl (lv_at hl 3 rfl) ?_
  obtain ⟨r5, hr5, hf⟩ := bnd_e hf
  refine j_callV C hO (n := 2) (As := [vI l2, vI l1]) (st1 := [vL r5, vL (r4 * r2), jR G l0]) (c_X10_lapOf l G r1 l0 l2 l1 h0 hr5) h0 rfl kC_23_7 kM_23_4 kI_23_5 kS_23_6 kN_1_5 ⟨by decide, by decide, by decide⟩ ⟨Nat.le_trans (by decide) hRf, Nat.le_trans (by decide) hRl⟩ rfl rfl rfl hl.1 rfl (Nat.le_of_ble_eq_true rfl) ⟨Nat.zero_le _, Nat.zero_le _⟩ dX10_looksForOdds_31 rfl (fun H locs hO => ?_)
  refine lv_lload C.1 C.2.1 dX10_looksForOdds_34 (lv_at hl 0 rfl) ?_
  refine j_lmul C dX10_looksForOdds_36 ?_
  refine j_lsub C dX10_looksForOdds_37 ?_
  obtain ⟨M6, hM6, hf⟩ := lt1_e hf
  refine j_put C hO (ci := 10) (k := 13) (x := (r4 * r2) - (r5 * r3)) h0 rfl inlX10 tyX10_ok nmX10 (by decide) kF_25_15 rfl rfl rfl rfl (by simp [jfl]) (fs_10_13) dX10_looksForOdds_38 (fun H locs hO => ?_)
  rw [← hM6] at hO
  refine lv_aload_n C.1 C.2.1 dX10_looksForOdds_41 rfl (lv_at hl 2 rfl) ?_
  refine lv_aload_n C.1 C.2.1 dX10_looksForOdds_42 rfl (lv_at hl 2 rfl) ?_
  refine lv_iload_n C.1 C.2.1 dX10_looksForOdds_43 rfl (lv_at hl 3 rfl) ?_
  refine lv_iload_n C.1 C.2.1 dX10_looksForOdds_44 rfl (lv_at hl 3 rfl) ?_
  obtain ⟨r7, hr7, hf⟩ := bnd_e hf
  refine j_callV C hO (n := 2) (As := [vI l1, vI l1]) (st1 := [vL r7, jR G l0]) (c_X10_lapOf l G M6 l0 l1 l1 h0 hr7) h0 rfl kC_23_7 kM_23_4 kI_23_5 kS_23_6 kN_1_5 ⟨by decide, by decide, by decide⟩ ⟨Nat.le_trans (by decide) hRf, Nat.le_trans (by decide) hRl⟩ rfl rfl rfl hl.1 rfl (Nat.le_of_ble_eq_true rfl) ⟨Nat.zero_le _, Nat.zero_le _⟩ dX10_looksForOdds_45 rfl (fun H locs hO => ?_)
  refine lv_lload C.1 C.2.1 dX10_looksForOdds_48 (lv_at hl 0 rfl) ?_
  refine j_lmul C dX10_looksForOdds_50 ?_
  refine lv_aload_n C.1 C.2.1 dX10_looksForOdds_51 rfl (lv_at hl 2 rfl) ?_
  refine lv_iload_n C.1 C.2.1 dX10_looksForOdds_52 rfl (lv_at hl 3 rfl) ?_
  refine lv_iload_n C.1 C.2.1 dX10_looksForOdds_53 rfl (lv_at hl 4 rfl) ?_
  obtain ⟨r8, hr8, hf⟩ := bnd_e hf
  refine j_callV C hO (n := 2) (As := [vI l1, vI l2]) (st1 := [vL r8, vL (r7 * r3), jR G l0]) (c_X10_lapOf l G M6 l0 l1 l2 h0 hr8) h0 rfl kC_23_7 kM_23_4 kI_23_5 kS_23_6 kN_1_5 ⟨by decide, by decide, by decide⟩ ⟨Nat.le_trans (by decide) hRf, Nat.le_trans (by decide) hRl⟩ rfl rfl rfl hl.1 rfl (Nat.le_of_ble_eq_true rfl) ⟨Nat.zero_le _, Nat.zero_le _⟩ dX10_looksForOdds_54 rfl (fun H locs hO => ?_)
  refine lv_lload_n C.1 C.2.1 dX10_looksForOdds_57 rfl (lv_at hl 1 rfl) ?_
  refine j_lmul C dX10_looksForOdds_58 ?_
  refine j_lsub C dX10_looksForOdds_59 ?_
  obtain ⟨M9, hM9, hf⟩ := lt1_e hf
  refine j_put C hO (ci := 10) (k := 14) (x := (r7 * r3) - (r8 * r2)) h0 rfl inlX10 tyX10_ok nmX10 (by decide) kF_25_16 rfl rfl rfl rfl (by simp [jfl]) (fs_10_14) dX10_looksForOdds_60 (fun H locs hO => ?_)
  rw [← hM9] at hO
  have hf := som_e hf
  subst hf
  exact j_vret C hO dX10_looksForOdds_63
set_option maxHeartbeats 1000000 in
theorem c_X10_looksForOdds (l : Launch) (G : jG)  (M : jM) (l0 l1 l2 : Int) (h0 : jkd l0 = (10, 0)) {fin : jM} (h : f_X10_looksForOdds M l0 l1 l2 = some fin) : Met l yX10_looksForOdds (Cond.code yX10_looksForOdds cX10_looksForOdds 7 none :: wsL_law) ({ frames := 4, cells := 0, slots := 0, locals := 93 } : Room) (va_Pc [jR G l0, vI l1, vI l2] (fun U => jRep G M U)) (jQ G none fin) 0 0 (jA G) := by
  refine Met.ofW (cc := cX10_looksForOdds) (maxL := 7) (ret := none) (by decide) rfl ?_
  intro p e s m args below meth c s₁ B hml hv
  obtain ⟨rfl, hR0⟩ := hv
  have C : jCx p s m ([jR G l0, vI l1, vI l2] : List Value).toArray meth c cX10_looksForOdds 7 RX10 (Cond.code yX10_looksForOdds cX10_looksForOdds 7 none) none := ⟨B.exec, B.bytes, hml, findClass_of_methodNamed B.named, atoms_spec B.pre, B.returns, B.notSynchronized⟩
  have hO := hR0.ok
  have hl := lv_entry ([jR G l0, vI l1, vI l2]) (n := 7) (Nat.le_of_ble_eq_true rfl)
  rw [lg_entry_eq]
  generalize (lg_sl ([jR G l0, vI l1, vI l2]) ++ List.replicate (7 - (lg_sl ([jR G l0, vI l1, vI l2])).length) Slot.unset).toArray = ls at hl ⊢
  have hl : lv_has ls 7 [(0, jR G l0), (1, vI l1), (2, vI l2)] := hl
  exact w_X10_looksForOdds C (Nat.le_refl _) (Nat.le_refl _) M l0 l1 l2 h0 h hO hl
set_option maxHeartbeats 4000000 in
theorem w_X10_divisor_L17 {p : Program} {l : Launch} {e : Env} {R : Room} {s : State} {m : MethodId} {args : Array Value} {below : List Frame} {meth : Method} {c : Code} {H : Heap} {locs : List Loc} {ls : Array Slot} {G : jG}  (C : jCx p s m args meth c cX10_divisor 10 RX10 (Cond.code yX10_divisor cX10_divisor 10 (some .long)) (some .long)) (hRf : 0 ≤ R.frames) (hRl : 0 ≤ R.locals)  (M : jM) {fin : Int} (S : Int × Int) {rr : (Int × Int) ⊕ Int} (hf : f_X10_divisor_L17 M  S = some rr) (kc : ∀ q : Int × Int, rr = .inl q → ∀ (H : Heap) (locs : List Loc) (ls : Array Slot), jOk G M s H locs → lv_has ls 10 [(4, vL q.1), (6, vL q.2)] → W p l e R s m args below meth c H locs 0 0 (MQ below (jQ G (some (vL fin)) M) args s 0 0 (jA G)) (F0 m 17 ls [])) (kx0 : ∀ q : Int, rr = .inr q → ∀ (H : Heap) (locs : List Loc) (ls : Array Slot), jOk G M s H locs → lv_has ls 10 [(4, vL q)] → W p l e R s m args below meth c H locs 0 0 (MQ below (jQ G (some (vL fin)) M) args s 0 0 (jA G)) (F0 m 42 ls [])) (hO : jOk G M s H locs) (hl : lv_has ls 10 [(4, vL S.1), (6, vL S.2)]) : W p l e R s m args below meth c H locs 0 0 (MQ below (jQ G (some (vL fin)) M) args s 0 0 (jA G)) (F0 m 17 ls []) := by
  unfold f_X10_divisor_L17 at hf
  refine lv_lload C.1 C.2.1 dX10_divisor_17 (lv_at hl 1 rfl) ?_
  refine lv_lconst (v := Int64.ofInt 0) C.1 C.2.1 dX10_divisor_19 (by decide) ?_
  refine j_lcmp_eq (tgt := 42) C rfl (w64_id (by decide) (by decide)) dX10_divisor_20 dX10_divisor_21 (by decide) (fun c2 => ?_) (fun c2 => ?_)
  · have hf := (if_pos c2).symm.trans hf
    exact kx0 _ (som_e hf).symm _ _ _ hO (lv_sub hl [0] rfl)
  · have hf := (if_neg c2).symm.trans hf
    refine lv_lload C.1 C.2.1 dX10_divisor_24 (lv_at hl 0 rfl) ?_
    refine lv_lload C.1 C.2.1 dX10_divisor_26 (lv_at hl 1 rfl) ?_
    obtain ⟨g3, hf⟩ := grd_e hf
    refine j_lrem C g3 dX10_divisor_28 ?_
    refine lv_lstore (lv' := [(8, vL ((w64 S.1).tmod (w64 S.2))), (4, vL S.1), (6, vL S.2)]) C.1 C.2.1 dX10_divisor_29 hl (by decide) rfl (fun ls hl => ?_)
    refine lv_lload C.1 C.2.1 dX10_divisor_31 (lv_at hl 2 rfl) ?_
    refine lv_lstore (lv' := [(4, vL S.2), (8, vL ((w64 S.1).tmod (w64 S.2))), (6, vL S.2)]) C.1 C.2.1 dX10_divisor_33 hl (by decide) rfl (fun ls hl => ?_)
    refine lv_lload C.1 C.2.1 dX10_divisor_35 (lv_at hl 1 rfl) ?_
    refine lv_lstore (lv' := [(6, vL ((w64 S.1).tmod (w64 S.2))), (4, vL S.2), (8, vL ((w64 S.1).tmod (w64 S.2)))]) C.1 C.2.1 dX10_divisor_37 hl (by decide) rfl (fun ls hl => ?_)
    refine lv_goto (tgt := 17) C.1 C.2.1 dX10_divisor_39 (by decide) ?_
    exact kc _ (som_e hf).symm _ _ _ hO (lv_sub hl [1, 0] rfl)
set_option maxHeartbeats 4000000 in
theorem w_X10_divisor_12 {p : Program} {l : Launch} {e : Env} {R : Room} {s : State} {m : MethodId} {args : Array Value} {below : List Frame} {meth : Method} {c : Code} {H : Heap} {locs : List Loc} {ls : Array Slot} {G : jG}  (C : jCx p s m args meth c cX10_divisor 10 RX10 (Cond.code yX10_divisor cX10_divisor 10 (some .long)) (some .long)) (hRf : 0 ≤ R.frames) (hRl : 0 ≤ R.locals)  (M : jM) (l2 s0 : Int) {fin : Int} (hf : f_X10_divisor_12 M l2 s0 = some fin) (hO : jOk G M s H locs) (hl : lv_has ls 10 [(2, vL l2)]) : W p l e R s m args below meth c H locs 0 0 (MQ below (jQ G (some (vL fin)) M) args s 0 0 (jA G)) (F0 m 12 ls [vL s0]) := by
  unfold f_X10_divisor_12 at hf
  refine lv_lstore (lv' := [(4, vL s0), (2, vL l2)]) C.1 C.2.1 dX10_divisor_12 hl (by decide) rfl (fun ls hl => ?_)
  refine lv_lload_n C.1 C.2.1 dX10_divisor_14 rfl (lv_at hl 1 rfl) ?_
  refine lv_lstore (lv' := [(6, vL l2), (4, vL s0), (2, vL l2)]) C.1 C.2.1 dX10_divisor_15 hl (by decide) rfl (fun ls hl => ?_)
  obtain ⟨x4, hx4, hf⟩ := bnd_e hf
  refine iter_e (P := fun Z => ∀ (H : Heap) (locs : List Loc) (ls : Array Slot), jOk G M s H locs → lv_has ls 10 [(4, vL Z.1), (6, vL Z.2)] → W p l e R s m args below meth c H locs 0 0 (MQ below (jQ G (some (vL fin)) M) args s 0 0 (jA G)) (F0 m 17 ls [])) (E := fun q => ∀ (H : Heap) (locs : List Loc) (ls : Array Slot), jOk G M s H locs → lv_has ls 10 [(4, vL q)] → W p l e R s m args below meth c H locs 0 0 (MQ below (jQ G (some (vL fin)) M) args s 0 0 (jA G)) (F0 m 42 ls [])) (fun Z rr hb kc kx H locs ls hO hl => w_X10_divisor_L17 C hRf hRl M   Z hb kc (fun q e => kx q e) hO hl) 5000 (s0, l2) x4 hx4 ?_ _ _ _ hO (lv_sub hl [1, 0] rfl)
  clear hO hl
  intro H locs ls hO hl
  refine lv_lload C.1 C.2.1 dX10_divisor_42 (lv_at hl 0 rfl) ?_
  have hf := som_e hf
  subst hf
  exact j_lret C hO dX10_divisor_44
set_option maxHeartbeats 4000000 in
theorem w_X10_divisor {p : Program} {l : Launch} {e : Env} {R : Room} {s : State} {m : MethodId} {args : Array Value} {below : List Frame} {meth : Method} {c : Code} {H : Heap} {locs : List Loc} {ls : Array Slot} {G : jG}  (C : jCx p s m args meth c cX10_divisor 10 RX10 (Cond.code yX10_divisor cX10_divisor 10 (some .long)) (some .long)) (hRf : 0 ≤ R.frames) (hRl : 0 ≤ R.locals)  (M : jM) (l0 l2 : Int) {fin : Int} (hf : f_X10_divisor M l0 l2 = some fin) (hO : jOk G M s H locs) (hl : lv_has ls 10 [(0, vL l0), (2, vL l2)]) : W p l e R s m args below meth c H locs 0 0 (MQ below (jQ G (some (vL fin)) M) args s 0 0 (jA G)) (F0 m 0 ls []) := by
  unfold f_X10_divisor at hf
  refine lv_lload_n C.1 C.2.1 dX10_divisor_0 rfl (lv_at hl 0 rfl) ?_
  refine lv_lconst (v := Int64.ofInt 0) C.1 C.2.1 dX10_divisor_1 (by decide) ?_
  refine j_lcmp_ge (tgt := 11) C rfl (w64_id (by decide) (by decide)) dX10_divisor_2 dX10_divisor_3 (by decide) (fun c1 => ?_) (fun c1 => ?_)
  · have hf := (if_pos c1).symm.trans hf
    refine lv_lload_n C.1 C.2.1 dX10_divisor_11 rfl (lv_at hl 0 rfl) ?_
    exact w_X10_divisor_12 C hRf hRl M l2 l0  hf hO (lv_sub hl [1] rfl)
  · have hf := (if_neg c1).symm.trans hf
    refine lv_lload_n C.1 C.2.1 dX10_divisor_6 rfl (lv_at hl 0 rfl) ?_
    refine j_lneg C dX10_divisor_7 ?_
    refine lv_goto (tgt := 12) C.1 C.2.1 dX10_divisor_8 (by decide) ?_
    exact w_X10_divisor_12 C hRf hRl M l2 (-l0)  hf hO (lv_sub hl [1] rfl)
set_option maxHeartbeats 1000000 in
theorem c_X10_divisor (l : Launch) (G : jG)  (M : jM) (l0 l2 : Int) {fin : Int} (h : f_X10_divisor M l0 l2 = some fin) : Met l yX10_divisor (Cond.code yX10_divisor cX10_divisor 10 (some .long) :: wsL_law) ({ frames := 0, cells := 0, slots := 0, locals := 0 } : Room) (va_Pc [vL l0, vL l2] (fun U => jRep G M U)) (jQ G (some (vL fin)) M) 0 0 (jA G) := by
  refine Met.ofW (cc := cX10_divisor) (maxL := 10) (ret := (some .long)) (by decide) rfl ?_
  intro p e s m args below meth c s₁ B hml hv
  obtain ⟨rfl, hR0⟩ := hv
  have C : jCx p s m ([vL l0, vL l2] : List Value).toArray meth c cX10_divisor 10 RX10 (Cond.code yX10_divisor cX10_divisor 10 (some .long)) (some .long) := ⟨B.exec, B.bytes, hml, findClass_of_methodNamed B.named, atoms_spec B.pre, B.returns, B.notSynchronized⟩
  have hO := hR0.ok
  have hl := lv_entry ([vL l0, vL l2]) (n := 10) (Nat.le_of_ble_eq_true rfl)
  rw [lg_entry_eq]
  generalize (lg_sl ([vL l0, vL l2]) ++ List.replicate (10 - (lg_sl ([vL l0, vL l2])).length) Slot.unset).toArray = ls at hl ⊢
  have hl : lv_has ls 10 [(0, vL l0), (2, vL l2)] := hl
  exact w_X10_divisor C (Nat.le_refl _) (Nat.le_refl _) M l0 l2  h hO hl
set_option maxHeartbeats 4000000 in
theorem w_X10_lowest_10 {p : Program} {l : Launch} {e : Env} {R : Room} {s : State} {m : MethodId} {args : Array Value} {below : List Frame} {meth : Method} {c : Code} {H : Heap} {locs : List Loc} {ls : Array Slot} {G : jG}  (C : jCx p s m args meth c cX10_lowest 5 RX10 (Cond.code yX10_lowest cX10_lowest 5 (some .long)) (some .long)) (hRf : 1 ≤ R.frames) (hRl : 29 ≤ R.locals)  (M : jM) (l0 l2 s0 : Int) {fin : Int} (hf : f_X10_lowest_10 M l0 l2 s0 = some fin) (hO : jOk G M s H locs) (hl : lv_has ls 5 [(0, vL l0), (2, vL l2)]) : W p l e R s m args below meth c H locs 0 0 (MQ below (jQ G (some (vL fin)) M) args s 0 0 (jA G)) (F0 m 10 ls [vL s0]) := by
  unfold f_X10_lowest_10 at hf
  refine lv_lload_n C.1 C.2.1 dX10_lowest_10 rfl (lv_at hl 0 rfl) ?_
  refine lv_lload_n C.1 C.2.1 dX10_lowest_11 rfl (lv_at hl 1 rfl) ?_
  obtain ⟨r2, hr2, hf⟩ := bnd_e hf
  refine j_callS C hO (n := 2) (As := [vL l0, vL l2]) (st1 := [vL r2, vL s0]) (c_X10_divisor l G M l0 l2  hr2) kC_24_1 kM_23_23 kT_24_0 kN_1_5 ⟨by decide, by decide, by decide⟩ ⟨Nat.le_trans (by decide) hRf, Nat.le_trans (by decide) hRl⟩ rfl rfl rfl hl.1 rfl (Nat.le_of_ble_eq_true rfl) ⟨Nat.zero_le _, Nat.zero_le _⟩ dX10_lowest_12 rfl (fun H locs hO => ?_)
  obtain ⟨g3, hf⟩ := grd_e hf
  refine j_ldiv C g3 dX10_lowest_15 ?_
  have hf := som_e hf
  subst hf
  exact j_lret C hO dX10_lowest_16
set_option maxHeartbeats 4000000 in
theorem w_X10_lowest {p : Program} {l : Launch} {e : Env} {R : Room} {s : State} {m : MethodId} {args : Array Value} {below : List Frame} {meth : Method} {c : Code} {H : Heap} {locs : List Loc} {ls : Array Slot} {G : jG}  (C : jCx p s m args meth c cX10_lowest 5 RX10 (Cond.code yX10_lowest cX10_lowest 5 (some .long)) (some .long)) (hRf : 1 ≤ R.frames) (hRl : 29 ≤ R.locals)  (M : jM) (l0 l2 l4 : Int) {fin : Int} (hf : f_X10_lowest M l0 l2 l4 = some fin) (hO : jOk G M s H locs) (hl : lv_has ls 5 [(0, vL l0), (2, vL l2), (4, vI l4)]) : W p l e R s m args below meth c H locs 0 0 (MQ below (jQ G (some (vL fin)) M) args s 0 0 (jA G)) (F0 m 0 ls []) := by
  unfold f_X10_lowest at hf
  refine lv_iload C.1 C.2.1 dX10_lowest_0 (lv_at hl 2 rfl) ?_
  refine j_if_ne (tgt := 9) C rfl dX10_lowest_2 (by decide) (fun c1 => ?_) (fun c1 => ?_)
  · have hf := (if_neg c1).symm.trans hf
    refine lv_lload_n C.1 C.2.1 dX10_lowest_9 rfl (lv_at hl 1 rfl) ?_
    exact w_X10_lowest_10 C hRf hRl M l0 l2 l2  hf hO (lv_sub hl [0, 1] rfl)
  · have hf := (if_pos c1).symm.trans hf
    refine lv_lload_n C.1 C.2.1 dX10_lowest_5 rfl (lv_at hl 0 rfl) ?_
    refine lv_goto (tgt := 10) C.1 C.2.1 dX10_lowest_6 (by decide) ?_
    exact w_X10_lowest_10 C hRf hRl M l0 l2 l0  hf hO (lv_sub hl [0, 1] rfl)
set_option maxHeartbeats 1000000 in
theorem c_X10_lowest (l : Launch) (G : jG)  (M : jM) (l0 l2 l4 : Int) {fin : Int} (h : f_X10_lowest M l0 l2 l4 = some fin) : Met l yX10_lowest (Cond.code yX10_lowest cX10_lowest 5 (some .long) :: wsL_law) ({ frames := 1, cells := 0, slots := 0, locals := 29 } : Room) (va_Pc [vL l0, vL l2, vI l4] (fun U => jRep G M U)) (jQ G (some (vL fin)) M) 0 0 (jA G) := by
  refine Met.ofW (cc := cX10_lowest) (maxL := 5) (ret := (some .long)) (by decide) rfl ?_
  intro p e s m args below meth c s₁ B hml hv
  obtain ⟨rfl, hR0⟩ := hv
  have C : jCx p s m ([vL l0, vL l2, vI l4] : List Value).toArray meth c cX10_lowest 5 RX10 (Cond.code yX10_lowest cX10_lowest 5 (some .long)) (some .long) := ⟨B.exec, B.bytes, hml, findClass_of_methodNamed B.named, atoms_spec B.pre, B.returns, B.notSynchronized⟩
  have hO := hR0.ok
  have hl := lv_entry ([vL l0, vL l2, vI l4]) (n := 5) (Nat.le_of_ble_eq_true rfl)
  rw [lg_entry_eq]
  generalize (lg_sl ([vL l0, vL l2, vI l4]) ++ List.replicate (5 - (lg_sl ([vL l0, vL l2, vI l4])).length) Slot.unset).toArray = ls at hl ⊢
  have hl : lv_has ls 5 [(0, vL l0), (2, vL l2), (4, vI l4)] := hl
  exact w_X10_lowest C (Nat.le_refl _) (Nat.le_refl _) M l0 l2 l4  h hO hl
set_option maxHeartbeats 4000000 in
theorem w_X10_canMeet {p : Program} {l : Launch} {e : Env} {R : Room} {s : State} {m : MethodId} {args : Array Value} {below : List Frame} {meth : Method} {c : Code} {H : Heap} {locs : List Loc} {ls : Array Slot} {G : jG}  (C : jCx p s m args meth c cX10_canMeet 3 RX10 (Cond.code yX10_canMeet cX10_canMeet 3 (some .boolean)) (some .boolean)) (hRf : 3 ≤ R.frames) (hRl : 73 ≤ R.locals)  (M : jM) (l0 l1 l2 : Int) (h0 : jkd l0 = (10, 0)) {fin : Int} (hf : f_X10_canMeet M l0 l1 l2 = some fin) (hO : jOk G M s H locs) (hl : lv_has ls 3 [(0, jR G l0), (1, vI l1), (2, vI l2)]) : W p l e R s m args below meth c H locs 0 0 (MQ below (jQ G (some (vI fin)) M) args s 0 0 (jA G)) (F0 m 0 ls []) := by
  unfold f_X10_canMeet at hf
  refine lv_aload_n C.1 C.2.1 dX10_canMeet_0 rfl (lv_at hl 0 rfl) ?_
  refine lv_iload_n C.1 C.2.1 dX10_canMeet_1 rfl (lv_at hl 1 rfl) ?_
  obtain ⟨r1, hr1, hf⟩ := bnd_e hf
  refine j_callV C hO (n := 1) (As := [vI l1]) (st1 := [vI r1]) (c_X10_isRow l G M l0 l1 h0 hr1) h0 rfl kC_19_14 kM_19_11 kI_19_12 kS_19_13 kN_1_5 ⟨by decide, by decide, by decide⟩ ⟨Nat.le_trans (by decide) hRf, Nat.le_trans (by decide) hRl⟩ rfl rfl rfl hl.1 rfl (Nat.le_of_ble_eq_true rfl) ⟨Nat.zero_le _, Nat.zero_le _⟩ dX10_canMeet_2 rfl (fun H locs hO => ?_)
  refine j_if_eq (tgt := 45) C rfl dX10_canMeet_5 (by decide) (fun c2 => ?_) (fun c2 => ?_)
  · have hf := (if_pos c2).symm.trans hf
    refine lv_iconst (v := Int32.ofInt 0) C.1 C.2.1 dX10_canMeet_45 rfl ?_
    have hf := som_e hf
    subst hf
    exact j_zret C hO (Or.inl rfl) dX10_canMeet_46
  · have hf := (if_neg c2).symm.trans hf
    refine lv_aload_n C.1 C.2.1 dX10_canMeet_8 rfl (lv_at hl 0 rfl) ?_
    refine lv_iload_n C.1 C.2.1 dX10_canMeet_9 rfl (lv_at hl 2 rfl) ?_
    obtain ⟨r3, hr3, hf⟩ := bnd_e hf
    refine j_callV C hO (n := 1) (As := [vI l2]) (st1 := [vI r3]) (c_X10_isRow l G M l0 l2 h0 hr3) h0 rfl kC_19_14 kM_19_11 kI_19_12 kS_19_13 kN_1_5 ⟨by decide, by decide, by decide⟩ ⟨Nat.le_trans (by decide) hRf, Nat.le_trans (by decide) hRl⟩ rfl rfl rfl hl.1 rfl (Nat.le_of_ble_eq_true rfl) ⟨Nat.zero_le _, Nat.zero_le _⟩ dX10_canMeet_10 rfl (fun H locs hO => ?_)
    refine j_if_eq (tgt := 45) C rfl dX10_canMeet_13 (by decide) (fun c4 => ?_) (fun c4 => ?_)
    · have hf := (if_pos c4).symm.trans hf
      refine lv_iconst (v := Int32.ofInt 0) C.1 C.2.1 dX10_canMeet_45 rfl ?_
      have hf := som_e hf
      subst hf
      exact j_zret C hO (Or.inl rfl) dX10_canMeet_46
    · have hf := (if_neg c4).symm.trans hf
      refine lv_aload_n C.1 C.2.1 dX10_canMeet_16 rfl (lv_at hl 0 rfl) ?_
      refine lv_iload_n C.1 C.2.1 dX10_canMeet_17 rfl (lv_at hl 1 rfl) ?_
      obtain ⟨r5, hr5, hf⟩ := bnd_e hf
      refine j_callV C hO (n := 1) (As := [vI l1]) (st1 := [vI r5]) (c_X10_isLawful l G M l0 l1 h0 hr5) h0 rfl kC_23_3 kM_23_0 kI_23_1 kS_23_2 kN_1_5 ⟨by decide, by decide, by decide⟩ ⟨Nat.le_trans (by decide) hRf, Nat.le_trans (by decide) hRl⟩ rfl rfl rfl hl.1 rfl (Nat.le_of_ble_eq_true rfl) ⟨Nat.zero_le _, Nat.zero_le _⟩ dX10_canMeet_18 rfl (fun H locs hO => ?_)
      refine j_if_eq (tgt := 45) C rfl dX10_canMeet_21 (by decide) (fun c6 => ?_) (fun c6 => ?_)
      · have hf := (if_pos c6).symm.trans hf
        refine lv_iconst (v := Int32.ofInt 0) C.1 C.2.1 dX10_canMeet_45 rfl ?_
        have hf := som_e hf
        subst hf
        exact j_zret C hO (Or.inl rfl) dX10_canMeet_46
      · have hf := (if_neg c6).symm.trans hf
        refine lv_aload_n C.1 C.2.1 dX10_canMeet_24 rfl (lv_at hl 0 rfl) ?_
        refine lv_iload_n C.1 C.2.1 dX10_canMeet_25 rfl (lv_at hl 2 rfl) ?_
        obtain ⟨r7, hr7, hf⟩ := bnd_e hf
        refine j_callV C hO (n := 1) (As := [vI l2]) (st1 := [vI r7]) (c_X10_isLawful l G M l0 l2 h0 hr7) h0 rfl kC_23_3 kM_23_0 kI_23_1 kS_23_2 kN_1_5 ⟨by decide, by decide, by decide⟩ ⟨Nat.le_trans (by decide) hRf, Nat.le_trans (by decide) hRl⟩ rfl rfl rfl hl.1 rfl (Nat.le_of_ble_eq_true rfl) ⟨Nat.zero_le _, Nat.zero_le _⟩ dX10_canMeet_26 rfl (fun H locs hO => ?_)
        refine j_if_eq (tgt := 45) C rfl dX10_canMeet_29 (by decide) (fun c8 => ?_) (fun c8 => ?_)
        · have hf := (if_pos c8).symm.trans hf
          refine lv_iconst (v := Int32.ofInt 0) C.1 C.2.1 dX10_canMeet_45 rfl ?_
          have hf := som_e hf
          subst hf
          exact j_zret C hO (Or.inl rfl) dX10_canMeet_46
        · have hf := (if_neg c8).symm.trans hf
          refine lv_aload_n C.1 C.2.1 dX10_canMeet_32 rfl (lv_at hl 0 rfl) ?_
          refine lv_iload_n C.1 C.2.1 dX10_canMeet_33 rfl (lv_at hl 1 rfl) ?_
          refine lv_iload_n C.1 C.2.1 dX10_canMeet_34 rfl (lv_at hl 2 rfl) ?_
          obtain ⟨r9, hr9, hf⟩ := bnd_e hf
          refine j_callV C hO (n := 2) (As := [vI l1, vI l2]) (st1 := [vI r9]) (c_X10_areApart l G M l0 l1 l2 h0 hr9) h0 rfl kC_26_0 kM_25_21 kI_25_22 kS_25_23 kN_1_5 ⟨by decide, by decide, by decide⟩ ⟨Nat.le_trans (by decide) hRf, Nat.le_trans (by decide) hRl⟩ rfl rfl rfl hl.1 rfl (Nat.le_of_ble_eq_true rfl) ⟨Nat.zero_le _, Nat.zero_le _⟩ dX10_canMeet_35 rfl (fun H locs hO => ?_)
          refine j_if_eq (tgt := 45) C rfl dX10_canMeet_38 (by decide) (fun c10 => ?_) (fun c10 => ?_)
          · have hf := (if_pos c10).symm.trans hf
            refine lv_iconst (v := Int32.ofInt 0) C.1 C.2.1 dX10_canMeet_45 rfl ?_
            have hf := som_e hf
            subst hf
            exact j_zret C hO (Or.inl rfl) dX10_canMeet_46
          · have hf := (if_neg c10).symm.trans hf
            refine lv_iconst (v := Int32.ofInt 1) C.1 C.2.1 dX10_canMeet_41 rfl ?_
            refine lv_goto (tgt := 46) C.1 C.2.1 dX10_canMeet_42 (by decide) ?_
            have hf := som_e hf
            subst hf
            exact j_zret C hO (Or.inr rfl) dX10_canMeet_46
set_option maxHeartbeats 1000000 in
theorem c_X10_canMeet (l : Launch) (G : jG)  (M : jM) (l0 l1 l2 : Int) (h0 : jkd l0 = (10, 0)) {fin : Int} (h : f_X10_canMeet M l0 l1 l2 = some fin) : Met l yX10_canMeet (Cond.code yX10_canMeet cX10_canMeet 3 (some .boolean) :: wsL_law) ({ frames := 3, cells := 0, slots := 0, locals := 73 } : Room) (va_Pc [jR G l0, vI l1, vI l2] (fun U => jRep G M U)) (jQ G (some (vI fin)) M) 0 0 (jA G) := by
  refine Met.ofW (cc := cX10_canMeet) (maxL := 3) (ret := (some .boolean)) (by decide) rfl ?_
  intro p e s m args below meth c s₁ B hml hv
  obtain ⟨rfl, hR0⟩ := hv
  have C : jCx p s m ([jR G l0, vI l1, vI l2] : List Value).toArray meth c cX10_canMeet 3 RX10 (Cond.code yX10_canMeet cX10_canMeet 3 (some .boolean)) (some .boolean) := ⟨B.exec, B.bytes, hml, findClass_of_methodNamed B.named, atoms_spec B.pre, B.returns, B.notSynchronized⟩
  have hO := hR0.ok
  have hl := lv_entry ([jR G l0, vI l1, vI l2]) (n := 3) (Nat.le_of_ble_eq_true rfl)
  rw [lg_entry_eq]
  generalize (lg_sl ([jR G l0, vI l1, vI l2]) ++ List.replicate (3 - (lg_sl ([jR G l0, vI l1, vI l2])).length) Slot.unset).toArray = ls at hl ⊢
  have hl : lv_has ls 3 [(0, jR G l0), (1, vI l1), (2, vI l2)] := hl
  exact w_X10_canMeet C (Nat.le_refl _) (Nat.le_refl _) M l0 l1 l2 h0 h hO hl
set_option maxHeartbeats 4000000 in
theorem w_X10_waits {p : Program} {l : Launch} {e : Env} {R : Room} {s : State} {m : MethodId} {args : Array Value} {below : List Frame} {meth : Method} {c : Code} {H : Heap} {locs : List Loc} {ls : Array Slot} {G : jG}  (C : jCx p s m args meth c cX10_waits 3 RX10 (Cond.code yX10_waits cX10_waits 3 (some .long)) (some .long)) (hRf : 4 ≤ R.frames) (hRl : 93 ≤ R.locals)  (M : jM) (l0 l1 l2 : Int) (h0 : jkd l0 = (10, 0)) {fin : Int × jM} (hf : f_X10_waits M l0 l1 l2 = some fin) (hO : jOk G M s H locs) (hl : lv_has ls 3 [(0, jR G l0), (1, vI l1), (2, vI l2)]) : W p l e R s m args below meth c H locs 0 0 (MQ below (jQ G (some (vL fin.1)) fin.2) args s 0 0 (jA G)) (F0 m 0 ls []) := by
  unfold f_X10_waits at hf
  refine lv_aload_n C.1 C.2.1 dX10_waits_0 rfl (lv_at hl 0 rfl) ?_
  refine lv_iload_n C.1 C.2.1 dX10_waits_1 rfl (lv_at hl 1 rfl) ?_
  obtain ⟨r1, hr1, hf⟩ := bnd_e hf
  refine j_callV C hO (n := 1) (As := [vI l1]) (st1 := [vI r1]) (c_X10_isRow l G M l0 l1 h0 hr1) h0 rfl kC_19_14 kM_19_11 kI_19_12 kS_19_13 kN_1_5 ⟨by decide, by decide, by decide⟩ ⟨Nat.le_trans (by decide) hRf, Nat.le_trans (by decide) hRl⟩ rfl rfl rfl hl.1 rfl (Nat.le_of_ble_eq_true rfl) ⟨Nat.zero_le _, Nat.zero_le _⟩ dX10_waits_2 rfl (fun H locs hO => ?_)
  refine j_if_eq (tgt := 25) C rfl dX10_waits_5 (by decide) (fun c2 => ?_) (fun c2 => ?_)
  · have hf := (if_pos c2).symm.trans hf
    refine j_ldc2 (x := (-9223372036854775808)) C kL_22_23 (by decide) dX10_waits_25 ?_
    have hf := som_e hf
    subst hf
    exact j_lret C hO dX10_waits_28
  · have hf := (if_neg c2).symm.trans hf
    refine lv_aload_n C.1 C.2.1 dX10_waits_8 rfl (lv_at hl 0 rfl) ?_
    refine lv_iload_n C.1 C.2.1 dX10_waits_9 rfl (lv_at hl 1 rfl) ?_
    obtain ⟨r3, hr3, hf⟩ := bnd_e hf
    refine j_callV C hO (n := 1) (As := [vI l1]) (st1 := [vI r3]) (c_X10_isLawful l G M l0 l1 h0 hr3) h0 rfl kC_23_3 kM_23_0 kI_23_1 kS_23_2 kN_1_5 ⟨by decide, by decide, by decide⟩ ⟨Nat.le_trans (by decide) hRf, Nat.le_trans (by decide) hRl⟩ rfl rfl rfl hl.1 rfl (Nat.le_of_ble_eq_true rfl) ⟨Nat.zero_le _, Nat.zero_le _⟩ dX10_waits_10 rfl (fun H locs hO => ?_)
    refine j_if_eq (tgt := 25) C rfl dX10_waits_13 (by decide) (fun c4 => ?_) (fun c4 => ?_)
    · have hf := (if_pos c4).symm.trans hf
      refine j_ldc2 (x := (-9223372036854775808)) C kL_22_23 (by decide) dX10_waits_25 ?_
      have hf := som_e hf
      subst hf
      exact j_lret C hO dX10_waits_28
    · have hf := (if_neg c4).symm.trans hf
      refine lv_iload_n C.1 C.2.1 dX10_waits_16 rfl (lv_at hl 2 rfl) ?_
      refine lv_iconst (v := Int32.ofInt 0) C.1 C.2.1 dX10_waits_17 rfl ?_
      refine lv_iconst (v := Int32.ofInt 1) C.1 C.2.1 dX10_waits_18 rfl ?_
      obtain ⟨r5, hr5, hf⟩ := bnd_e hf
      refine j_callS C hO (n := 3) (As := [vI l2, vI 0, vI 1]) (st1 := [vI r5]) (c_X10_in l G M l2 0 1  hr5) kC_7_1 kM_6_23 kT_7_0 kN_1_5 ⟨by decide, by decide, by decide⟩ ⟨Nat.le_trans (by decide) hRf, Nat.le_trans (by decide) hRl⟩ rfl rfl rfl hl.1 rfl (Nat.le_of_ble_eq_true rfl) ⟨Nat.zero_le _, Nat.zero_le _⟩ dX10_waits_19 rfl (fun H locs hO => ?_)
      refine j_if_ne (tgt := 29) C rfl dX10_waits_22 (by decide) (fun c6 => ?_) (fun c6 => ?_)
      · have hf := (if_neg c6).symm.trans hf
        refine lv_aload_n C.1 C.2.1 dX10_waits_29 rfl (lv_at hl 0 rfl) ?_
        obtain ⟨r7, hr7, hf⟩ := bnd_e hf
        refine j_callV C hO (n := 0) (As := []) (st1 := []) (c_X10_looksForWeights l G M l0 h0 hr7) h0 rfl kC_16_13 kM_16_10 kI_16_11 kS_16_12 kN_1_5 ⟨by decide, by decide, by decide⟩ ⟨Nat.le_trans (by decide) hRf, Nat.le_trans (by decide) hRl⟩ rfl rfl rfl hl.1 rfl (Nat.le_of_ble_eq_true rfl) ⟨Nat.zero_le _, Nat.zero_le _⟩ dX10_waits_30 rfl (fun H locs hO => ?_)
        refine lv_aload_n C.1 C.2.1 dX10_waits_33 rfl (lv_at hl 0 rfl) ?_
        refine lv_iload_n C.1 C.2.1 dX10_waits_34 rfl (lv_at hl 1 rfl) ?_
        refine lv_iload_n C.1 C.2.1 dX10_waits_35 rfl (lv_at hl 1 rfl) ?_
        obtain ⟨r8, hr8, hf⟩ := bnd_e hf
        refine j_callV C hO (n := 2) (As := [vI l1, vI l1]) (st1 := [vL r8]) (c_X10_lapOf l G r7 l0 l1 l1 h0 hr8) h0 rfl kC_23_7 kM_23_4 kI_23_5 kS_23_6 kN_1_5 ⟨by decide, by decide, by decide⟩ ⟨Nat.le_trans (by decide) hRf, Nat.le_trans (by decide) hRl⟩ rfl rfl rfl hl.1 rfl (Nat.le_of_ble_eq_true rfl) ⟨Nat.zero_le _, Nat.zero_le _⟩ dX10_waits_36 rfl (fun H locs hO => ?_)
        refine lv_aload_n C.1 C.2.1 dX10_waits_39 rfl (lv_at hl 0 rfl) ?_
        refine lv_iload_n C.1 C.2.1 dX10_waits_40 rfl (lv_at hl 1 rfl) ?_
        refine lv_iconst (v := Int32.ofInt 0) C.1 C.2.1 dX10_waits_41 rfl ?_
        obtain ⟨r9, hr9, hf⟩ := bnd_e hf
        refine j_callV C hO (n := 2) (As := [vI l1, vI 0]) (st1 := [vL r9, vL r8]) (c_X10_weightsFrom l G r7 l0 l1 0 h0 hr9) h0 rfl kC_23_19 kM_23_16 kI_23_17 kS_23_18 kN_1_5 ⟨by decide, by decide, by decide⟩ ⟨Nat.le_trans (by decide) hRf, Nat.le_trans (by decide) hRl⟩ rfl rfl rfl hl.1 rfl (Nat.le_of_ble_eq_true rfl) ⟨Nat.zero_le _, Nat.zero_le _⟩ dX10_waits_42 rfl (fun H locs hO => ?_)
        refine lv_iload_n C.1 C.2.1 dX10_waits_45 rfl (lv_at hl 2 rfl) ?_
        obtain ⟨r10, hr10, hf⟩ := bnd_e hf
        refine j_callS C hO (n := 3) (As := [vL r8, vL r9, vI l2]) (st1 := [vL r10]) (c_X10_lowest l G r7 r8 r9 l2  hr10) kC_23_22 kM_23_20 kT_23_21 kN_1_5 ⟨by decide, by decide, by decide⟩ ⟨Nat.le_trans (by decide) hRf, Nat.le_trans (by decide) hRl⟩ rfl rfl rfl hl.1 rfl (Nat.le_of_ble_eq_true rfl) ⟨Nat.zero_le _, Nat.zero_le _⟩ dX10_waits_46 rfl (fun H locs hO => ?_)
        have hf := som_e hf
        subst hf
        exact j_lret C hO dX10_waits_49
      · have hf := (if_pos c6).symm.trans hf
        refine j_ldc2 (x := (-9223372036854775808)) C kL_22_23 (by decide) dX10_waits_25 ?_
        have hf := som_e hf
        subst hf
        exact j_lret C hO dX10_waits_28
set_option maxHeartbeats 1000000 in
theorem c_X10_waits (l : Launch) (G : jG)  (M : jM) (l0 l1 l2 : Int) (h0 : jkd l0 = (10, 0)) {fin : Int × jM} (h : f_X10_waits M l0 l1 l2 = some fin) : Met l yX10_waits (Cond.code yX10_waits cX10_waits 3 (some .long) :: wsL_law) ({ frames := 4, cells := 0, slots := 0, locals := 93 } : Room) (va_Pc [jR G l0, vI l1, vI l2] (fun U => jRep G M U)) (jQ G (some (vL fin.1)) fin.2) 0 0 (jA G) := by
  refine Met.ofW (cc := cX10_waits) (maxL := 3) (ret := (some .long)) (by decide) rfl ?_
  intro p e s m args below meth c s₁ B hml hv
  obtain ⟨rfl, hR0⟩ := hv
  have C : jCx p s m ([jR G l0, vI l1, vI l2] : List Value).toArray meth c cX10_waits 3 RX10 (Cond.code yX10_waits cX10_waits 3 (some .long)) (some .long) := ⟨B.exec, B.bytes, hml, findClass_of_methodNamed B.named, atoms_spec B.pre, B.returns, B.notSynchronized⟩
  have hO := hR0.ok
  have hl := lv_entry ([jR G l0, vI l1, vI l2]) (n := 3) (Nat.le_of_ble_eq_true rfl)
  rw [lg_entry_eq]
  generalize (lg_sl ([jR G l0, vI l1, vI l2]) ++ List.replicate (3 - (lg_sl ([jR G l0, vI l1, vI l2])).length) Slot.unset).toArray = ls at hl ⊢
  have hl : lv_has ls 3 [(0, jR G l0), (1, vI l1), (2, vI l2)] := hl
  exact w_X10_waits C (Nat.le_refl _) (Nat.le_refl _) M l0 l1 l2 h0 h hO hl
set_option maxHeartbeats 4000000 in
theorem w_X10_odds {p : Program} {l : Launch} {e : Env} {R : Room} {s : State} {m : MethodId} {args : Array Value} {below : List Frame} {meth : Method} {c : Code} {H : Heap} {locs : List Loc} {ls : Array Slot} {G : jG}  (C : jCx p s m args meth c cX10_odds 4 RX10 (Cond.code yX10_odds cX10_odds 4 (some .long)) (some .long)) (hRf : 5 ≤ R.frames) (hRl : 119 ≤ R.locals)  (M : jM) (l0 l1 l2 l3 : Int) (h0 : jkd l0 = (10, 0)) {fin : Int × jM} (hf : f_X10_odds M l0 l1 l2 l3 = some fin) (hO : jOk G M s H locs) (hl : lv_has ls 4 [(0, jR G l0), (1, vI l1), (2, vI l2), (3, vI l3)]) : W p l e R s m args below meth c H locs 0 0 (MQ below (jQ G (some (vL fin.1)) fin.2) args s 0 0 (jA G)) (F0 m 0 ls []) := by
  unfold f_X10_odds at hf
  refine lv_aload_n C.1 C.2.1 dX10_odds_0 rfl (lv_at hl 0 rfl) ?_
  refine lv_iload_n C.1 C.2.1 dX10_odds_1 rfl (lv_at hl 1 rfl) ?_
  refine lv_iload_n C.1 C.2.1 dX10_odds_2 rfl (lv_at hl 2 rfl) ?_
  obtain ⟨r1, hr1, hf⟩ := bnd_e hf
  refine j_callV C hO (n := 2) (As := [vI l1, vI l2]) (st1 := [vI r1]) (c_X10_canMeet l G M l0 l1 l2 h0 hr1) h0 rfl kC_25_20 kM_25_17 kI_25_18 kS_25_19 kN_1_5 ⟨by decide, by decide, by decide⟩ ⟨Nat.le_trans (by decide) hRf, Nat.le_trans (by decide) hRl⟩ rfl rfl rfl hl.1 rfl (Nat.le_of_ble_eq_true rfl) ⟨Nat.zero_le _, Nat.zero_le _⟩ dX10_odds_3 rfl (fun H locs hO => ?_)
  refine j_if_eq (tgt := 18) C rfl dX10_odds_6 (by decide) (fun c2 => ?_) (fun c2 => ?_)
  · have hf := (if_pos c2).symm.trans hf
    refine j_ldc2 (x := (-9223372036854775808)) C kL_22_23 (by decide) dX10_odds_18 ?_
    have hf := som_e hf
    subst hf
    exact j_lret C hO dX10_odds_21
  · have hf := (if_neg c2).symm.trans hf
    refine lv_iload_n C.1 C.2.1 dX10_odds_9 rfl (lv_at hl 3 rfl) ?_
    refine lv_iconst (v := Int32.ofInt 0) C.1 C.2.1 dX10_odds_10 rfl ?_
    refine lv_iconst (v := Int32.ofInt 1) C.1 C.2.1 dX10_odds_11 rfl ?_
    obtain ⟨r3, hr3, hf⟩ := bnd_e hf
    refine j_callS C hO (n := 3) (As := [vI l3, vI 0, vI 1]) (st1 := [vI r3]) (c_X10_in l G M l3 0 1  hr3) kC_7_1 kM_6_23 kT_7_0 kN_1_5 ⟨by decide, by decide, by decide⟩ ⟨Nat.le_trans (by decide) hRf, Nat.le_trans (by decide) hRl⟩ rfl rfl rfl hl.1 rfl (Nat.le_of_ble_eq_true rfl) ⟨Nat.zero_le _, Nat.zero_le _⟩ dX10_odds_12 rfl (fun H locs hO => ?_)
    refine j_if_ne (tgt := 22) C rfl dX10_odds_15 (by decide) (fun c4 => ?_) (fun c4 => ?_)
    · have hf := (if_neg c4).symm.trans hf
      refine lv_aload_n C.1 C.2.1 dX10_odds_22 rfl (lv_at hl 0 rfl) ?_
      refine lv_iload_n C.1 C.2.1 dX10_odds_23 rfl (lv_at hl 1 rfl) ?_
      refine lv_iload_n C.1 C.2.1 dX10_odds_24 rfl (lv_at hl 2 rfl) ?_
      obtain ⟨r5, hr5, hf⟩ := bnd_e hf
      refine j_callV C hO (n := 2) (As := [vI l1, vI l2]) (st1 := []) (c_X10_looksForOdds l G M l0 l1 l2 h0 hr5) h0 rfl kC_26_8 kM_26_5 kI_26_6 kS_26_7 kN_1_5 ⟨by decide, by decide, by decide⟩ ⟨Nat.le_trans (by decide) hRf, Nat.le_trans (by decide) hRl⟩ rfl rfl rfl hl.1 rfl (Nat.le_of_ble_eq_true rfl) ⟨Nat.zero_le _, Nat.zero_le _⟩ dX10_odds_25 rfl (fun H locs hO => ?_)
      refine lv_aload_n C.1 C.2.1 dX10_odds_28 rfl (lv_at hl 0 rfl) ?_
      refine j_get C hO (ci := 10) (k := 13) (v := vL (r5 l0 13)) h0 rfl inlX10 (by decide) kF_25_15 rfl rfl dX10_odds_29 ?_
      refine lv_aload_n C.1 C.2.1 dX10_odds_32 rfl (lv_at hl 0 rfl) ?_
      refine j_get C hO (ci := 10) (k := 13) (v := vL (r5 l0 13)) h0 rfl inlX10 (by decide) kF_25_15 rfl rfl dX10_odds_33 ?_
      refine lv_aload_n C.1 C.2.1 dX10_odds_36 rfl (lv_at hl 0 rfl) ?_
      refine j_get C hO (ci := 10) (k := 14) (v := vL (r5 l0 14)) h0 rfl inlX10 (by decide) kF_25_16 rfl rfl dX10_odds_37 ?_
      refine j_ladd C dX10_odds_40 ?_
      refine lv_iload_n C.1 C.2.1 dX10_odds_41 rfl (lv_at hl 3 rfl) ?_
      obtain ⟨r6, hr6, hf⟩ := bnd_e hf
      refine j_callS C hO (n := 3) (As := [vL (r5 l0 13), vL ((r5 l0 13) + (r5 l0 14)), vI l3]) (st1 := [vL r6]) (c_X10_lowest l G r5 (r5 l0 13) ((r5 l0 13) + (r5 l0 14)) l3  hr6) kC_23_22 kM_23_20 kT_23_21 kN_1_5 ⟨by decide, by decide, by decide⟩ ⟨Nat.le_trans (by decide) hRf, Nat.le_trans (by decide) hRl⟩ rfl rfl rfl hl.1 rfl (Nat.le_of_ble_eq_true rfl) ⟨Nat.zero_le _, Nat.zero_le _⟩ dX10_odds_42 rfl (fun H locs hO => ?_)
      have hf := som_e hf
      subst hf
      exact j_lret C hO dX10_odds_45
    · have hf := (if_pos c4).symm.trans hf
      refine j_ldc2 (x := (-9223372036854775808)) C kL_22_23 (by decide) dX10_odds_18 ?_
      have hf := som_e hf
      subst hf
      exact j_lret C hO dX10_odds_21
set_option maxHeartbeats 1000000 in
theorem c_X10_odds (l : Launch) (G : jG)  (M : jM) (l0 l1 l2 l3 : Int) (h0 : jkd l0 = (10, 0)) {fin : Int × jM} (h : f_X10_odds M l0 l1 l2 l3 = some fin) : Met l yX10_odds (Cond.code yX10_odds cX10_odds 4 (some .long) :: wsL_law) ({ frames := 5, cells := 0, slots := 0, locals := 119 } : Room) (va_Pc [jR G l0, vI l1, vI l2, vI l3] (fun U => jRep G M U)) (jQ G (some (vL fin.1)) fin.2) 0 0 (jA G) := by
  refine Met.ofW (cc := cX10_odds) (maxL := 4) (ret := (some .long)) (by decide) rfl ?_
  intro p e s m args below meth c s₁ B hml hv
  obtain ⟨rfl, hR0⟩ := hv
  have C : jCx p s m ([jR G l0, vI l1, vI l2, vI l3] : List Value).toArray meth c cX10_odds 4 RX10 (Cond.code yX10_odds cX10_odds 4 (some .long)) (some .long) := ⟨B.exec, B.bytes, hml, findClass_of_methodNamed B.named, atoms_spec B.pre, B.returns, B.notSynchronized⟩
  have hO := hR0.ok
  have hl := lv_entry ([jR G l0, vI l1, vI l2, vI l3]) (n := 4) (Nat.le_of_ble_eq_true rfl)
  rw [lg_entry_eq]
  generalize (lg_sl ([jR G l0, vI l1, vI l2, vI l3]) ++ List.replicate (4 - (lg_sl ([jR G l0, vI l1, vI l2, vI l3])).length) Slot.unset).toArray = ls at hl ⊢
  have hl : lv_has ls 4 [(0, jR G l0), (1, vI l1), (2, vI l2), (3, vI l3)] := hl
  exact w_X10_odds C (Nat.le_refl _) (Nat.le_refl _) M l0 l1 l2 l3 h0 h hO hl
set_option maxHeartbeats 4000000 in
theorem w_X10_lastsAbove {p : Program} {l : Launch} {e : Env} {R : Room} {s : State} {m : MethodId} {args : Array Value} {below : List Frame} {meth : Method} {c : Code} {H : Heap} {locs : List Loc} {ls : Array Slot} {G : jG}  (C : jCx p s m args meth c cX10_lastsAbove 7 RX10 (Cond.code yX10_lastsAbove cX10_lastsAbove 7 (some .long)) (some .long)) (hRf : 5 ≤ R.frames) (hRl : 119 ≤ R.locals)  (M : jM) (l0 l1 l2 : Int) (h0 : jkd l0 = (10, 0)) {fin : Int × jM} (hf : f_X10_lastsAbove M l0 l1 l2 = some fin) (hO : jOk G M s H locs) (hl : lv_has ls 7 [(0, jR G l0), (1, vI l1), (2, vI l2)]) : W p l e R s m args below meth c H locs 0 0 (MQ below (jQ G (some (vL fin.1)) fin.2) args s 0 0 (jA G)) (F0 m 0 ls []) := by
  unfold f_X10_lastsAbove at hf
  refine lv_aload_n C.1 C.2.1 dX10_lastsAbove_0 rfl (lv_at hl 0 rfl) ?_
  refine lv_iload_n C.1 C.2.1 dX10_lastsAbove_1 rfl (lv_at hl 1 rfl) ?_
  refine lv_iload_n C.1 C.2.1 dX10_lastsAbove_2 rfl (lv_at hl 2 rfl) ?_
  obtain ⟨r1, hr1, hf⟩ := bnd_e hf
  refine j_callV C hO (n := 2) (As := [vI l1, vI l2]) (st1 := []) (c_X10_looksForOdds l G M l0 l1 l2 h0 hr1) h0 rfl kC_26_8 kM_26_5 kI_26_6 kS_26_7 kN_1_5 ⟨by decide, by decide, by decide⟩ ⟨Nat.le_trans (by decide) hRf, Nat.le_trans (by decide) hRl⟩ rfl rfl rfl hl.1 rfl (Nat.le_of_ble_eq_true rfl) ⟨Nat.zero_le _, Nat.zero_le _⟩ dX10_lastsAbove_3 rfl (fun H locs hO => ?_)
  refine lv_aload_n C.1 C.2.1 dX10_lastsAbove_6 rfl (lv_at hl 0 rfl) ?_
  refine j_get C hO (ci := 10) (k := 13) (v := vL (r1 l0 13)) h0 rfl inlX10 (by decide) kF_25_15 rfl rfl dX10_lastsAbove_7 ?_
  refine lv_aload_n C.1 C.2.1 dX10_lastsAbove_10 rfl (lv_at hl 0 rfl) ?_
  refine j_get C hO (ci := 10) (k := 13) (v := vL (r1 l0 13)) h0 rfl inlX10 (by decide) kF_25_15 rfl rfl dX10_lastsAbove_11 ?_
  refine lv_aload_n C.1 C.2.1 dX10_lastsAbove_14 rfl (lv_at hl 0 rfl) ?_
  refine j_get C hO (ci := 10) (k := 14) (v := vL (r1 l0 14)) h0 rfl inlX10 (by decide) kF_25_16 rfl rfl dX10_lastsAbove_15 ?_
  refine j_ladd C dX10_lastsAbove_18 ?_
  obtain ⟨r2, hr2, hf⟩ := bnd_e hf
  refine j_callS C hO (n := 2) (As := [vL (r1 l0 13), vL ((r1 l0 13) + (r1 l0 14))]) (st1 := [vL r2]) (c_X10_divisor l G r1 (r1 l0 13) ((r1 l0 13) + (r1 l0 14))  hr2) kC_24_1 kM_23_23 kT_24_0 kN_1_5 ⟨by decide, by decide, by decide⟩ ⟨Nat.le_trans (by decide) hRf, Nat.le_trans (by decide) hRl⟩ rfl rfl rfl hl.1 rfl (Nat.le_of_ble_eq_true rfl) ⟨Nat.zero_le _, Nat.zero_le _⟩ dX10_lastsAbove_19 rfl (fun H locs hO => ?_)
  refine lv_lstore_n (lv' := [(3, vL r2), (0, jR G l0), (1, vI l1), (2, vI l2)]) C.1 C.2.1 dX10_lastsAbove_22 rfl hl (by decide) rfl (fun ls hl => ?_)
  refine lv_aload_n C.1 C.2.1 dX10_lastsAbove_23 rfl (lv_at hl 1 rfl) ?_
  refine lv_dup C.1 C.2.1 dX10_lastsAbove_24 rfl ?_
  refine j_get C hO (ci := 10) (k := 13) (v := vL (r1 l0 13)) h0 rfl inlX10 (by decide) kF_25_15 rfl rfl dX10_lastsAbove_25 ?_
  refine lv_lload_n C.1 C.2.1 dX10_lastsAbove_28 rfl (lv_at hl 0 rfl) ?_
  obtain ⟨g3, hf⟩ := grd_e hf
  refine j_ldiv C g3 dX10_lastsAbove_29 ?_
  obtain ⟨M4, hM4, hf⟩ := lt1_e hf
  refine j_put C hO (ci := 10) (k := 13) (x := ((w64 (r1 l0 13)).tdiv (w64 r2))) h0 rfl inlX10 tyX10_ok nmX10 (by decide) kF_25_15 rfl rfl rfl rfl (by simp [jfl]) (fs_10_13) dX10_lastsAbove_30 (fun H locs hO => ?_)
  rw [← hM4] at hO
  refine lv_aload_n C.1 C.2.1 dX10_lastsAbove_33 rfl (lv_at hl 1 rfl) ?_
  refine lv_dup C.1 C.2.1 dX10_lastsAbove_34 rfl ?_
  refine j_get C hO (ci := 10) (k := 14) (v := vL (M4 l0 14)) h0 rfl inlX10 (by decide) kF_25_16 rfl rfl dX10_lastsAbove_35 ?_
  refine lv_lload_n C.1 C.2.1 dX10_lastsAbove_38 rfl (lv_at hl 0 rfl) ?_
  obtain ⟨g5, hf⟩ := grd_e hf
  refine j_ldiv C g5 dX10_lastsAbove_39 ?_
  obtain ⟨M6, hM6, hf⟩ := lt1_e hf
  refine j_put C hO (ci := 10) (k := 14) (x := ((w64 (M4 l0 14)).tdiv (w64 r2))) h0 rfl inlX10 tyX10_ok nmX10 (by decide) kF_25_16 rfl rfl rfl rfl (by simp [jfl]) (fs_10_14) dX10_lastsAbove_40 (fun H locs hO => ?_)
  rw [← hM6] at hO
  refine lv_aload_n C.1 C.2.1 dX10_lastsAbove_43 rfl (lv_at hl 1 rfl) ?_
  refine lv_iload_n C.1 C.2.1 dX10_lastsAbove_44 rfl (lv_at hl 3 rfl) ?_
  refine lv_iload_n C.1 C.2.1 dX10_lastsAbove_45 rfl (lv_at hl 2 rfl) ?_
  obtain ⟨r7, hr7, hf⟩ := bnd_e hf
  refine j_callV C hO (n := 2) (As := [vI l2, vI l1]) (st1 := [vL r7]) (c_X10_lapOf l G M6 l0 l2 l1 h0 hr7) h0 rfl kC_23_7 kM_23_4 kI_23_5 kS_23_6 kN_1_5 ⟨by decide, by decide, by decide⟩ ⟨Nat.le_trans (by decide) hRf, Nat.le_trans (by decide) hRl⟩ rfl rfl rfl hl.1 rfl (Nat.le_of_ble_eq_true rfl) ⟨Nat.zero_le _, Nat.zero_le _⟩ dX10_lastsAbove_46 rfl (fun H locs hO => ?_)
  refine lv_lstore (lv' := [(5, vL r7), (3, vL r2), (0, jR G l0), (1, vI l1), (2, vI l2)]) C.1 C.2.1 dX10_lastsAbove_49 hl (by decide) rfl (fun ls hl => ?_)
  refine lv_aload_n C.1 C.2.1 dX10_lastsAbove_51 rfl (lv_at hl 2 rfl) ?_
  refine j_get C hO (ci := 10) (k := 13) (v := vL (M6 l0 13)) h0 rfl inlX10 (by decide) kF_25_15 rfl rfl dX10_lastsAbove_52 ?_
  refine lv_aload_n C.1 C.2.1 dX10_lastsAbove_55 rfl (lv_at hl 2 rfl) ?_
  refine lv_iload_n C.1 C.2.1 dX10_lastsAbove_56 rfl (lv_at hl 3 rfl) ?_
  refine lv_iload_n C.1 C.2.1 dX10_lastsAbove_57 rfl (lv_at hl 3 rfl) ?_
  obtain ⟨r8, hr8, hf⟩ := bnd_e hf
  refine j_callV C hO (n := 2) (As := [vI l1, vI l1]) (st1 := [vL r8, vL (M6 l0 13)]) (c_X10_lapOf l G M6 l0 l1 l1 h0 hr8) h0 rfl kC_23_7 kM_23_4 kI_23_5 kS_23_6 kN_1_5 ⟨by decide, by decide, by decide⟩ ⟨Nat.le_trans (by decide) hRf, Nat.le_trans (by decide) hRl⟩ rfl rfl rfl hl.1 rfl (Nat.le_of_ble_eq_true rfl) ⟨Nat.zero_le _, Nat.zero_le _⟩ dX10_lastsAbove_58 rfl (fun H locs hO => ?_)
  refine lv_lload C.1 C.2.1 dX10_lastsAbove_61 (lv_at hl 0 rfl) ?_
  refine j_lsub C dX10_lastsAbove_63 ?_
  refine j_lmul C dX10_lastsAbove_64 ?_
  refine lv_lload C.1 C.2.1 dX10_lastsAbove_65 (lv_at hl 0 rfl) ?_
  refine lv_aload_n C.1 C.2.1 dX10_lastsAbove_67 rfl (lv_at hl 2 rfl) ?_
  refine j_get C hO (ci := 10) (k := 13) (v := vL (M6 l0 13)) h0 rfl inlX10 (by decide) kF_25_15 rfl rfl dX10_lastsAbove_68 ?_
  refine lv_aload_n C.1 C.2.1 dX10_lastsAbove_71 rfl (lv_at hl 2 rfl) ?_
  refine j_get C hO (ci := 10) (k := 14) (v := vL (M6 l0 14)) h0 rfl inlX10 (by decide) kF_25_16 rfl rfl dX10_lastsAbove_72 ?_
  refine j_ladd C dX10_lastsAbove_75 ?_
  refine j_lmul C dX10_lastsAbove_76 ?_
  refine j_ladd C dX10_lastsAbove_77 ?_
  have hf := som_e hf
  subst hf
  exact j_lret C hO dX10_lastsAbove_78
set_option maxHeartbeats 1000000 in
theorem c_X10_lastsAbove (l : Launch) (G : jG)  (M : jM) (l0 l1 l2 : Int) (h0 : jkd l0 = (10, 0)) {fin : Int × jM} (h : f_X10_lastsAbove M l0 l1 l2 = some fin) : Met l yX10_lastsAbove (Cond.code yX10_lastsAbove cX10_lastsAbove 7 (some .long) :: wsL_law) ({ frames := 5, cells := 0, slots := 0, locals := 119 } : Room) (va_Pc [jR G l0, vI l1, vI l2] (fun U => jRep G M U)) (jQ G (some (vL fin.1)) fin.2) 0 0 (jA G) := by
  refine Met.ofW (cc := cX10_lastsAbove) (maxL := 7) (ret := (some .long)) (by decide) rfl ?_
  intro p e s m args below meth c s₁ B hml hv
  obtain ⟨rfl, hR0⟩ := hv
  have C : jCx p s m ([jR G l0, vI l1, vI l2] : List Value).toArray meth c cX10_lastsAbove 7 RX10 (Cond.code yX10_lastsAbove cX10_lastsAbove 7 (some .long)) (some .long) := ⟨B.exec, B.bytes, hml, findClass_of_methodNamed B.named, atoms_spec B.pre, B.returns, B.notSynchronized⟩
  have hO := hR0.ok
  have hl := lv_entry ([jR G l0, vI l1, vI l2]) (n := 7) (Nat.le_of_ble_eq_true rfl)
  rw [lg_entry_eq]
  generalize (lg_sl ([jR G l0, vI l1, vI l2]) ++ List.replicate (7 - (lg_sl ([jR G l0, vI l1, vI l2])).length) Slot.unset).toArray = ls at hl ⊢
  have hl : lv_has ls 7 [(0, jR G l0), (1, vI l1), (2, vI l2)] := hl
  exact w_X10_lastsAbove C (Nat.le_refl _) (Nat.le_refl _) M l0 l1 l2 h0 h hO hl
set_option maxHeartbeats 4000000 in
theorem w_X10_lasts {p : Program} {l : Launch} {e : Env} {R : Room} {s : State} {m : MethodId} {args : Array Value} {below : List Frame} {meth : Method} {c : Code} {H : Heap} {locs : List Loc} {ls : Array Slot} {G : jG}  (C : jCx p s m args meth c cX10_lasts 6 RX10 (Cond.code yX10_lasts cX10_lasts 6 (some .long)) (some .long)) (hRf : 6 ≤ R.frames) (hRl : 145 ≤ R.locals)  (M : jM) (l0 l1 l2 l3 : Int) (h0 : jkd l0 = (10, 0)) {fin : Int × jM} (hf : f_X10_lasts M l0 l1 l2 l3 = some fin) (hO : jOk G M s H locs) (hl : lv_has ls 6 [(0, jR G l0), (1, vI l1), (2, vI l2), (3, vI l3)]) : W p l e R s m args below meth c H locs 0 0 (MQ below (jQ G (some (vL fin.1)) fin.2) args s 0 0 (jA G)) (F0 m 0 ls []) := by
  unfold f_X10_lasts at hf
  refine lv_aload_n C.1 C.2.1 dX10_lasts_0 rfl (lv_at hl 0 rfl) ?_
  refine lv_iload_n C.1 C.2.1 dX10_lasts_1 rfl (lv_at hl 1 rfl) ?_
  refine lv_iload_n C.1 C.2.1 dX10_lasts_2 rfl (lv_at hl 2 rfl) ?_
  obtain ⟨r1, hr1, hf⟩ := bnd_e hf
  refine j_callV C hO (n := 2) (As := [vI l1, vI l2]) (st1 := [vI r1]) (c_X10_canMeet l G M l0 l1 l2 h0 hr1) h0 rfl kC_25_20 kM_25_17 kI_25_18 kS_25_19 kN_1_5 ⟨by decide, by decide, by decide⟩ ⟨Nat.le_trans (by decide) hRf, Nat.le_trans (by decide) hRl⟩ rfl rfl rfl hl.1 rfl (Nat.le_of_ble_eq_true rfl) ⟨Nat.zero_le _, Nat.zero_le _⟩ dX10_lasts_3 rfl (fun H locs hO => ?_)
  refine j_if_eq (tgt := 18) C rfl dX10_lasts_6 (by decide) (fun c2 => ?_) (fun c2 => ?_)
  · have hf := (if_pos c2).symm.trans hf
    refine j_ldc2 (x := (-9223372036854775808)) C kL_22_23 (by decide) dX10_lasts_18 ?_
    have hf := som_e hf
    subst hf
    exact j_lret C hO dX10_lasts_21
  · have hf := (if_neg c2).symm.trans hf
    refine lv_iload_n C.1 C.2.1 dX10_lasts_9 rfl (lv_at hl 3 rfl) ?_
    refine lv_iconst (v := Int32.ofInt 0) C.1 C.2.1 dX10_lasts_10 rfl ?_
    refine lv_iconst (v := Int32.ofInt 1) C.1 C.2.1 dX10_lasts_11 rfl ?_
    obtain ⟨r3, hr3, hf⟩ := bnd_e hf
    refine j_callS C hO (n := 3) (As := [vI l3, vI 0, vI 1]) (st1 := [vI r3]) (c_X10_in l G M l3 0 1  hr3) kC_7_1 kM_6_23 kT_7_0 kN_1_5 ⟨by decide, by decide, by decide⟩ ⟨Nat.le_trans (by decide) hRf, Nat.le_trans (by decide) hRl⟩ rfl rfl rfl hl.1 rfl (Nat.le_of_ble_eq_true rfl) ⟨Nat.zero_le _, Nat.zero_le _⟩ dX10_lasts_12 rfl (fun H locs hO => ?_)
    refine j_if_ne (tgt := 22) C rfl dX10_lasts_15 (by decide) (fun c4 => ?_) (fun c4 => ?_)
    · have hf := (if_neg c4).symm.trans hf
      refine lv_aload_n C.1 C.2.1 dX10_lasts_22 rfl (lv_at hl 0 rfl) ?_
      refine lv_iload_n C.1 C.2.1 dX10_lasts_23 rfl (lv_at hl 1 rfl) ?_
      refine lv_iload_n C.1 C.2.1 dX10_lasts_24 rfl (lv_at hl 2 rfl) ?_
      obtain ⟨r5, hr5, hf⟩ := bnd_e hf
      refine j_callV C hO (n := 2) (As := [vI l1, vI l2]) (st1 := [vL r5.1]) (c_X10_lastsAbove l G M l0 l1 l2 h0 hr5) h0 rfl kC_26_21 kM_26_18 kI_26_19 kS_26_20 kN_1_5 ⟨by decide, by decide, by decide⟩ ⟨Nat.le_trans (by decide) hRf, Nat.le_trans (by decide) hRl⟩ rfl rfl rfl hl.1 rfl (Nat.le_of_ble_eq_true rfl) ⟨Nat.zero_le _, Nat.zero_le _⟩ dX10_lasts_25 rfl (fun H locs hO => ?_)
      refine lv_lstore (lv' := [(4, vL r5.1), (0, jR G l0), (1, vI l1), (2, vI l2), (3, vI l3)]) C.1 C.2.1 dX10_lasts_28 hl (by decide) rfl (fun ls hl => ?_)
      refine lv_lload C.1 C.2.1 dX10_lasts_30 (lv_at hl 0 rfl) ?_
      refine lv_aload_n C.1 C.2.1 dX10_lasts_32 rfl (lv_at hl 1 rfl) ?_
      refine j_get C hO (ci := 10) (k := 13) (v := vL (r5.2 l0 13)) h0 rfl inlX10 (by decide) kF_25_15 rfl rfl dX10_lasts_33 ?_
      refine lv_aload_n C.1 C.2.1 dX10_lasts_36 rfl (lv_at hl 1 rfl) ?_
      refine j_get C hO (ci := 10) (k := 14) (v := vL (r5.2 l0 14)) h0 rfl inlX10 (by decide) kF_25_16 rfl rfl dX10_lasts_37 ?_
      refine j_ladd C dX10_lasts_40 ?_
      refine lv_aload_n C.1 C.2.1 dX10_lasts_41 rfl (lv_at hl 1 rfl) ?_
      refine lv_iload_n C.1 C.2.1 dX10_lasts_42 rfl (lv_at hl 2 rfl) ?_
      refine lv_iconst (v := Int32.ofInt 0) C.1 C.2.1 dX10_lasts_43 rfl ?_
      obtain ⟨r6, hr6, hf⟩ := bnd_e hf
      refine j_callV C hO (n := 2) (As := [vI l1, vI 0]) (st1 := [vL r6, vL ((r5.2 l0 13) + (r5.2 l0 14)), vL r5.1]) (c_X10_weightsFrom l G r5.2 l0 l1 0 h0 hr6) h0 rfl kC_23_19 kM_23_16 kI_23_17 kS_23_18 kN_1_5 ⟨by decide, by decide, by decide⟩ ⟨Nat.le_trans (by decide) hRf, Nat.le_trans (by decide) hRl⟩ rfl rfl rfl hl.1 rfl (Nat.le_of_ble_eq_true rfl) ⟨Nat.zero_le _, Nat.zero_le _⟩ dX10_lasts_44 rfl (fun H locs hO => ?_)
      refine j_lmul C dX10_lasts_47 ?_
      refine lv_iload_n C.1 C.2.1 dX10_lasts_48 rfl (lv_at hl 4 rfl) ?_
      obtain ⟨r7, hr7, hf⟩ := bnd_e hf
      refine j_callS C hO (n := 3) (As := [vL r5.1, vL (((r5.2 l0 13) + (r5.2 l0 14)) * r6), vI l3]) (st1 := [vL r7]) (c_X10_lowest l G r5.2 r5.1 (((r5.2 l0 13) + (r5.2 l0 14)) * r6) l3  hr7) kC_23_22 kM_23_20 kT_23_21 kN_1_5 ⟨by decide, by decide, by decide⟩ ⟨Nat.le_trans (by decide) hRf, Nat.le_trans (by decide) hRl⟩ rfl rfl rfl hl.1 rfl (Nat.le_of_ble_eq_true rfl) ⟨Nat.zero_le _, Nat.zero_le _⟩ dX10_lasts_49 rfl (fun H locs hO => ?_)
      have hf := som_e hf
      subst hf
      exact j_lret C hO dX10_lasts_52
    · have hf := (if_pos c4).symm.trans hf
      refine j_ldc2 (x := (-9223372036854775808)) C kL_22_23 (by decide) dX10_lasts_18 ?_
      have hf := som_e hf
      subst hf
      exact j_lret C hO dX10_lasts_21
set_option maxHeartbeats 1000000 in
theorem c_X10_lasts (l : Launch) (G : jG)  (M : jM) (l0 l1 l2 l3 : Int) (h0 : jkd l0 = (10, 0)) {fin : Int × jM} (h : f_X10_lasts M l0 l1 l2 l3 = some fin) : Met l yX10_lasts (Cond.code yX10_lasts cX10_lasts 6 (some .long) :: wsL_law) ({ frames := 6, cells := 0, slots := 0, locals := 145 } : Room) (va_Pc [jR G l0, vI l1, vI l2, vI l3] (fun U => jRep G M U)) (jQ G (some (vL fin.1)) fin.2) 0 0 (jA G) := by
  refine Met.ofW (cc := cX10_lasts) (maxL := 6) (ret := (some .long)) (by decide) rfl ?_
  intro p e s m args below meth c s₁ B hml hv
  obtain ⟨rfl, hR0⟩ := hv
  have C : jCx p s m ([jR G l0, vI l1, vI l2, vI l3] : List Value).toArray meth c cX10_lasts 6 RX10 (Cond.code yX10_lasts cX10_lasts 6 (some .long)) (some .long) := ⟨B.exec, B.bytes, hml, findClass_of_methodNamed B.named, atoms_spec B.pre, B.returns, B.notSynchronized⟩
  have hO := hR0.ok
  have hl := lv_entry ([jR G l0, vI l1, vI l2, vI l3]) (n := 6) (Nat.le_of_ble_eq_true rfl)
  rw [lg_entry_eq]
  generalize (lg_sl ([jR G l0, vI l1, vI l2, vI l3]) ++ List.replicate (6 - (lg_sl ([jR G l0, vI l1, vI l2, vI l3])).length) Slot.unset).toArray = ls at hl ⊢
  have hl : lv_has ls 6 [(0, jR G l0), (1, vI l1), (2, vI l2), (3, vI l3)] := hl
  exact w_X10_lasts C (Nat.le_refl _) (Nat.le_refl _) M l0 l1 l2 l3 h0 h hO hl
set_option maxHeartbeats 4000000 in
theorem w_X10_worth {p : Program} {l : Launch} {e : Env} {R : Room} {s : State} {m : MethodId} {args : Array Value} {below : List Frame} {meth : Method} {c : Code} {H : Heap} {locs : List Loc} {ls : Array Slot} {G : jG}  (C : jCx p s m args meth c cX10_worth 8 RX10 (Cond.code yX10_worth cX10_worth 8 (some .long)) (some .long)) (hRf : 6 ≤ R.frames) (hRl : 145 ≤ R.locals)  (M : jM) (l0 l1 l2 l3 : Int) (h0 : jkd l0 = (10, 0)) {fin : Int × jM} (hf : f_X10_worth M l0 l1 l2 l3 = some fin) (hO : jOk G M s H locs) (hl : lv_has ls 8 [(0, jR G l0), (1, vI l1), (2, vI l2), (3, vI l3)]) : W p l e R s m args below meth c H locs 0 0 (MQ below (jQ G (some (vL fin.1)) fin.2) args s 0 0 (jA G)) (F0 m 0 ls []) := by
  unfold f_X10_worth at hf
  refine lv_aload_n C.1 C.2.1 dX10_worth_0 rfl (lv_at hl 0 rfl) ?_
  refine lv_iload_n C.1 C.2.1 dX10_worth_1 rfl (lv_at hl 1 rfl) ?_
  refine lv_iload_n C.1 C.2.1 dX10_worth_2 rfl (lv_at hl 2 rfl) ?_
  obtain ⟨r1, hr1, hf⟩ := bnd_e hf
  refine j_callV C hO (n := 2) (As := [vI l1, vI l2]) (st1 := [vI r1]) (c_X10_canMeet l G M l0 l1 l2 h0 hr1) h0 rfl kC_25_20 kM_25_17 kI_25_18 kS_25_19 kN_1_5 ⟨by decide, by decide, by decide⟩ ⟨Nat.le_trans (by decide) hRf, Nat.le_trans (by decide) hRl⟩ rfl rfl rfl hl.1 rfl (Nat.le_of_ble_eq_true rfl) ⟨Nat.zero_le _, Nat.zero_le _⟩ dX10_worth_3 rfl (fun H locs hO => ?_)
  refine j_if_eq (tgt := 18) C rfl dX10_worth_6 (by decide) (fun c2 => ?_) (fun c2 => ?_)
  · have hf := (if_pos c2).symm.trans hf
    refine j_ldc2 (x := (-9223372036854775808)) C kL_22_23 (by decide) dX10_worth_18 ?_
    have hf := som_e hf
    subst hf
    exact j_lret C hO dX10_worth_21
  · have hf := (if_neg c2).symm.trans hf
    refine lv_iload_n C.1 C.2.1 dX10_worth_9 rfl (lv_at hl 3 rfl) ?_
    refine lv_iconst (v := Int32.ofInt 0) C.1 C.2.1 dX10_worth_10 rfl ?_
    refine lv_iconst (v := Int32.ofInt 1) C.1 C.2.1 dX10_worth_11 rfl ?_
    obtain ⟨r3, hr3, hf⟩ := bnd_e hf
    refine j_callS C hO (n := 3) (As := [vI l3, vI 0, vI 1]) (st1 := [vI r3]) (c_X10_in l G M l3 0 1  hr3) kC_7_1 kM_6_23 kT_7_0 kN_1_5 ⟨by decide, by decide, by decide⟩ ⟨Nat.le_trans (by decide) hRf, Nat.le_trans (by decide) hRl⟩ rfl rfl rfl hl.1 rfl (Nat.le_of_ble_eq_true rfl) ⟨Nat.zero_le _, Nat.zero_le _⟩ dX10_worth_12 rfl (fun H locs hO => ?_)
    refine j_if_ne (tgt := 22) C rfl dX10_worth_15 (by decide) (fun c4 => ?_) (fun c4 => ?_)
    · have hf := (if_neg c4).symm.trans hf
      refine lv_aload_n C.1 C.2.1 dX10_worth_22 rfl (lv_at hl 0 rfl) ?_
      refine lv_iload_n C.1 C.2.1 dX10_worth_23 rfl (lv_at hl 1 rfl) ?_
      refine lv_iload_n C.1 C.2.1 dX10_worth_24 rfl (lv_at hl 2 rfl) ?_
      obtain ⟨r5, hr5, hf⟩ := bnd_e hf
      refine j_callV C hO (n := 2) (As := [vI l1, vI l2]) (st1 := [vL r5.1]) (c_X10_lastsAbove l G M l0 l1 l2 h0 hr5) h0 rfl kC_26_21 kM_26_18 kI_26_19 kS_26_20 kN_1_5 ⟨by decide, by decide, by decide⟩ ⟨Nat.le_trans (by decide) hRf, Nat.le_trans (by decide) hRl⟩ rfl rfl rfl hl.1 rfl (Nat.le_of_ble_eq_true rfl) ⟨Nat.zero_le _, Nat.zero_le _⟩ dX10_worth_25 rfl (fun H locs hO => ?_)
      refine lv_lstore (lv' := [(4, vL r5.1), (0, jR G l0), (1, vI l1), (2, vI l2), (3, vI l3)]) C.1 C.2.1 dX10_worth_28 hl (by decide) rfl (fun ls hl => ?_)
      refine lv_aload_n C.1 C.2.1 dX10_worth_30 rfl (lv_at hl 1 rfl) ?_
      refine lv_iload_n C.1 C.2.1 dX10_worth_31 rfl (lv_at hl 2 rfl) ?_
      refine lv_iconst (v := Int32.ofInt 0) C.1 C.2.1 dX10_worth_32 rfl ?_
      obtain ⟨r6, hr6, hf⟩ := bnd_e hf
      refine j_callV C hO (n := 2) (As := [vI l1, vI 0]) (st1 := [vL r6]) (c_X10_weightsFrom l G r5.2 l0 l1 0 h0 hr6) h0 rfl kC_23_19 kM_23_16 kI_23_17 kS_23_18 kN_1_5 ⟨by decide, by decide, by decide⟩ ⟨Nat.le_trans (by decide) hRf, Nat.le_trans (by decide) hRl⟩ rfl rfl rfl hl.1 rfl (Nat.le_of_ble_eq_true rfl) ⟨Nat.zero_le _, Nat.zero_le _⟩ dX10_worth_33 rfl (fun H locs hO => ?_)
      refine lv_lstore (lv' := [(6, vL r6), (4, vL r5.1), (0, jR G l0), (1, vI l1), (2, vI l2), (3, vI l3)]) C.1 C.2.1 dX10_worth_36 hl (by decide) rfl (fun ls hl => ?_)
      refine lv_aload_n C.1 C.2.1 dX10_worth_38 rfl (lv_at hl 2 rfl) ?_
      refine lv_sipush (v := Int32.ofInt 242) C.1 C.2.1 dX10_worth_39 (by decide) ?_
      refine lv_bipush (v := Int32.ofInt 10) C.1 C.2.1 dX10_worth_42 (by decide) ?_
      obtain ⟨r7, hr7, hf⟩ := bnd_e hf
      refine j_callV C hO (n := 2) (As := [vI 242, vI 10]) (st1 := [vI r7]) (c_X10_tellsOf l G r5.2 l0 242 10 h0 hr7) h0 rfl kC_16_21 kM_16_18 kI_16_19 kS_16_20 kN_1_5 ⟨by decide, by decide, by decide⟩ ⟨Nat.le_trans (by decide) hRf, Nat.le_trans (by decide) hRl⟩ rfl rfl rfl hl.1 rfl (Nat.le_of_ble_eq_true rfl) ⟨Nat.zero_le _, Nat.zero_le _⟩ dX10_worth_44 rfl (fun H locs hO => ?_)
      refine j_i2l C dX10_worth_47 ?_
      refine lv_aload_n C.1 C.2.1 dX10_worth_48 rfl (lv_at hl 2 rfl) ?_
      refine j_get C hO (ci := 10) (k := 13) (v := vL (r5.2 l0 13)) h0 rfl inlX10 (by decide) kF_25_15 rfl rfl dX10_worth_49 ?_
      refine j_lmul C dX10_worth_52 ?_
      refine lv_lload C.1 C.2.1 dX10_worth_53 (lv_at hl 0 rfl) ?_
      refine j_lmul C dX10_worth_55 ?_
      refine lv_aload_n C.1 C.2.1 dX10_worth_56 rfl (lv_at hl 2 rfl) ?_
      refine lv_sipush (v := Int32.ofInt 237) C.1 C.2.1 dX10_worth_57 (by decide) ?_
      refine lv_iconst (v := Int32.ofInt 1) C.1 C.2.1 dX10_worth_60 rfl ?_
      obtain ⟨r8, hr8, hf⟩ := bnd_e hf
      refine j_callV C hO (n := 2) (As := [vI 237, vI 1]) (st1 := [vI r8, vL (((w32 r7) * (r5.2 l0 13)) * r6)]) (c_X10_tellsOf l G r5.2 l0 237 1 h0 hr8) h0 rfl kC_16_21 kM_16_18 kI_16_19 kS_16_20 kN_1_5 ⟨by decide, by decide, by decide⟩ ⟨Nat.le_trans (by decide) hRf, Nat.le_trans (by decide) hRl⟩ rfl rfl rfl hl.1 rfl (Nat.le_of_ble_eq_true rfl) ⟨Nat.zero_le _, Nat.zero_le _⟩ dX10_worth_61 rfl (fun H locs hO => ?_)
      refine j_i2l C dX10_worth_64 ?_
      refine lv_lload C.1 C.2.1 dX10_worth_65 (lv_at hl 1 rfl) ?_
      refine j_lmul C dX10_worth_67 ?_
      refine j_lsub C dX10_worth_68 ?_
      refine lv_aload_n C.1 C.2.1 dX10_worth_69 rfl (lv_at hl 2 rfl) ?_
      refine j_get C hO (ci := 10) (k := 13) (v := vL (r5.2 l0 13)) h0 rfl inlX10 (by decide) kF_25_15 rfl rfl dX10_worth_70 ?_
      refine lv_aload_n C.1 C.2.1 dX10_worth_73 rfl (lv_at hl 2 rfl) ?_
      refine j_get C hO (ci := 10) (k := 14) (v := vL (r5.2 l0 14)) h0 rfl inlX10 (by decide) kF_25_16 rfl rfl dX10_worth_74 ?_
      refine j_ladd C dX10_worth_77 ?_
      refine lv_lload C.1 C.2.1 dX10_worth_78 (lv_at hl 0 rfl) ?_
      refine j_lmul C dX10_worth_80 ?_
      refine lv_iload_n C.1 C.2.1 dX10_worth_81 rfl (lv_at hl 5 rfl) ?_
      obtain ⟨r9, hr9, hf⟩ := bnd_e hf
      refine j_callS C hO (n := 3) (As := [vL ((((w32 r7) * (r5.2 l0 13)) * r6) - ((w32 r8) * r5.1)), vL (((r5.2 l0 13) + (r5.2 l0 14)) * r6), vI l3]) (st1 := [vL r9]) (c_X10_lowest l G r5.2 ((((w32 r7) * (r5.2 l0 13)) * r6) - ((w32 r8) * r5.1)) (((r5.2 l0 13) + (r5.2 l0 14)) * r6) l3  hr9) kC_23_22 kM_23_20 kT_23_21 kN_1_5 ⟨by decide, by decide, by decide⟩ ⟨Nat.le_trans (by decide) hRf, Nat.le_trans (by decide) hRl⟩ rfl rfl rfl hl.1 rfl (Nat.le_of_ble_eq_true rfl) ⟨Nat.zero_le _, Nat.zero_le _⟩ dX10_worth_82 rfl (fun H locs hO => ?_)
      have hf := som_e hf
      subst hf
      exact j_lret C hO dX10_worth_85
    · have hf := (if_pos c4).symm.trans hf
      refine j_ldc2 (x := (-9223372036854775808)) C kL_22_23 (by decide) dX10_worth_18 ?_
      have hf := som_e hf
      subst hf
      exact j_lret C hO dX10_worth_21
set_option maxHeartbeats 1000000 in
theorem c_X10_worth (l : Launch) (G : jG)  (M : jM) (l0 l1 l2 l3 : Int) (h0 : jkd l0 = (10, 0)) {fin : Int × jM} (h : f_X10_worth M l0 l1 l2 l3 = some fin) : Met l yX10_worth (Cond.code yX10_worth cX10_worth 8 (some .long) :: wsL_law) ({ frames := 6, cells := 0, slots := 0, locals := 145 } : Room) (va_Pc [jR G l0, vI l1, vI l2, vI l3] (fun U => jRep G M U)) (jQ G (some (vL fin.1)) fin.2) 0 0 (jA G) := by
  refine Met.ofW (cc := cX10_worth) (maxL := 8) (ret := (some .long)) (by decide) rfl ?_
  intro p e s m args below meth c s₁ B hml hv
  obtain ⟨rfl, hR0⟩ := hv
  have C : jCx p s m ([jR G l0, vI l1, vI l2, vI l3] : List Value).toArray meth c cX10_worth 8 RX10 (Cond.code yX10_worth cX10_worth 8 (some .long)) (some .long) := ⟨B.exec, B.bytes, hml, findClass_of_methodNamed B.named, atoms_spec B.pre, B.returns, B.notSynchronized⟩
  have hO := hR0.ok
  have hl := lv_entry ([jR G l0, vI l1, vI l2, vI l3]) (n := 8) (Nat.le_of_ble_eq_true rfl)
  rw [lg_entry_eq]
  generalize (lg_sl ([jR G l0, vI l1, vI l2, vI l3]) ++ List.replicate (8 - (lg_sl ([jR G l0, vI l1, vI l2, vI l3])).length) Slot.unset).toArray = ls at hl ⊢
  have hl : lv_has ls 8 [(0, jR G l0), (1, vI l1), (2, vI l2), (3, vI l3)] := hl
  exact w_X10_worth C (Nat.le_refl _) (Nat.le_refl _) M l0 l1 l2 l3 h0 h hO hl
set_option maxHeartbeats 4000000 in
theorem w_X10_areSigns_39 {p : Program} {l : Launch} {e : Env} {R : Room} {s : State} {m : MethodId} {args : Array Value} {below : List Frame} {meth : Method} {c : Code} {H : Heap} {locs : List Loc} {ls : Array Slot} {G : jG}  (C : jCx p s m args meth c cX10_areSigns 3 RX10 (Cond.code yX10_areSigns cX10_areSigns 3 (some .boolean)) (some .boolean)) (hRf : 2 ≤ R.frames) (hRl : 42 ≤ R.locals)  (M : jM) (l0 l2 s0 : Int) (h0 : jkd l0 = (10, 0)) {fin : Int} {rr : (Int × Int) ⊕ Int} (hf : f_X10_areSigns_39 M l0 l2 s0 = some rr) (kc : ∀ q : Int × Int, rr = .inl q → ∀ (H : Heap) (locs : List Loc) (ls : Array Slot), jOk G M s H locs → lv_has ls 3 [(0, jR G l0), (1, vI q.1), (2, vI q.2)] → W p l e R s m args below meth c H locs 0 0 (MQ below (jQ G (some (vI fin)) M) args s 0 0 (jA G)) (F0 m 4 ls [])) (kx0 : ∀ q : Int, rr = .inr q → ∀ (H : Heap) (locs : List Loc) (ls : Array Slot), jOk G M s H locs → lv_has ls 3 [(1, vI q)] → W p l e R s m args below meth c H locs 0 0 (MQ below (jQ G (some (vI fin)) M) args s 0 0 (jA G)) (F0 m 46 ls [])) (hO : jOk G M s H locs) (hl : lv_has ls 3 [(0, jR G l0), (2, vI l2)]) : W p l e R s m args below meth c H locs 0 0 (MQ below (jQ G (some (vI fin)) M) args s 0 0 (jA G)) (F0 m 39 ls [vI s0]) := by
  unfold f_X10_areSigns_39 at hf
  refine lv_istore_n (lv' := [(1, vI s0), (0, jR G l0), (2, vI l2)]) C.1 C.2.1 dX10_areSigns_39 rfl hl (by decide) rfl (fun ls hl => ?_)
  refine lv_iinc (v := Int32.ofInt (l2 + 1)) (lv' := [(2, vI (l2 + 1)), (1, vI s0), (0, jR G l0)]) C.1 C.2.1 dX10_areSigns_40 hl (k := 2) rfl (Int32.ofInt_add _ _).symm (by decide) rfl (fun ls hl => ?_)
  refine lv_goto (tgt := 4) C.1 C.2.1 dX10_areSigns_43 (by decide) ?_
  exact kc _ (som_e hf).symm _ _ _ hO (lv_sub hl [2, 1, 0] rfl)
set_option maxHeartbeats 4000000 in
theorem w_X10_areSigns_38 {p : Program} {l : Launch} {e : Env} {R : Room} {s : State} {m : MethodId} {args : Array Value} {below : List Frame} {meth : Method} {c : Code} {H : Heap} {locs : List Loc} {ls : Array Slot} {G : jG}  (C : jCx p s m args meth c cX10_areSigns 3 RX10 (Cond.code yX10_areSigns cX10_areSigns 3 (some .boolean)) (some .boolean)) (hRf : 2 ≤ R.frames) (hRl : 42 ≤ R.locals)  (M : jM) (l0 l2 : Int) (h0 : jkd l0 = (10, 0)) {fin : Int} {rr : (Int × Int) ⊕ Int} (hf : f_X10_areSigns_38 M l0 l2 = some rr) (kc : ∀ q : Int × Int, rr = .inl q → ∀ (H : Heap) (locs : List Loc) (ls : Array Slot), jOk G M s H locs → lv_has ls 3 [(0, jR G l0), (1, vI q.1), (2, vI q.2)] → W p l e R s m args below meth c H locs 0 0 (MQ below (jQ G (some (vI fin)) M) args s 0 0 (jA G)) (F0 m 4 ls [])) (kx0 : ∀ q : Int, rr = .inr q → ∀ (H : Heap) (locs : List Loc) (ls : Array Slot), jOk G M s H locs → lv_has ls 3 [(1, vI q)] → W p l e R s m args below meth c H locs 0 0 (MQ below (jQ G (some (vI fin)) M) args s 0 0 (jA G)) (F0 m 46 ls [])) (hO : jOk G M s H locs) (hl : lv_has ls 3 [(0, jR G l0), (2, vI l2)]) : W p l e R s m args below meth c H locs 0 0 (MQ below (jQ G (some (vI fin)) M) args s 0 0 (jA G)) (F0 m 38 ls []) := by
  unfold f_X10_areSigns_38 at hf
  refine lv_iconst (v := Int32.ofInt 0) C.1 C.2.1 dX10_areSigns_38 rfl ?_
  exact w_X10_areSigns_39 C hRf hRl M l0 l2 0 h0 hf kc kx0 hO (lv_sub hl [0, 1] rfl)
set_option maxHeartbeats 4000000 in
theorem w_X10_areSigns_L4 {p : Program} {l : Launch} {e : Env} {R : Room} {s : State} {m : MethodId} {args : Array Value} {below : List Frame} {meth : Method} {c : Code} {H : Heap} {locs : List Loc} {ls : Array Slot} {G : jG}  (C : jCx p s m args meth c cX10_areSigns 3 RX10 (Cond.code yX10_areSigns cX10_areSigns 3 (some .boolean)) (some .boolean)) (hRf : 2 ≤ R.frames) (hRl : 42 ≤ R.locals)  (M : jM) (l0 : Int) (h0 : jkd l0 = (10, 0)) {fin : Int} (S : Int × Int) {rr : (Int × Int) ⊕ Int} (hf : f_X10_areSigns_L4 M l0 S = some rr) (kc : ∀ q : Int × Int, rr = .inl q → ∀ (H : Heap) (locs : List Loc) (ls : Array Slot), jOk G M s H locs → lv_has ls 3 [(0, jR G l0), (1, vI q.1), (2, vI q.2)] → W p l e R s m args below meth c H locs 0 0 (MQ below (jQ G (some (vI fin)) M) args s 0 0 (jA G)) (F0 m 4 ls [])) (kx0 : ∀ q : Int, rr = .inr q → ∀ (H : Heap) (locs : List Loc) (ls : Array Slot), jOk G M s H locs → lv_has ls 3 [(1, vI q)] → W p l e R s m args below meth c H locs 0 0 (MQ below (jQ G (some (vI fin)) M) args s 0 0 (jA G)) (F0 m 46 ls [])) (hO : jOk G M s H locs) (hl : lv_has ls 3 [(0, jR G l0), (1, vI S.1), (2, vI S.2)]) : W p l e R s m args below meth c H locs 0 0 (MQ below (jQ G (some (vI fin)) M) args s 0 0 (jA G)) (F0 m 4 ls []) := by
  unfold f_X10_areSigns_L4 at hf
  refine lv_iload_n C.1 C.2.1 dX10_areSigns_4 rfl (lv_at hl 2 rfl) ?_
  refine lv_aload_n C.1 C.2.1 dX10_areSigns_5 rfl (lv_at hl 0 rfl) ?_
  refine j_get C hO (ci := 10) (k := 1) (v := jR G (jpt l0 1)) h0 rfl inlX10 (by decide) kF_5_23 rfl rfl dX10_areSigns_6 ?_
  refine lv_iconst (v := Int32.ofInt 4) C.1 C.2.1 dX10_areSigns_9 rfl ?_
  refine j_iald C hO (tp_10_1 h0) (w32_id (by decide) (by decide)) (by decide) (by decide) dX10_areSigns_10 ?_
  refine j_icmp_ge (tgt := 46) C rfl rfl dX10_areSigns_11 (by decide) (fun c1 => ?_) (fun c1 => ?_)
  · have hf := (if_pos c1).symm.trans hf
    exact kx0 _ (som_e hf).symm _ _ _ hO (lv_sub hl [1] rfl)
  · have hf := (if_neg c1).symm.trans hf
    refine lv_iload_n C.1 C.2.1 dX10_areSigns_14 rfl (lv_at hl 1 rfl) ?_
    refine j_if_eq (tgt := 38) C rfl dX10_areSigns_15 (by decide) (fun c2 => ?_) (fun c2 => ?_)
    · have hf := (if_pos c2).symm.trans hf
      exact w_X10_areSigns_38 C hRf hRl M l0 S.2 h0 hf kc kx0 hO (lv_sub hl [0, 2] rfl)
    · have hf := (if_neg c2).symm.trans hf
      refine lv_aload_n C.1 C.2.1 dX10_areSigns_18 rfl (lv_at hl 0 rfl) ?_
      refine j_get C hO (ci := 10) (k := 1) (v := jR G (jpt l0 1)) h0 rfl inlX10 (by decide) kF_5_23 rfl rfl dX10_areSigns_19 ?_
      refine lv_bipush (v := Int32.ofInt 72) C.1 C.2.1 dX10_areSigns_22 (by decide) ?_
      refine lv_iload_n C.1 C.2.1 dX10_areSigns_24 rfl (lv_at hl 2 rfl) ?_
      refine j_iadd C dX10_areSigns_25 ?_
      obtain ⟨g3, hf⟩ := grd_e hf
      refine j_iald C hO (tp_10_1 h0) rfl g3.1 g3.2 dX10_areSigns_26 ?_
      refine lv_aload_n C.1 C.2.1 dX10_areSigns_27 rfl (lv_at hl 0 rfl) ?_
      obtain ⟨r4, hr4, hf⟩ := bnd_e hf
      refine j_callV C hO (n := 0) (As := []) (st1 := [vI r4, vI (M (jpt l0 1) (w32 (72 + S.2)))]) (c_X10_signs l G M l0 h0 hr4) h0 rfl kC_16_17 kM_16_14 kI_16_15 kS_16_16 kN_1_5 ⟨by decide, by decide, by decide⟩ ⟨Nat.le_trans (by decide) hRf, Nat.le_trans (by decide) hRl⟩ rfl rfl rfl hl.1 rfl (Nat.le_of_ble_eq_true rfl) ⟨Nat.zero_le _, Nat.zero_le _⟩ dX10_areSigns_28 rfl (fun H locs hO => ?_)
      refine j_icmp_ge (tgt := 38) C rfl rfl dX10_areSigns_31 (by decide) (fun c5 => ?_) (fun c5 => ?_)
      · have hf := (if_pos c5).symm.trans hf
        exact w_X10_areSigns_38 C hRf hRl M l0 S.2 h0 hf kc kx0 hO (lv_sub hl [0, 2] rfl)
      · have hf := (if_neg c5).symm.trans hf
        refine lv_iconst (v := Int32.ofInt 1) C.1 C.2.1 dX10_areSigns_34 rfl ?_
        refine lv_goto (tgt := 39) C.1 C.2.1 dX10_areSigns_35 (by decide) ?_
        exact w_X10_areSigns_39 C hRf hRl M l0 S.2 1 h0 hf kc kx0 hO (lv_sub hl [0, 2] rfl)
set_option maxHeartbeats 4000000 in
theorem w_X10_areSigns {p : Program} {l : Launch} {e : Env} {R : Room} {s : State} {m : MethodId} {args : Array Value} {below : List Frame} {meth : Method} {c : Code} {H : Heap} {locs : List Loc} {ls : Array Slot} {G : jG}  (C : jCx p s m args meth c cX10_areSigns 3 RX10 (Cond.code yX10_areSigns cX10_areSigns 3 (some .boolean)) (some .boolean)) (hRf : 2 ≤ R.frames) (hRl : 42 ≤ R.locals)  (M : jM) (l0 : Int) (h0 : jkd l0 = (10, 0)) {fin : Int} (hf : f_X10_areSigns M l0 = some fin) (hO : jOk G M s H locs) (hl : lv_has ls 3 [(0, jR G l0)]) : W p l e R s m args below meth c H locs 0 0 (MQ below (jQ G (some (vI fin)) M) args s 0 0 (jA G)) (F0 m 0 ls []) := by
  unfold f_X10_areSigns at hf
  refine lv_iconst (v := Int32.ofInt 1) C.1 C.2.1 dX10_areSigns_0 rfl ?_
  refine lv_istore_n (lv' := [(1, vI 1), (0, jR G l0)]) C.1 C.2.1 dX10_areSigns_1 rfl hl (by decide) rfl (fun ls hl => ?_)
  refine lv_iconst (v := Int32.ofInt 0) C.1 C.2.1 dX10_areSigns_2 rfl ?_
  refine lv_istore_n (lv' := [(2, vI 0), (1, vI 1), (0, jR G l0)]) C.1 C.2.1 dX10_areSigns_3 rfl hl (by decide) rfl (fun ls hl => ?_)
  obtain ⟨x6, hx6, hf⟩ := bnd_e hf
  refine iter_e (P := fun Z => ∀ (H : Heap) (locs : List Loc) (ls : Array Slot), jOk G M s H locs → lv_has ls 3 [(0, jR G l0), (1, vI Z.1), (2, vI Z.2)] → W p l e R s m args below meth c H locs 0 0 (MQ below (jQ G (some (vI fin)) M) args s 0 0 (jA G)) (F0 m 4 ls [])) (E := fun q => ∀ (H : Heap) (locs : List Loc) (ls : Array Slot), jOk G M s H locs → lv_has ls 3 [(1, vI q)] → W p l e R s m args below meth c H locs 0 0 (MQ below (jQ G (some (vI fin)) M) args s 0 0 (jA G)) (F0 m 46 ls [])) (fun Z rr hb kc kx H locs ls hO hl => w_X10_areSigns_L4 C hRf hRl M l0 h0 Z hb kc (fun q e => kx q e) hO hl) 5000 (1, 0) x6 hx6 ?_ _ _ _ hO (lv_sub hl [2, 1, 0] rfl)
  clear hO hl
  intro H locs ls hO hl
  refine lv_iload_n C.1 C.2.1 dX10_areSigns_46 rfl (lv_at hl 0 rfl) ?_
  obtain ⟨g7, hf⟩ := grd_e hf
  have hf := som_e hf
  subst hf
  exact j_zret C hO g7 dX10_areSigns_47
set_option maxHeartbeats 1000000 in
theorem c_X10_areSigns (l : Launch) (G : jG)  (M : jM) (l0 : Int) (h0 : jkd l0 = (10, 0)) {fin : Int} (h : f_X10_areSigns M l0 = some fin) : Met l yX10_areSigns (Cond.code yX10_areSigns cX10_areSigns 3 (some .boolean) :: wsL_law) ({ frames := 2, cells := 0, slots := 0, locals := 42 } : Room) (va_Pc [jR G l0] (fun U => jRep G M U)) (jQ G (some (vI fin)) M) 0 0 (jA G) := by
  refine Met.ofW (cc := cX10_areSigns) (maxL := 3) (ret := (some .boolean)) (by decide) rfl ?_
  intro p e s m args below meth c s₁ B hml hv
  obtain ⟨rfl, hR0⟩ := hv
  have C : jCx p s m ([jR G l0] : List Value).toArray meth c cX10_areSigns 3 RX10 (Cond.code yX10_areSigns cX10_areSigns 3 (some .boolean)) (some .boolean) := ⟨B.exec, B.bytes, hml, findClass_of_methodNamed B.named, atoms_spec B.pre, B.returns, B.notSynchronized⟩
  have hO := hR0.ok
  have hl := lv_entry ([jR G l0]) (n := 3) (Nat.le_of_ble_eq_true rfl)
  rw [lg_entry_eq]
  generalize (lg_sl ([jR G l0]) ++ List.replicate (3 - (lg_sl ([jR G l0])).length) Slot.unset).toArray = ls at hl ⊢
  have hl : lv_has ls 3 [(0, jR G l0)] := hl
  exact w_X10_areSigns C (Nat.le_refl _) (Nat.le_refl _) M l0 h0 h hO hl
