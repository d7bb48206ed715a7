set_option maxHeartbeats 4000000 in
theorem w_X10_ends_50 {p : Program} {l : Launch} {e : Env} {R : Room} {s : State} {m : MethodId} {args : Array Value} {below : List Frame} {meth : Method} {c : Code} {H : Heap} {locs : List Loc} {ls : Array Slot} {G : jG}  (C : jCx p s m args meth c cX10_ends 4 RX10 (Cond.code yX10_ends cX10_ends 4 (some .int)) (some .int)) (hRf : 2 ≤ R.frames) (hRl : 43 ≤ R.locals)  (M : jM) (l0 l1 l3 s0 s1 : Int) (h0 : jkd l0 = (10, 0)) {fin : Int} {rr : (Int × Int) ⊕ Int} (hf : f_X10_ends_50 M l0 l1 l3 s0 s1 = some rr) (kc : ∀ q : Int × Int, rr = .inl q → ∀ (H : Heap) (locs : List Loc) (ls : Array Slot), jOk G M s H locs → lv_has ls 4 [(0, jR G l0), (1, vI l1), (2, vI q.1), (3, vI q.2)] → W p l e R s m args below meth c H locs 0 0 (MQ below (jQ G (some (vI fin)) M) args s 0 0 (jA G)) (F0 m 14 ls [])) (kx0 : ∀ q : Int, rr = .inr q → ∀ (H : Heap) (locs : List Loc) (ls : Array Slot), jOk G M s H locs → lv_has ls 4 [(2, vI q)] → W p l e R s m args below meth c H locs 0 0 (MQ below (jQ G (some (vI fin)) M) args s 0 0 (jA G)) (F0 m 58 ls [])) (hO : jOk G M s H locs) (hl : lv_has ls 4 [(0, jR G l0), (1, vI l1), (3, vI l3)]) : W p l e R s m args below meth c H locs 0 0 (MQ below (jQ G (some (vI fin)) M) args s 0 0 (jA G)) (F0 m 50 ls [vI s1, vI s0]) := by
  unfold f_X10_ends_50 at hf
  refine j_iadd C dX10_ends_50 ?_
  refine lv_istore_n (lv' := [(2, vI (s0 + s1)), (0, jR G l0), (1, vI l1), (3, vI l3)]) C.1 C.2.1 dX10_ends_51 rfl hl (by decide) rfl (fun ls hl => ?_)
  refine lv_iinc (v := Int32.ofInt (l3 + 1)) (lv' := [(3, vI (l3 + 1)), (2, vI (s0 + s1)), (0, jR G l0), (1, vI l1)]) C.1 C.2.1 dX10_ends_52 hl (k := 3) rfl (Int32.ofInt_add _ _).symm (by decide) rfl (fun ls hl => ?_)
  refine lv_goto (tgt := 14) C.1 C.2.1 dX10_ends_55 (by decide) ?_
  exact kc _ (som_e hf).symm _ _ _ hO (lv_sub hl [2, 3, 1, 0] rfl)
set_option maxHeartbeats 4000000 in
theorem w_X10_ends_L14 {p : Program} {l : Launch} {e : Env} {R : Room} {s : State} {m : MethodId} {args : Array Value} {below : List Frame} {meth : Method} {c : Code} {H : Heap} {locs : List Loc} {ls : Array Slot} {G : jG}  (C : jCx p s m args meth c cX10_ends 4 RX10 (Cond.code yX10_ends cX10_ends 4 (some .int)) (some .int)) (hRf : 2 ≤ R.frames) (hRl : 43 ≤ R.locals)  (M : jM) (l0 l1 : Int) (h0 : jkd l0 = (10, 0)) {fin : Int} (S : Int × Int) {rr : (Int × Int) ⊕ Int} (hf : f_X10_ends_L14 M l0 l1 S = some rr) (kc : ∀ q : Int × Int, rr = .inl q → ∀ (H : Heap) (locs : List Loc) (ls : Array Slot), jOk G M s H locs → lv_has ls 4 [(0, jR G l0), (1, vI l1), (2, vI q.1), (3, vI q.2)] → W p l e R s m args below meth c H locs 0 0 (MQ below (jQ G (some (vI fin)) M) args s 0 0 (jA G)) (F0 m 14 ls [])) (kx0 : ∀ q : Int, rr = .inr q → ∀ (H : Heap) (locs : List Loc) (ls : Array Slot), jOk G M s H locs → lv_has ls 4 [(2, vI q)] → W p l e R s m args below meth c H locs 0 0 (MQ below (jQ G (some (vI fin)) M) args s 0 0 (jA G)) (F0 m 58 ls [])) (hO : jOk G M s H locs) (hl : lv_has ls 4 [(0, jR G l0), (1, vI l1), (2, vI S.1), (3, vI S.2)]) : W p l e R s m args below meth c H locs 0 0 (MQ below (jQ G (some (vI fin)) M) args s 0 0 (jA G)) (F0 m 14 ls []) := by
  unfold f_X10_ends_L14 at hf
  refine lv_iload_n C.1 C.2.1 dX10_ends_14 rfl (lv_at hl 3 rfl) ?_
  refine lv_aload_n C.1 C.2.1 dX10_ends_15 rfl (lv_at hl 0 rfl) ?_
  refine j_get C hO (ci := 10) (k := 1) (v := jR G (jpt l0 1)) h0 rfl inlX10 (by decide) kF_5_23 rfl rfl dX10_ends_16 ?_
  refine lv_iconst (v := Int32.ofInt 4) C.1 C.2.1 dX10_ends_19 rfl ?_
  refine j_iald C hO (tp_10_1 h0) (w32_id (by decide) (by decide)) (by decide) (by decide) dX10_ends_20 ?_
  refine j_icmp_gt (tgt := 58) C rfl rfl dX10_ends_21 (by decide) (fun c3 => ?_) (fun c3 => ?_)
  · have hf := (if_pos c3).symm.trans hf
    exact kx0 _ (som_e hf).symm _ _ _ hO (lv_sub hl [2] rfl)
  · have hf := (if_neg c3).symm.trans hf
    refine lv_iload_n C.1 C.2.1 dX10_ends_24 rfl (lv_at hl 2 rfl) ?_
    refine lv_aload_n C.1 C.2.1 dX10_ends_25 rfl (lv_at hl 0 rfl) ?_
    refine lv_bipush (v := Int32.ofInt 72) C.1 C.2.1 dX10_ends_26 (by decide) ?_
    refine lv_iload_n C.1 C.2.1 dX10_ends_28 rfl (lv_at hl 3 rfl) ?_
    refine lv_iload_n C.1 C.2.1 dX10_ends_29 rfl (lv_at hl 1 rfl) ?_
    refine lv_aload_n C.1 C.2.1 dX10_ends_30 rfl (lv_at hl 0 rfl) ?_
    refine j_get C hO (ci := 10) (k := 1) (v := jR G (jpt l0 1)) h0 rfl inlX10 (by decide) kF_5_23 rfl rfl dX10_ends_31 ?_
    refine lv_bipush (v := Int32.ofInt 58) C.1 C.2.1 dX10_ends_34 (by decide) ?_
    refine lv_iload_n C.1 C.2.1 dX10_ends_36 rfl (lv_at hl 1 rfl) ?_
    refine j_iadd C dX10_ends_37 ?_
    obtain ⟨g4, hf⟩ := grd_e hf
    refine j_iald C hO (tp_10_1 h0) rfl g4.1 g4.2 dX10_ends_38 ?_
    obtain ⟨r5, hr5, hf⟩ := bnd_e hf
    refine j_callV C hO (n := 4) (As := [vI 72, vI S.2, vI l1, vI (M (jpt l0 1) (w32 (58 + l1)))]) (st1 := [vI r5, vI S.1]) (c_X10_endsWith l G M l0 72 S.2 l1 (M (jpt l0 1) (w32 (58 + l1))) h0 hr5) h0 rfl kC_23_15 kM_23_12 kI_23_13 kS_23_14 kN_1_5 ⟨by decide, by decide, by decide⟩ ⟨Nat.le_trans (by decide) hRf, Nat.le_trans (by decide) hRl⟩ rfl rfl rfl hl.1 rfl (Nat.le_of_ble_eq_true rfl) ⟨Nat.zero_le _, Nat.zero_le _⟩ dX10_ends_39 rfl (fun H locs hO => ?_)
    refine j_if_eq (tgt := 49) C rfl dX10_ends_42 (by decide) (fun c6 => ?_) (fun c6 => ?_)
    · have hf := (if_pos c6).symm.trans hf
      refine lv_iconst (v := Int32.ofInt 0) C.1 C.2.1 dX10_ends_49 rfl ?_
      exact w_X10_ends_50 C hRf hRl M l0 l1 S.2 S.1 0 h0 hf kc kx0 hO (lv_sub hl [0, 1, 3] rfl)
    · have hf := (if_neg c6).symm.trans hf
      refine lv_iconst (v := Int32.ofInt 1) C.1 C.2.1 dX10_ends_45 rfl ?_
      refine lv_goto (tgt := 50) C.1 C.2.1 dX10_ends_46 (by decide) ?_
      exact w_X10_ends_50 C hRf hRl M l0 l1 S.2 S.1 1 h0 hf kc kx0 hO (lv_sub hl [0, 1, 3] rfl)
set_option maxHeartbeats 4000000 in
theorem w_X10_ends {p : Program} {l : Launch} {e : Env} {R : Room} {s : State} {m : MethodId} {args : Array Value} {below : List Frame} {meth : Method} {c : Code} {H : Heap} {locs : List Loc} {ls : Array Slot} {G : jG}  (C : jCx p s m args meth c cX10_ends 4 RX10 (Cond.code yX10_ends cX10_ends 4 (some .int)) (some .int)) (hRf : 2 ≤ R.frames) (hRl : 43 ≤ R.locals)  (M : jM) (l0 l1 : Int) (h0 : jkd l0 = (10, 0)) {fin : Int} (hf : f_X10_ends M l0 l1 = some fin) (hO : jOk G M s H locs) (hl : lv_has ls 4 [(0, jR G l0), (1, vI l1)]) : W p l e R s m args below meth c H locs 0 0 (MQ below (jQ G (some (vI fin)) M) args s 0 0 (jA G)) (F0 m 0 ls []) := by
  unfold f_X10_ends at hf
  refine lv_aload_n C.1 C.2.1 dX10_ends_0 rfl (lv_at hl 0 rfl) ?_
  refine lv_iload_n C.1 C.2.1 dX10_ends_1 rfl (lv_at hl 1 rfl) ?_
  obtain ⟨r1, hr1, hf⟩ := bnd_e hf
  refine j_callV C hO (n := 1) (As := [vI l1]) (st1 := [vI r1]) (c_X10_isRow l G M l0 l1 h0 hr1) h0 rfl kC_19_14 kM_19_11 kI_19_12 kS_19_13 kN_1_5 ⟨by decide, by decide, by decide⟩ ⟨Nat.le_trans (by decide) hRf, Nat.le_trans (by decide) hRl⟩ rfl rfl rfl hl.1 rfl (Nat.le_of_ble_eq_true rfl) ⟨Nat.zero_le _, Nat.zero_le _⟩ dX10_ends_2 rfl (fun H locs hO => ?_)
  refine j_if_ne (tgt := 10) C rfl dX10_ends_5 (by decide) (fun c2 => ?_) (fun c2 => ?_)
  · have hf := (if_neg c2).symm.trans hf
    refine lv_iconst (v := Int32.ofInt 0) C.1 C.2.1 dX10_ends_10 rfl ?_
    refine lv_istore_n (lv' := [(2, vI 0), (0, jR G l0), (1, vI l1)]) C.1 C.2.1 dX10_ends_11 rfl hl (by decide) rfl (fun ls hl => ?_)
    refine lv_iconst (v := Int32.ofInt 1) C.1 C.2.1 dX10_ends_12 rfl ?_
    refine lv_istore_n (lv' := [(3, vI 1), (2, vI 0), (0, jR G l0), (1, vI l1)]) C.1 C.2.1 dX10_ends_13 rfl hl (by decide) rfl (fun ls hl => ?_)
    obtain ⟨x7, hx7, hf⟩ := bnd_e hf
    refine iter_e (P := fun Z => ∀ (H : Heap) (locs : List Loc) (ls : Array Slot), jOk G M s H locs → lv_has ls 4 [(0, jR G l0), (1, vI l1), (2, vI Z.1), (3, vI Z.2)] → W p l e R s m args below meth c H locs 0 0 (MQ below (jQ G (some (vI fin)) M) args s 0 0 (jA G)) (F0 m 14 ls [])) (E := fun q => ∀ (H : Heap) (locs : List Loc) (ls : Array Slot), jOk G M s H locs → lv_has ls 4 [(2, vI q)] → W p l e R s m args below meth c H locs 0 0 (MQ below (jQ G (some (vI fin)) M) args s 0 0 (jA G)) (F0 m 58 ls [])) (fun Z rr hb kc kx H locs ls hO hl => w_X10_ends_L14 C hRf hRl M l0 l1 h0 Z hb kc (fun q e => kx q e) hO hl) 5000 (0, 1) x7 hx7 ?_ _ _ _ hO (lv_sub hl [2, 3, 1, 0] rfl)
    clear hO hl
    intro H locs ls hO hl
    refine lv_iload_n C.1 C.2.1 dX10_ends_58 rfl (lv_at hl 0 rfl) ?_
    have hf := som_e hf
    subst hf
    exact j_iret C hO dX10_ends_59
  · have hf := (if_pos c2).symm.trans hf
    refine lv_iconst (v := Int32.ofInt (-1)) C.1 C.2.1 dX10_ends_8 rfl ?_
    have hf := som_e hf
    subst hf
    exact j_iret C hO dX10_ends_9
set_option maxHeartbeats 1000000 in
theorem c_X10_ends (l : Launch) (G : jG)  (M : jM) (l0 l1 : Int) (h0 : jkd l0 = (10, 0)) {fin : Int} (h : f_X10_ends M l0 l1 = some fin) : Met l yX10_ends (Cond.code yX10_ends cX10_ends 4 (some .int) :: wsL_law) ({ frames := 2, cells := 0, slots := 0, locals := 43 } : Room) (va_Pc [jR G l0, vI l1] (fun U => jRep G M U)) (jQ G (some (vI fin)) M) 0 0 (jA G) := by
  refine Met.ofW (cc := cX10_ends) (maxL := 4) (ret := (some .int)) (by decide) rfl ?_
  intro p e s m args below meth c s₁ B hml hv
  obtain ⟨rfl, hR0⟩ := hv
  have C : jCx p s m ([jR G l0, vI l1] : List Value).toArray meth c cX10_ends 4 RX10 (Cond.code yX10_ends cX10_ends 4 (some .int)) (some .int) := ⟨B.exec, B.bytes, hml, findClass_of_methodNamed B.named, atoms_spec B.pre, B.returns, B.notSynchronized⟩
  have hO := hR0.ok
  have hl := lv_entry ([jR G l0, vI l1]) (n := 4) (Nat.le_of_ble_eq_true rfl)
  rw [lg_entry_eq]
  generalize (lg_sl ([jR G l0, vI l1]) ++ List.replicate (4 - (lg_sl ([jR G l0, vI l1])).length) Slot.unset).toArray = ls at hl ⊢
  have hl : lv_has ls 4 [(0, jR G l0), (1, vI l1)] := hl
  exact w_X10_ends C (Nat.le_refl _) (Nat.le_refl _) M l0 l1 h0 h hO hl
set_option maxHeartbeats 4000000 in
theorem w_X10_ahead_48 {p : Program} {l : Launch} {e : Env} {R : Room} {s : State} {m : MethodId} {args : Array Value} {below : List Frame} {meth : Method} {c : Code} {H : Heap} {locs : List Loc} {ls : Array Slot} {G : jG}  (C : jCx p s m args meth c cX10_ahead 4 RX10 (Cond.code yX10_ahead cX10_ahead 4 (some .int)) (some .int)) (hRf : 2 ≤ R.frames) (hRl : 48 ≤ R.locals)  (M : jM) (l0 l2 s0 : Int) (h0 : jkd l0 = (10, 0)) {fin : Int} {rr : (Int × Int) ⊕ Int} (hf : f_X10_ahead_48 M l0 l2 s0 = some rr) (kc : ∀ q : Int × Int, rr = .inl q → ∀ (H : Heap) (locs : List Loc) (ls : Array Slot), jOk G M s H locs → lv_has ls 4 [(0, jR G l0), (1, vI q.1), (2, vI q.2)] → W p l e R s m args below meth c H locs 0 0 (MQ below (jQ G (some (vI fin)) M) args s 0 0 (jA G)) (F0 m 12 ls [])) (kx0 : ∀ q : Int, rr = .inr q → ∀ (H : Heap) (locs : List Loc) (ls : Array Slot), jOk G M s H locs → lv_has ls 4 [(1, vI q)] → W p l e R s m args below meth c H locs 0 0 (MQ below (jQ G (some (vI fin)) M) args s 0 0 (jA G)) (F0 m 55 ls [])) (hO : jOk G M s H locs) (hl : lv_has ls 4 [(0, jR G l0), (2, vI l2)]) : W p l e R s m args below meth c H locs 0 0 (MQ below (jQ G (some (vI fin)) M) args s 0 0 (jA G)) (F0 m 48 ls [vI s0]) := by
  unfold f_X10_ahead_48 at hf
  refine lv_istore_n (lv' := [(1, vI s0), (0, jR G l0), (2, vI l2)]) C.1 C.2.1 dX10_ahead_48 rfl hl (by decide) rfl (fun ls hl => ?_)
  refine lv_iinc (v := Int32.ofInt (l2 + (-1))) (lv' := [(2, vI (l2 + (-1))), (1, vI s0), (0, jR G l0)]) C.1 C.2.1 dX10_ahead_49 hl (k := 2) rfl (Int32.ofInt_add _ _).symm (by decide) rfl (fun ls hl => ?_)
  refine lv_goto (tgt := 12) C.1 C.2.1 dX10_ahead_52 (by decide) ?_
  exact kc _ (som_e hf).symm _ _ _ hO (lv_sub hl [2, 1, 0] rfl)
set_option maxHeartbeats 4000000 in
theorem w_X10_ahead_47 {p : Program} {l : Launch} {e : Env} {R : Room} {s : State} {m : MethodId} {args : Array Value} {below : List Frame} {meth : Method} {c : Code} {H : Heap} {locs : List Loc} {ls : Array Slot} {G : jG}  (C : jCx p s m args meth c cX10_ahead 4 RX10 (Cond.code yX10_ahead cX10_ahead 4 (some .int)) (some .int)) (hRf : 2 ≤ R.frames) (hRl : 48 ≤ R.locals)  (M : jM) (l0 l1 l2 : Int) (h0 : jkd l0 = (10, 0)) {fin : Int} {rr : (Int × Int) ⊕ Int} (hf : f_X10_ahead_47 M l0 l1 l2 = some rr) (kc : ∀ q : Int × Int, rr = .inl q → ∀ (H : Heap) (locs : List Loc) (ls : Array Slot), jOk G M s H locs → lv_has ls 4 [(0, jR G l0), (1, vI q.1), (2, vI q.2)] → W p l e R s m args below meth c H locs 0 0 (MQ below (jQ G (some (vI fin)) M) args s 0 0 (jA G)) (F0 m 12 ls [])) (kx0 : ∀ q : Int, rr = .inr q → ∀ (H : Heap) (locs : List Loc) (ls : Array Slot), jOk G M s H locs → lv_has ls 4 [(1, vI q)] → W p l e R s m args below meth c H locs 0 0 (MQ below (jQ G (some (vI fin)) M) args s 0 0 (jA G)) (F0 m 55 ls [])) (hO : jOk G M s H locs) (hl : lv_has ls 4 [(0, jR G l0), (1, vI l1), (2, vI l2)]) : W p l e R s m args below meth c H locs 0 0 (MQ below (jQ G (some (vI fin)) M) args s 0 0 (jA G)) (F0 m 47 ls []) := by
  unfold f_X10_ahead_47 at hf
  refine lv_iload_n C.1 C.2.1 dX10_ahead_47 rfl (lv_at hl 1 rfl) ?_
  exact w_X10_ahead_48 C hRf hRl M l0 l2 l1 h0 hf kc kx0 hO (lv_sub hl [0, 2] rfl)
set_option maxHeartbeats 4000000 in
theorem w_X10_ahead_43 {p : Program} {l : Launch} {e : Env} {R : Room} {s : State} {m : MethodId} {args : Array Value} {below : List Frame} {meth : Method} {c : Code} {H : Heap} {locs : List Loc} {ls : Array Slot} {G : jG}  (C : jCx p s m args meth c cX10_ahead 4 RX10 (Cond.code yX10_ahead cX10_ahead 4 (some .int)) (some .int)) (hRf : 2 ≤ R.frames) (hRl : 48 ≤ R.locals)  (M : jM) (l0 l2 : Int) (h0 : jkd l0 = (10, 0)) {fin : Int} {rr : (Int × Int) ⊕ Int} (hf : f_X10_ahead_43 M l0 l2 = some rr) (kc : ∀ q : Int × Int, rr = .inl q → ∀ (H : Heap) (locs : List Loc) (ls : Array Slot), jOk G M s H locs → lv_has ls 4 [(0, jR G l0), (1, vI q.1), (2, vI q.2)] → W p l e R s m args below meth c H locs 0 0 (MQ below (jQ G (some (vI fin)) M) args s 0 0 (jA G)) (F0 m 12 ls [])) (kx0 : ∀ q : Int, rr = .inr q → ∀ (H : Heap) (locs : List Loc) (ls : Array Slot), jOk G M s H locs → lv_has ls 4 [(1, vI q)] → W p l e R s m args below meth c H locs 0 0 (MQ below (jQ G (some (vI fin)) M) args s 0 0 (jA G)) (F0 m 55 ls [])) (hO : jOk G M s H locs) (hl : lv_has ls 4 [(0, jR G l0), (2, vI l2)]) : W p l e R s m args below meth c H locs 0 0 (MQ below (jQ G (some (vI fin)) M) args s 0 0 (jA G)) (F0 m 43 ls []) := by
  unfold f_X10_ahead_43 at hf
  refine lv_iload_n C.1 C.2.1 dX10_ahead_43 rfl (lv_at hl 1 rfl) ?_
  refine lv_goto (tgt := 48) C.1 C.2.1 dX10_ahead_44 (by decide) ?_
  exact w_X10_ahead_48 C hRf hRl M l0 l2 l2 h0 hf kc kx0 hO (lv_sub hl [0, 1] rfl)
set_option maxHeartbeats 4000000 in
theorem w_X10_ahead_L12 {p : Program} {l : Launch} {e : Env} {R : Room} {s : State} {m : MethodId} {args : Array Value} {below : List Frame} {meth : Method} {c : Code} {H : Heap} {locs : List Loc} {ls : Array Slot} {G : jG}  (C : jCx p s m args meth c cX10_ahead 4 RX10 (Cond.code yX10_ahead cX10_ahead 4 (some .int)) (some .int)) (hRf : 2 ≤ R.frames) (hRl : 48 ≤ R.locals)  (M : jM) (l0 : Int) (h0 : jkd l0 = (10, 0)) {fin : Int} (S : Int × Int) {rr : (Int × Int) ⊕ Int} (hf : f_X10_ahead_L12 M l0 S = some rr) (kc : ∀ q : Int × Int, rr = .inl q → ∀ (H : Heap) (locs : List Loc) (ls : Array Slot), jOk G M s H locs → lv_has ls 4 [(0, jR G l0), (1, vI q.1), (2, vI q.2)] → W p l e R s m args below meth c H locs 0 0 (MQ below (jQ G (some (vI fin)) M) args s 0 0 (jA G)) (F0 m 12 ls [])) (kx0 : ∀ q : Int, rr = .inr q → ∀ (H : Heap) (locs : List Loc) (ls : Array Slot), jOk G M s H locs → lv_has ls 4 [(1, vI q)] → W p l e R s m args below meth c H locs 0 0 (MQ below (jQ G (some (vI fin)) M) args s 0 0 (jA G)) (F0 m 55 ls [])) (hO : jOk G M s H locs) (hl : lv_has ls 4 [(0, jR G l0), (1, vI S.1), (2, vI S.2)]) : W p l e R s m args below meth c H locs 0 0 (MQ below (jQ G (some (vI fin)) M) args s 0 0 (jA G)) (F0 m 12 ls []) := by
  unfold f_X10_ahead_L12 at hf
  refine lv_iload_n C.1 C.2.1 dX10_ahead_12 rfl (lv_at hl 2 rfl) ?_
  refine j_if_lt (tgt := 55) C rfl dX10_ahead_13 (by decide) (fun c1 => ?_) (fun c1 => ?_)
  · have hf := (if_pos c1).symm.trans hf
    exact kx0 _ (som_e hf).symm _ _ _ hO (lv_sub hl [1] rfl)
  · have hf := (if_neg c1).symm.trans hf
    refine lv_aload_n C.1 C.2.1 dX10_ahead_16 rfl (lv_at hl 0 rfl) ?_
    refine lv_iload_n C.1 C.2.1 dX10_ahead_17 rfl (lv_at hl 2 rfl) ?_
    obtain ⟨r2, hr2, hf⟩ := bnd_e hf
    refine j_callV C hO (n := 1) (As := [vI S.2]) (st1 := [vI r2]) (c_X10_cameBehind l G M l0 S.2 h0 hr2) h0 rfl kC_38_22 kM_38_19 kI_38_20 kS_38_21 kN_1_5 ⟨by decide, by decide, by decide⟩ ⟨Nat.le_trans (by decide) hRf, Nat.le_trans (by decide) hRl⟩ rfl rfl rfl hl.1 rfl (Nat.le_of_ble_eq_true rfl) ⟨Nat.zero_le _, Nat.zero_le _⟩ dX10_ahead_18 rfl (fun H locs hO => ?_)
    refine lv_istore_n (lv' := [(3, vI r2), (0, jR G l0), (1, vI S.1), (2, vI S.2)]) C.1 C.2.1 dX10_ahead_21 rfl hl (by decide) rfl (fun ls hl => ?_)
    refine lv_iload_n C.1 C.2.1 dX10_ahead_22 rfl (lv_at hl 0 rfl) ?_
    refine lv_bipush (v := Int32.ofInt (-5)) C.1 C.2.1 dX10_ahead_23 (by decide) ?_
    refine j_icmp_eq (tgt := 47) C rfl (w32_id (by decide) (by decide)) dX10_ahead_25 (by decide) (fun c3 => ?_) (fun c3 => ?_)
    · have hf := (if_pos c3).symm.trans hf
      exact w_X10_ahead_47 C hRf hRl M l0 S.1 S.2 h0 hf kc kx0 hO (lv_sub hl [1, 2, 3] rfl)
    · have hf := (if_neg c3).symm.trans hf
      refine lv_iload_n C.1 C.2.1 dX10_ahead_28 rfl (lv_at hl 2 rfl) ?_
      refine lv_bipush (v := Int32.ofInt (-5)) C.1 C.2.1 dX10_ahead_29 (by decide) ?_
      refine j_icmp_eq (tgt := 43) C rfl (w32_id (by decide) (by decide)) dX10_ahead_31 (by decide) (fun c4 => ?_) (fun c4 => ?_)
      · have hf := (if_pos c4).symm.trans hf
        exact w_X10_ahead_43 C hRf hRl M l0 S.2 h0 hf kc kx0 hO (lv_sub hl [1, 3] rfl)
      · have hf := (if_neg c4).symm.trans hf
        refine lv_iload_n C.1 C.2.1 dX10_ahead_34 rfl (lv_at hl 0 rfl) ?_
        refine lv_aload_n C.1 C.2.1 dX10_ahead_35 rfl (lv_at hl 1 rfl) ?_
        refine lv_iload_n C.1 C.2.1 dX10_ahead_36 rfl (lv_at hl 2 rfl) ?_
        obtain ⟨r5, hr5, hf⟩ := bnd_e hf
        refine j_callV C hO (n := 1) (As := [vI S.1]) (st1 := [vI r5, vI r2]) (c_X10_cameBehind l G M l0 S.1 h0 hr5) h0 rfl kC_38_22 kM_38_19 kI_38_20 kS_38_21 kN_1_5 ⟨by decide, by decide, by decide⟩ ⟨Nat.le_trans (by decide) hRf, Nat.le_trans (by decide) hRl⟩ rfl rfl rfl hl.1 rfl (Nat.le_of_ble_eq_true rfl) ⟨Nat.zero_le _, Nat.zero_le _⟩ dX10_ahead_37 rfl (fun H locs hO => ?_)
        refine j_icmp_gt (tgt := 47) C rfl rfl dX10_ahead_40 (by decide) (fun c6 => ?_) (fun c6 => ?_)
        · have hf := (if_pos c6).symm.trans hf
          exact w_X10_ahead_47 C hRf hRl M l0 S.1 S.2 h0 hf kc kx0 hO (lv_sub hl [1, 2, 3] rfl)
        · have hf := (if_neg c6).symm.trans hf
          exact w_X10_ahead_43 C hRf hRl M l0 S.2 h0 hf kc kx0 hO (lv_sub hl [1, 3] rfl)
set_option maxHeartbeats 4000000 in
theorem w_X10_ahead {p : Program} {l : Launch} {e : Env} {R : Room} {s : State} {m : MethodId} {args : Array Value} {below : List Frame} {meth : Method} {c : Code} {H : Heap} {locs : List Loc} {ls : Array Slot} {G : jG}  (C : jCx p s m args meth c cX10_ahead 4 RX10 (Cond.code yX10_ahead cX10_ahead 4 (some .int)) (some .int)) (hRf : 2 ≤ R.frames) (hRl : 48 ≤ R.locals)  (M : jM) (l0 : Int) (h0 : jkd l0 = (10, 0)) {fin : Int} (hf : f_X10_ahead M l0 = some fin) (hO : jOk G M s H locs) (hl : lv_has ls 4 [(0, jR G l0)]) : W p l e R s m args below meth c H locs 0 0 (MQ below (jQ G (some (vI fin)) M) args s 0 0 (jA G)) (F0 m 0 ls []) := by
  unfold f_X10_ahead at hf
  refine lv_bipush (v := Int32.ofInt (-5)) C.1 C.2.1 dX10_ahead_0 (by decide) ?_
  refine lv_istore_n (lv' := [(1, vI (-5)), (0, jR G l0)]) C.1 C.2.1 dX10_ahead_2 rfl hl (by decide) rfl (fun ls hl => ?_)
  refine lv_aload_n C.1 C.2.1 dX10_ahead_3 rfl (lv_at hl 1 rfl) ?_
  refine j_get C hO (ci := 10) (k := 1) (v := jR G (jpt l0 1)) h0 rfl inlX10 (by decide) kF_5_23 rfl rfl dX10_ahead_4 ?_
  refine lv_iconst (v := Int32.ofInt 0) C.1 C.2.1 dX10_ahead_7 rfl ?_
  refine j_iald C hO (tp_10_1 h0) (w32_id (by decide) (by decide)) (by decide) (by decide) dX10_ahead_8 ?_
  refine lv_iconst (v := Int32.ofInt 1) C.1 C.2.1 dX10_ahead_9 rfl ?_
  refine j_isub C dX10_ahead_10 ?_
  refine lv_istore_n (lv' := [(2, vI ((M (jpt l0 1) 0) - 1)), (1, vI (-5)), (0, jR G l0)]) C.1 C.2.1 dX10_ahead_11 rfl hl (by decide) rfl (fun ls hl => ?_)
  obtain ⟨x7, hx7, hf⟩ := bnd_e hf
  refine iter_e (P := fun Z => ∀ (H : Heap) (locs : List Loc) (ls : Array Slot), jOk G M s H locs → lv_has ls 4 [(0, jR G l0), (1, vI Z.1), (2, vI Z.2)] → W p l e R s m args below meth c H locs 0 0 (MQ below (jQ G (some (vI fin)) M) args s 0 0 (jA G)) (F0 m 12 ls [])) (E := fun q => ∀ (H : Heap) (locs : List Loc) (ls : Array Slot), jOk G M s H locs → lv_has ls 4 [(1, vI q)] → W p l e R s m args below meth c H locs 0 0 (MQ below (jQ G (some (vI fin)) M) args s 0 0 (jA G)) (F0 m 55 ls [])) (fun Z rr hb kc kx H locs ls hO hl => w_X10_ahead_L12 C hRf hRl M l0 h0 Z hb kc (fun q e => kx q e) hO hl) 5000 ((-5), (M (jpt l0 1) 0) - 1) x7 hx7 ?_ _ _ _ hO (lv_sub hl [2, 1, 0] rfl)
  clear hO hl
  intro H locs ls hO hl
  refine lv_iload_n C.1 C.2.1 dX10_ahead_55 rfl (lv_at hl 0 rfl) ?_
  have hf := som_e hf
  subst hf
  exact j_iret C hO dX10_ahead_56
set_option maxHeartbeats 1000000 in
theorem c_X10_ahead (l : Launch) (G : jG)  (M : jM) (l0 : Int) (h0 : jkd l0 = (10, 0)) {fin : Int} (h : f_X10_ahead M l0 = some fin) : Met l yX10_ahead (Cond.code yX10_ahead cX10_ahead 4 (some .int) :: wsL_law) ({ frames := 2, cells := 0, slots := 0, locals := 48 } : Room) (va_Pc [jR G l0] (fun U => jRep G M U)) (jQ G (some (vI fin)) M) 0 0 (jA G) := by
  refine Met.ofW (cc := cX10_ahead) (maxL := 4) (ret := (some .int)) (by decide) rfl ?_
  intro p e s m args below meth c s₁ B hml hv
  obtain ⟨rfl, hR0⟩ := hv
  have C : jCx p s m ([jR G l0] : List Value).toArray meth c cX10_ahead 4 RX10 (Cond.code yX10_ahead cX10_ahead 4 (some .int)) (some .int) := ⟨B.exec, B.bytes, hml, findClass_of_methodNamed B.named, atoms_spec B.pre, B.returns, B.notSynchronized⟩
  have hO := hR0.ok
  have hl := lv_entry ([jR G l0]) (n := 4) (Nat.le_of_ble_eq_true rfl)
  rw [lg_entry_eq]
  generalize (lg_sl ([jR G l0]) ++ List.replicate (4 - (lg_sl ([jR G l0])).length) Slot.unset).toArray = ls at hl ⊢
  have hl : lv_has ls 4 [(0, jR G l0)] := hl
  exact w_X10_ahead C (Nat.le_refl _) (Nat.le_refl _) M l0 h0 h hO hl
set_option maxHeartbeats 4000000 in
theorem w_X10_ranBody_19 {p : Program} {l : Launch} {e : Env} {R : Room} {s : State} {m : MethodId} {args : Array Value} {below : List Frame} {meth : Method} {c : Code} {H : Heap} {locs : List Loc} {ls : Array Slot} {G : jG}  (C : jCx p s m args meth c cX10_ranBody 2 RX10 (Cond.code yX10_ranBody cX10_ranBody 2 none) none) (hRf : 0 ≤ R.frames) (hRl : 0 ≤ R.locals)  (M : jM) (l0 : Int) (h0 : jkd l0 = (10, 0)) {fin : jM} (hf : f_X10_ranBody_19 M l0 = some fin) (hO : jOk G M s H locs) (hl : lv_has ls 2 [(0, jR G l0)]) : W p l e R s m args below meth c H locs 0 0 (MQ below (jQ G none fin) args s 0 0 (jA G)) (F0 m 19 ls []) := by
  unfold f_X10_ranBody_19 at hf
  refine lv_aload_n C.1 C.2.1 dX10_ranBody_19 rfl (lv_at hl 0 rfl) ?_
  refine lv_dup C.1 C.2.1 dX10_ranBody_20 rfl ?_
  refine j_get C hO (ci := 10) (k := 19) (v := vI (M l0 19)) h0 rfl inlX10 (by decide) kF_41_6 rfl rfl dX10_ranBody_21 ?_
  refine lv_iconst (v := Int32.ofInt 1) C.1 C.2.1 dX10_ranBody_24 rfl ?_
  refine j_iadd C dX10_ranBody_25 ?_
  obtain ⟨M2, hM2, hf⟩ := lt1_e hf
  refine j_put C hO (ci := 10) (k := 19) (x := (M l0 19) + 1) h0 rfl inlX10 tyX10_ok nmX10 (by decide) kF_41_6 rfl rfl rfl rfl (by simp [jfl]) (fs_10_19) dX10_ranBody_26 (fun H locs hO => ?_)
  rw [← hM2] at hO
  have hf := som_e hf
  subst hf
  exact j_vret C hO dX10_ranBody_29
set_option maxHeartbeats 4000000 in
theorem w_X10_ranBody {p : Program} {l : Launch} {e : Env} {R : Room} {s : State} {m : MethodId} {args : Array Value} {below : List Frame} {meth : Method} {c : Code} {H : Heap} {locs : List Loc} {ls : Array Slot} {G : jG}  (C : jCx p s m args meth c cX10_ranBody 2 RX10 (Cond.code yX10_ranBody cX10_ranBody 2 none) none) (hRf : 0 ≤ R.frames) (hRl : 0 ≤ R.locals)  (M : jM) (l0 l1 : Int) (h0 : jkd l0 = (10, 0)) {fin : jM} (hf : f_X10_ranBody M l0 l1 = some fin) (hO : jOk G M s H locs) (hl : lv_has ls 2 [(0, jR G l0), (1, vI l1)]) : W p l e R s m args below meth c H locs 0 0 (MQ below (jQ G none fin) args s 0 0 (jA G)) (F0 m 0 ls []) := by
  unfold f_X10_ranBody at hf
  refine lv_aload_n C.1 C.2.1 dX10_ranBody_0 rfl (lv_at hl 0 rfl) ?_
  refine j_get C hO (ci := 10) (k := 19) (v := vI (M l0 19)) h0 rfl inlX10 (by decide) kF_41_6 rfl rfl dX10_ranBody_1 ?_
  refine lv_bipush (v := Int32.ofInt 20) C.1 C.2.1 dX10_ranBody_4 (by decide) ?_
  refine j_icmp_ge (tgt := 19) C rfl (w32_id (by decide) (by decide)) dX10_ranBody_6 (by decide) (fun c1 => ?_) (fun c1 => ?_)
  · have hf := (if_pos c1).symm.trans hf
    exact w_X10_ranBody_19 C hRf hRl M l0 h0 hf hO (lv_sub hl [0] rfl)
  · have hf := (if_neg c1).symm.trans hf
    refine lv_aload_n C.1 C.2.1 dX10_ranBody_9 rfl (lv_at hl 0 rfl) ?_
    refine j_get C hO (ci := 10) (k := 18) (v := jR G (jpt l0 18)) h0 rfl inlX10 (by decide) kF_6_8 rfl rfl dX10_ranBody_10 ?_
    refine lv_aload_n C.1 C.2.1 dX10_ranBody_13 rfl (lv_at hl 0 rfl) ?_
    refine j_get C hO (ci := 10) (k := 19) (v := vI (M l0 19)) h0 rfl inlX10 (by decide) kF_41_6 rfl rfl dX10_ranBody_14 ?_
    refine lv_iload_n C.1 C.2.1 dX10_ranBody_17 rfl (lv_at hl 1 rfl) ?_
    obtain ⟨g3, hf⟩ := grd_e hf
    obtain ⟨M4, hM4, hf⟩ := lt1_e hf
    refine j_iast C hO (x := l1) (tp_10_18 h0) rfl g3.1 g3.2 dX10_ranBody_18 (fun H locs hO => ?_)
    rw [← hM4] at hO
    exact w_X10_ranBody_19 C hRf hRl M4 l0 h0 hf hO (lv_sub hl [0] rfl)
set_option maxHeartbeats 1000000 in
theorem c_X10_ranBody (l : Launch) (G : jG)  (M : jM) (l0 l1 : Int) (h0 : jkd l0 = (10, 0)) {fin : jM} (h : f_X10_ranBody M l0 l1 = some fin) : Met l yX10_ranBody (Cond.code yX10_ranBody cX10_ranBody 2 none :: wsL_law) ({ frames := 0, cells := 0, slots := 0, locals := 0 } : Room) (va_Pc [jR G l0, vI l1] (fun U => jRep G M U)) (jQ G none fin) 0 0 (jA G) := by
  refine Met.ofW (cc := cX10_ranBody) (maxL := 2) (ret := none) (by decide) rfl ?_
  intro p e s m args below meth c s₁ B hml hv
  obtain ⟨rfl, hR0⟩ := hv
  have C : jCx p s m ([jR G l0, vI l1] : List Value).toArray meth c cX10_ranBody 2 RX10 (Cond.code yX10_ranBody cX10_ranBody 2 none) none := ⟨B.exec, B.bytes, hml, findClass_of_methodNamed B.named, atoms_spec B.pre, B.returns, B.notSynchronized⟩
  have hO := hR0.ok
  have hl := lv_entry ([jR G l0, vI l1]) (n := 2) (Nat.le_of_ble_eq_true rfl)
  rw [lg_entry_eq]
  generalize (lg_sl ([jR G l0, vI l1]) ++ List.replicate (2 - (lg_sl ([jR G l0, vI l1])).length) Slot.unset).toArray = ls at hl ⊢
  have hl : lv_has ls 2 [(0, jR G l0), (1, vI l1)] := hl
  exact w_X10_ranBody C (Nat.le_refl _) (Nat.le_refl _) M l0 l1 h0 h hO hl
set_option maxHeartbeats 4000000 in
theorem w_X10_isUnder_25 {p : Program} {l : Launch} {e : Env} {R : Room} {s : State} {m : MethodId} {args : Array Value} {below : List Frame} {meth : Method} {c : Code} {H : Heap} {locs : List Loc} {ls : Array Slot} {G : jG}  (C : jCx p s m args meth c cX10_isUnder 2 RX10 (Cond.code yX10_isUnder cX10_isUnder 2 (some .boolean)) (some .boolean)) (hRf : 0 ≤ R.frames) (hRl : 0 ≤ R.locals)  (M : jM) {fin : Int} (hf : f_X10_isUnder_25 M  = some fin) (hO : jOk G M s H locs) (hl : lv_has ls 2 []) : W p l e R s m args below meth c H locs 0 0 (MQ below (jQ G (some (vI fin)) M) args s 0 0 (jA G)) (F0 m 25 ls []) := by
  unfold f_X10_isUnder_25 at hf
  refine lv_iconst (v := Int32.ofInt 1) C.1 C.2.1 dX10_isUnder_25 rfl ?_
  refine lv_goto (tgt := 30) C.1 C.2.1 dX10_isUnder_26 (by decide) ?_
  have hf := som_e hf
  subst hf
  exact j_zret C hO (Or.inr rfl) dX10_isUnder_30
set_option maxHeartbeats 4000000 in
theorem w_X10_isUnder {p : Program} {l : Launch} {e : Env} {R : Room} {s : State} {m : MethodId} {args : Array Value} {below : List Frame} {meth : Method} {c : Code} {H : Heap} {locs : List Loc} {ls : Array Slot} {G : jG}  (C : jCx p s m args meth c cX10_isUnder 2 RX10 (Cond.code yX10_isUnder cX10_isUnder 2 (some .boolean)) (some .boolean)) (hRf : 0 ≤ R.frames) (hRl : 0 ≤ R.locals)  (M : jM) (l0 l1 : Int) {fin : Int} (hf : f_X10_isUnder M l0 l1 = some fin) (hO : jOk G M s H locs) (hl : lv_has ls 2 [(0, vI l0), (1, vI l1)]) : W p l e R s m args below meth c H locs 0 0 (MQ below (jQ G (some (vI fin)) M) args s 0 0 (jA G)) (F0 m 0 ls []) := by
  unfold f_X10_isUnder at hf
  refine lv_iload_n C.1 C.2.1 dX10_isUnder_0 rfl (lv_at hl 1 rfl) ?_
  refine j_if_eq (tgt := 25) C rfl dX10_isUnder_1 (by decide) (fun c1 => ?_) (fun c1 => ?_)
  · have hf := (if_pos c1).symm.trans hf
    exact w_X10_isUnder_25 C hRf hRl M   hf hO (lv_sub hl [] rfl)
  · have hf := (if_neg c1).symm.trans hf
    refine lv_iload_n C.1 C.2.1 dX10_isUnder_4 rfl (lv_at hl 1 rfl) ?_
    refine lv_iload_n C.1 C.2.1 dX10_isUnder_5 rfl (lv_at hl 0 rfl) ?_
    refine j_icmp_eq (tgt := 25) C rfl rfl dX10_isUnder_6 (by decide) (fun c2 => ?_) (fun c2 => ?_)
    · have hf := (if_pos c2).symm.trans hf
      exact w_X10_isUnder_25 C hRf hRl M   hf hO (lv_sub hl [] rfl)
    · have hf := (if_neg c2).symm.trans hf
      refine lv_iload_n C.1 C.2.1 dX10_isUnder_9 rfl (lv_at hl 1 rfl) ?_
      refine j_if_le (tgt := 29) C rfl dX10_isUnder_10 (by decide) (fun c3 => ?_) (fun c3 => ?_)
      · have hf := (if_pos c3).symm.trans hf
        refine lv_iconst (v := Int32.ofInt 0) C.1 C.2.1 dX10_isUnder_29 rfl ?_
        have hf := som_e hf
        subst hf
        exact j_zret C hO (Or.inl rfl) dX10_isUnder_30
      · have hf := (if_neg c3).symm.trans hf
        refine lv_iload_n C.1 C.2.1 dX10_isUnder_13 rfl (lv_at hl 1 rfl) ?_
        refine lv_iconst (v := Int32.ofInt 4) C.1 C.2.1 dX10_isUnder_14 rfl ?_
        refine j_icmp_ge (tgt := 29) C rfl (w32_id (by decide) (by decide)) dX10_isUnder_15 (by decide) (fun c4 => ?_) (fun c4 => ?_)
        · have hf := (if_pos c4).symm.trans hf
          refine lv_iconst (v := Int32.ofInt 0) C.1 C.2.1 dX10_isUnder_29 rfl ?_
          have hf := som_e hf
          subst hf
          exact j_zret C hO (Or.inl rfl) dX10_isUnder_30
        · have hf := (if_neg c4).symm.trans hf
          refine lv_iload_n C.1 C.2.1 dX10_isUnder_18 rfl (lv_at hl 0 rfl) ?_
          refine lv_iload_n C.1 C.2.1 dX10_isUnder_19 rfl (lv_at hl 1 rfl) ?_
          refine lv_iconst (v := Int32.ofInt 3) C.1 C.2.1 dX10_isUnder_20 rfl ?_
          refine j_iadd C dX10_isUnder_21 ?_
          refine j_icmp_ne (tgt := 29) C rfl rfl dX10_isUnder_22 (by decide) (fun c5 => ?_) (fun c5 => ?_)
          · have hf := (if_neg c5).symm.trans hf
            refine lv_iconst (v := Int32.ofInt 0) C.1 C.2.1 dX10_isUnder_29 rfl ?_
            have hf := som_e hf
            subst hf
            exact j_zret C hO (Or.inl rfl) dX10_isUnder_30
          · have hf := (if_pos c5).symm.trans hf
            exact w_X10_isUnder_25 C hRf hRl M   hf hO (lv_sub hl [] rfl)
set_option maxHeartbeats 1000000 in
theorem c_X10_isUnder (l : Launch) (G : jG)  (M : jM) (l0 l1 : Int) {fin : Int} (h : f_X10_isUnder M l0 l1 = some fin) : Met l yX10_isUnder (Cond.code yX10_isUnder cX10_isUnder 2 (some .boolean) :: wsL_law) ({ frames := 0, cells := 0, slots := 0, locals := 0 } : Room) (va_Pc [vI l0, vI l1] (fun U => jRep G M U)) (jQ G (some (vI fin)) M) 0 0 (jA G) := by
  refine Met.ofW (cc := cX10_isUnder) (maxL := 2) (ret := (some .boolean)) (by decide) rfl ?_
  intro p e s m args below meth c s₁ B hml hv
  obtain ⟨rfl, hR0⟩ := hv
  have C : jCx p s m ([vI l0, vI l1] : List Value).toArray meth c cX10_isUnder 2 RX10 (Cond.code yX10_isUnder cX10_isUnder 2 (some .boolean)) (some .boolean) := ⟨B.exec, B.bytes, hml, findClass_of_methodNamed B.named, atoms_spec B.pre, B.returns, B.notSynchronized⟩
  have hO := hR0.ok
  have hl := lv_entry ([vI l0, vI l1]) (n := 2) (Nat.le_of_ble_eq_true rfl)
  rw [lg_entry_eq]
  generalize (lg_sl ([vI l0, vI l1]) ++ List.replicate (2 - (lg_sl ([vI l0, vI l1])).length) Slot.unset).toArray = ls at hl ⊢
  have hl : lv_has ls 2 [(0, vI l0), (1, vI l1)] := hl
  exact w_X10_isUnder C (Nat.le_refl _) (Nat.le_refl _) M l0 l1  h hO hl
set_option maxHeartbeats 4000000 in
theorem w_X10_plainPicks {p : Program} {l : Launch} {e : Env} {R : Room} {s : State} {m : MethodId} {args : Array Value} {below : List Frame} {meth : Method} {c : Code} {H : Heap} {locs : List Loc} {ls : Array Slot} {G : jG}  (C : jCx p s m args meth c cX10_plainPicks 2 RX10 (Cond.code yX10_plainPicks cX10_plainPicks 2 (some .int)) (some .int)) (hRf : 1 ≤ R.frames) (hRl : 21 ≤ R.locals)  (M : jM) (l0 l1 : Int) (h0 : jkd l0 = (10, 0)) {fin : Int × jM} (hf : f_X10_plainPicks M l0 l1 = some fin) (hO : jOk G M s H locs) (hl : lv_has ls 2 [(0, jR G l0), (1, vI l1)]) : W p l e R s m args below meth c H locs 0 0 (MQ below (jQ G (some (vI fin.1)) fin.2) args s 0 0 (jA G)) (F0 m 0 ls []) := by
  unfold f_X10_plainPicks at hf
  refine lv_aload_n C.1 C.2.1 dX10_plainPicks_0 rfl (lv_at hl 0 rfl) ?_
  refine lv_iconst (v := Int32.ofInt 1) C.1 C.2.1 dX10_plainPicks_1 rfl ?_
  obtain ⟨r1, hr1, hf⟩ := bnd_e hf
  refine j_callV C hO (n := 1) (As := [vI 1]) (st1 := []) (c_X10_ranBody l G M l0 1 h0 hr1) h0 rfl kC_41_20 kM_41_17 kI_41_18 kS_41_19 kN_1_5 ⟨by decide, by decide, by decide⟩ ⟨Nat.le_trans (by decide) hRf, Nat.le_trans (by decide) hRl⟩ rfl rfl rfl hl.1 rfl (Nat.le_of_ble_eq_true rfl) ⟨Nat.zero_le _, Nat.zero_le _⟩ dX10_plainPicks_2 rfl (fun H locs hO => ?_)
  refine lv_iload_n C.1 C.2.1 dX10_plainPicks_5 rfl (lv_at hl 1 rfl) ?_
  refine lv_aload_n C.1 C.2.1 dX10_plainPicks_6 rfl (lv_at hl 0 rfl) ?_
  refine j_get C hO (ci := 10) (k := 21) (v := vI (r1 l0 21)) h0 rfl inlX10 (by decide) kF_41_8 rfl rfl dX10_plainPicks_7 ?_
  refine j_iadd C dX10_plainPicks_10 ?_
  have hf := som_e hf
  subst hf
  exact j_iret C hO dX10_plainPicks_11
set_option maxHeartbeats 1000000 in
theorem c_X10_plainPicks (l : Launch) (G : jG)  (M : jM) (l0 l1 : Int) (h0 : jkd l0 = (10, 0)) {fin : Int × jM} (h : f_X10_plainPicks M l0 l1 = some fin) : Met l yX10_plainPicks (Cond.code yX10_plainPicks cX10_plainPicks 2 (some .int) :: wsL_law) ({ frames := 1, cells := 0, slots := 0, locals := 21 } : Room) (va_Pc [jR G l0, vI l1] (fun U => jRep G M U)) (jQ G (some (vI fin.1)) fin.2) 0 0 (jA G) := by
  refine Met.ofW (cc := cX10_plainPicks) (maxL := 2) (ret := (some .int)) (by decide) rfl ?_
  intro p e s m args below meth c s₁ B hml hv
  obtain ⟨rfl, hR0⟩ := hv
  have C : jCx p s m ([jR G l0, vI l1] : List Value).toArray meth c cX10_plainPicks 2 RX10 (Cond.code yX10_plainPicks cX10_plainPicks 2 (some .int)) (some .int) := ⟨B.exec, B.bytes, hml, findClass_of_methodNamed B.named, atoms_spec B.pre, B.returns, B.notSynchronized⟩
  have hO := hR0.ok
  have hl := lv_entry ([jR G l0, vI l1]) (n := 2) (Nat.le_of_ble_eq_true rfl)
  rw [lg_entry_eq]
  generalize (lg_sl ([jR G l0, vI l1]) ++ List.replicate (2 - (lg_sl ([jR G l0, vI l1])).length) Slot.unset).toArray = ls at hl ⊢
  have hl : lv_has ls 2 [(0, jR G l0), (1, vI l1)] := hl
  exact w_X10_plainPicks C (Nat.le_refl _) (Nat.le_refl _) M l0 l1 h0 h hO hl
set_option maxHeartbeats 4000000 in
theorem w_X10_picksActs {p : Program} {l : Launch} {e : Env} {R : Room} {s : State} {m : MethodId} {args : Array Value} {below : List Frame} {meth : Method} {c : Code} {H : Heap} {locs : List Loc} {ls : Array Slot} {G : jG}  (C : jCx p s m args meth c cX10_picksActs 2 RX10 (Cond.code yX10_picksActs cX10_picksActs 2 (some .int)) (some .int)) (hRf : 2 ≤ R.frames) (hRl : 42 ≤ R.locals)  (M : jM) (l0 l1 : Int) (h0 : jkd l0 = (10, 0)) {fin : Int × jM} (hf : f_X10_picksActs M l0 l1 = some fin) (hO : jOk G M s H locs) (hl : lv_has ls 2 [(0, jR G l0), (1, vI l1)]) : W p l e R s m args below meth c H locs 0 0 (MQ below (jQ G (some (vI fin.1)) fin.2) args s 0 0 (jA G)) (F0 m 0 ls []) := by
  unfold f_X10_picksActs at hf
  refine lv_aload_n C.1 C.2.1 dX10_picksActs_0 rfl (lv_at hl 0 rfl) ?_
  refine j_get C hO (ci := 10) (k := 20) (v := vI (M l0 20)) h0 rfl inlX10 (by decide) kF_41_7 rfl rfl dX10_picksActs_1 ?_
  refine lv_iconst (v := Int32.ofInt 1) C.1 C.2.1 dX10_picksActs_4 rfl ?_
  obtain ⟨r1, hr1, hf⟩ := bnd_e hf
  refine j_callS C hO (n := 2) (As := [vI (M l0 20), vI 1]) (st1 := [vI r1]) (c_X10_isUnder l G M (M l0 20) 1  hr1) kC_41_16 kM_41_14 kT_41_15 kN_1_5 ⟨by decide, by decide, by decide⟩ ⟨Nat.le_trans (by decide) hRf, Nat.le_trans (by decide) hRl⟩ rfl rfl rfl hl.1 rfl (Nat.le_of_ble_eq_true rfl) ⟨Nat.zero_le _, Nat.zero_le _⟩ dX10_picksActs_5 rfl (fun H locs hO => ?_)
  refine j_if_eq (tgt := 25) C rfl dX10_picksActs_8 (by decide) (fun c2 => ?_) (fun c2 => ?_)
  · have hf := (if_pos c2).symm.trans hf
    refine lv_aload_n C.1 C.2.1 dX10_picksActs_25 rfl (lv_at hl 0 rfl) ?_
    refine j_get C hO (ci := 10) (k := 20) (v := vI (M l0 20)) h0 rfl inlX10 (by decide) kF_41_7 rfl rfl dX10_picksActs_26 ?_
    refine lv_iconst (v := Int32.ofInt 5) C.1 C.2.1 dX10_picksActs_29 rfl ?_
    refine j_icmp_ne (tgt := 50) C rfl (w32_id (by decide) (by decide)) dX10_picksActs_30 (by decide) (fun c3 => ?_) (fun c3 => ?_)
    · have hf := (if_neg c3).symm.trans hf
      refine lv_aload_n C.1 C.2.1 dX10_picksActs_50 rfl (lv_at hl 0 rfl) ?_
      refine lv_iload_n C.1 C.2.1 dX10_picksActs_51 rfl (lv_at hl 1 rfl) ?_
      obtain ⟨r4, hr4, hf⟩ := bnd_e hf
      refine j_callV C hO (n := 1) (As := [vI l1]) (st1 := [vI r4.1]) (c_X10_plainPicks l G M l0 l1 h0 hr4) h0 rfl kC_42_0 kM_41_21 kI_41_22 kS_41_23 kN_1_5 ⟨by decide, by decide, by decide⟩ ⟨Nat.le_trans (by decide) hRf, Nat.le_trans (by decide) hRl⟩ rfl rfl rfl hl.1 rfl (Nat.le_of_ble_eq_true rfl) ⟨Nat.zero_le _, Nat.zero_le _⟩ dX10_picksActs_52 rfl (fun H locs hO => ?_)
      have hf := som_e hf
      subst hf
      exact j_iret C hO dX10_picksActs_55
    · have hf := (if_pos c3).symm.trans hf
      refine lv_aload_n C.1 C.2.1 dX10_picksActs_33 rfl (lv_at hl 0 rfl) ?_
      refine lv_bipush (v := Int32.ofInt 51) C.1 C.2.1 dX10_picksActs_34 (by decide) ?_
      obtain ⟨r5, hr5, hf⟩ := bnd_e hf
      refine j_callV C hO (n := 1) (As := [vI 51]) (st1 := []) (c_X10_ranBody l G M l0 51 h0 hr5) h0 rfl kC_41_20 kM_41_17 kI_41_18 kS_41_19 kN_1_5 ⟨by decide, by decide, by decide⟩ ⟨Nat.le_trans (by decide) hRf, Nat.le_trans (by decide) hRl⟩ rfl rfl rfl hl.1 rfl (Nat.le_of_ble_eq_true rfl) ⟨Nat.zero_le _, Nat.zero_le _⟩ dX10_picksActs_36 rfl (fun H locs hO => ?_)
      refine lv_aload_n C.1 C.2.1 dX10_picksActs_39 rfl (lv_at hl 0 rfl) ?_
      refine lv_iload_n C.1 C.2.1 dX10_picksActs_40 rfl (lv_at hl 1 rfl) ?_
      obtain ⟨r6, hr6, hf⟩ := bnd_e hf
      refine j_callV C hO (n := 1) (As := [vI l1]) (st1 := [vI r6.1]) (c_X10_plainPicks l G r5 l0 l1 h0 hr6) h0 rfl kC_42_0 kM_41_21 kI_41_22 kS_41_23 kN_1_5 ⟨by decide, by decide, by decide⟩ ⟨Nat.le_trans (by decide) hRf, Nat.le_trans (by decide) hRl⟩ rfl rfl rfl hl.1 rfl (Nat.le_of_ble_eq_true rfl) ⟨Nat.zero_le _, Nat.zero_le _⟩ dX10_picksActs_41 rfl (fun H locs hO => ?_)
      refine lv_aload_n C.1 C.2.1 dX10_picksActs_44 rfl (lv_at hl 0 rfl) ?_
      refine j_get C hO (ci := 10) (k := 21) (v := vI (r6.2 l0 21)) h0 rfl inlX10 (by decide) kF_41_8 rfl rfl dX10_picksActs_45 ?_
      refine j_ixor C dX10_picksActs_48 ?_
      have hf := som_e hf
      subst hf
      exact j_iret C hO dX10_picksActs_49
  · have hf := (if_neg c2).symm.trans hf
    refine lv_aload_n C.1 C.2.1 dX10_picksActs_11 rfl (lv_at hl 0 rfl) ?_
    refine lv_bipush (v := Int32.ofInt 11) C.1 C.2.1 dX10_picksActs_12 (by decide) ?_
    obtain ⟨r7, hr7, hf⟩ := bnd_e hf
    refine j_callV C hO (n := 1) (As := [vI 11]) (st1 := []) (c_X10_ranBody l G M l0 11 h0 hr7) h0 rfl kC_41_20 kM_41_17 kI_41_18 kS_41_19 kN_1_5 ⟨by decide, by decide, by decide⟩ ⟨Nat.le_trans (by decide) hRf, Nat.le_trans (by decide) hRl⟩ rfl rfl rfl hl.1 rfl (Nat.le_of_ble_eq_true rfl) ⟨Nat.zero_le _, Nat.zero_le _⟩ dX10_picksActs_14 rfl (fun H locs hO => ?_)
    refine lv_aload_n C.1 C.2.1 dX10_picksActs_17 rfl (lv_at hl 0 rfl) ?_
    refine lv_iload_n C.1 C.2.1 dX10_picksActs_18 rfl (lv_at hl 1 rfl) ?_
    refine lv_iconst (v := Int32.ofInt 3) C.1 C.2.1 dX10_picksActs_19 rfl ?_
    refine j_imul C dX10_picksActs_20 ?_
    obtain ⟨r8, hr8, hf⟩ := bnd_e hf
    refine j_callV C hO (n := 1) (As := [vI (l1 * 3)]) (st1 := [vI r8.1]) (c_X10_plainPicks l G r7 l0 (l1 * 3) h0 hr8) h0 rfl kC_42_0 kM_41_21 kI_41_22 kS_41_23 kN_1_5 ⟨by decide, by decide, by decide⟩ ⟨Nat.le_trans (by decide) hRf, Nat.le_trans (by decide) hRl⟩ rfl rfl rfl hl.1 rfl (Nat.le_of_ble_eq_true rfl) ⟨Nat.zero_le _, Nat.zero_le _⟩ dX10_picksActs_21 rfl (fun H locs hO => ?_)
    have hf := som_e hf
    subst hf
    exact j_iret C hO dX10_picksActs_24
set_option maxHeartbeats 1000000 in
theorem c_X10_picksActs (l : Launch) (G : jG)  (M : jM) (l0 l1 : Int) (h0 : jkd l0 = (10, 0)) {fin : Int × jM} (h : f_X10_picksActs M l0 l1 = some fin) : Met l yX10_picksActs (Cond.code yX10_picksActs cX10_picksActs 2 (some .int) :: wsL_law) ({ frames := 2, cells := 0, slots := 0, locals := 42 } : Room) (va_Pc [jR G l0, vI l1] (fun U => jRep G M U)) (jQ G (some (vI fin.1)) fin.2) 0 0 (jA G) := by
  refine Met.ofW (cc := cX10_picksActs) (maxL := 2) (ret := (some .int)) (by decide) rfl ?_
  intro p e s m args below meth c s₁ B hml hv
  obtain ⟨rfl, hR0⟩ := hv
  have C : jCx p s m ([jR G l0, vI l1] : List Value).toArray meth c cX10_picksActs 2 RX10 (Cond.code yX10_picksActs cX10_picksActs 2 (some .int)) (some .int) := ⟨B.exec, B.bytes, hml, findClass_of_methodNamed B.named, atoms_spec B.pre, B.returns, B.notSynchronized⟩
  have hO := hR0.ok
  have hl := lv_entry ([jR G l0, vI l1]) (n := 2) (Nat.le_of_ble_eq_true rfl)
  rw [lg_entry_eq]
  generalize (lg_sl ([jR G l0, vI l1]) ++ List.replicate (2 - (lg_sl ([jR G l0, vI l1])).length) Slot.unset).toArray = ls at hl ⊢
  have hl : lv_has ls 2 [(0, jR G l0), (1, vI l1)] := hl
  exact w_X10_picksActs C (Nat.le_refl _) (Nat.le_refl _) M l0 l1 h0 h hO hl
set_option maxHeartbeats 4000000 in
theorem w_X10_plainPays {p : Program} {l : Launch} {e : Env} {R : Room} {s : State} {m : MethodId} {args : Array Value} {below : List Frame} {meth : Method} {c : Code} {H : Heap} {locs : List Loc} {ls : Array Slot} {G : jG}  (C : jCx p s m args meth c cX10_plainPays 2 RX10 (Cond.code yX10_plainPays cX10_plainPays 2 (some .int)) (some .int)) (hRf : 3 ≤ R.frames) (hRl : 63 ≤ R.locals)  (M : jM) (l0 l1 : Int) (h0 : jkd l0 = (10, 0)) {fin : Int × jM} (hf : f_X10_plainPays M l0 l1 = some fin) (hO : jOk G M s H locs) (hl : lv_has ls 2 [(0, jR G l0), (1, vI l1)]) : W p l e R s m args below meth c H locs 0 0 (MQ below (jQ G (some (vI fin.1)) fin.2) args s 0 0 (jA G)) (F0 m 0 ls []) := by
  unfold f_X10_plainPays at hf
  refine lv_aload_n C.1 C.2.1 dX10_plainPays_0 rfl (lv_at hl 0 rfl) ?_
  refine lv_iconst (v := Int32.ofInt 2) C.1 C.2.1 dX10_plainPays_1 rfl ?_
  obtain ⟨r1, hr1, hf⟩ := bnd_e hf
  refine j_callV C hO (n := 1) (As := [vI 2]) (st1 := []) (c_X10_ranBody l G M l0 2 h0 hr1) h0 rfl kC_41_20 kM_41_17 kI_41_18 kS_41_19 kN_1_5 ⟨by decide, by decide, by decide⟩ ⟨Nat.le_trans (by decide) hRf, Nat.le_trans (by decide) hRl⟩ rfl rfl rfl hl.1 rfl (Nat.le_of_ble_eq_true rfl) ⟨Nat.zero_le _, Nat.zero_le _⟩ dX10_plainPays_2 rfl (fun H locs hO => ?_)
  refine lv_aload_n C.1 C.2.1 dX10_plainPays_5 rfl (lv_at hl 0 rfl) ?_
  refine lv_iload_n C.1 C.2.1 dX10_plainPays_6 rfl (lv_at hl 1 rfl) ?_
  obtain ⟨r2, hr2, hf⟩ := bnd_e hf
  refine j_callV C hO (n := 1) (As := [vI l1]) (st1 := [vI r2.1]) (c_X10_picksActs l G r1 l0 l1 h0 hr2) h0 rfl kC_41_13 kM_41_10 kI_41_11 kS_41_12 kN_1_5 ⟨by decide, by decide, by decide⟩ ⟨Nat.le_trans (by decide) hRf, Nat.le_trans (by decide) hRl⟩ rfl rfl rfl hl.1 rfl (Nat.le_of_ble_eq_true rfl) ⟨Nat.zero_le _, Nat.zero_le _⟩ dX10_plainPays_7 rfl (fun H locs hO => ?_)
  refine lv_aload_n C.1 C.2.1 dX10_plainPays_10 rfl (lv_at hl 0 rfl) ?_
  refine j_get C hO (ci := 10) (k := 22) (v := vI (r2.2 l0 22)) h0 rfl inlX10 (by decide) kF_41_9 rfl rfl dX10_plainPays_11 ?_
  refine j_isub C dX10_plainPays_14 ?_
  have hf := som_e hf
  subst hf
  exact j_iret C hO dX10_plainPays_15
set_option maxHeartbeats 1000000 in
theorem c_X10_plainPays (l : Launch) (G : jG)  (M : jM) (l0 l1 : Int) (h0 : jkd l0 = (10, 0)) {fin : Int × jM} (h : f_X10_plainPays M l0 l1 = some fin) : Met l yX10_plainPays (Cond.code yX10_plainPays cX10_plainPays 2 (some .int) :: wsL_law) ({ frames := 3, cells := 0, slots := 0, locals := 63 } : Room) (va_Pc [jR G l0, vI l1] (fun U => jRep G M U)) (jQ G (some (vI fin.1)) fin.2) 0 0 (jA G) := by
  refine Met.ofW (cc := cX10_plainPays) (maxL := 2) (ret := (some .int)) (by decide) rfl ?_
  intro p e s m args below meth c s₁ B hml hv
  obtain ⟨rfl, hR0⟩ := hv
  have C : jCx p s m ([jR G l0, vI l1] : List Value).toArray meth c cX10_plainPays 2 RX10 (Cond.code yX10_plainPays cX10_plainPays 2 (some .int)) (some .int) := ⟨B.exec, B.bytes, hml, findClass_of_methodNamed B.named, atoms_spec B.pre, B.returns, B.notSynchronized⟩
  have hO := hR0.ok
  have hl := lv_entry ([jR G l0, vI l1]) (n := 2) (Nat.le_of_ble_eq_true rfl)
  rw [lg_entry_eq]
  generalize (lg_sl ([jR G l0, vI l1]) ++ List.replicate (2 - (lg_sl ([jR G l0, vI l1])).length) Slot.unset).toArray = ls at hl ⊢
  have hl : lv_has ls 2 [(0, jR G l0), (1, vI l1)] := hl
  exact w_X10_plainPays C (Nat.le_refl _) (Nat.le_refl _) M l0 l1 h0 h hO hl
set_option maxHeartbeats 4000000 in
theorem w_X10_paysActs {p : Program} {l : Launch} {e : Env} {R : Room} {s : State} {m : MethodId} {args : Array Value} {below : List Frame} {meth : Method} {c : Code} {H : Heap} {locs : List Loc} {ls : Array Slot} {G : jG}  (C : jCx p s m args meth c cX10_paysActs 2 RX10 (Cond.code yX10_paysActs cX10_paysActs 2 (some .int)) (some .int)) (hRf : 4 ≤ R.frames) (hRl : 84 ≤ R.locals)  (M : jM) (l0 l1 : Int) (h0 : jkd l0 = (10, 0)) {fin : Int × jM} (hf : f_X10_paysActs M l0 l1 = some fin) (hO : jOk G M s H locs) (hl : lv_has ls 2 [(0, jR G l0), (1, vI l1)]) : W p l e R s m args below meth c H locs 0 0 (MQ below (jQ G (some (vI fin.1)) fin.2) args s 0 0 (jA G)) (F0 m 0 ls []) := by
  unfold f_X10_paysActs at hf
  refine lv_aload_n C.1 C.2.1 dX10_paysActs_0 rfl (lv_at hl 0 rfl) ?_
  refine j_get C hO (ci := 10) (k := 20) (v := vI (M l0 20)) h0 rfl inlX10 (by decide) kF_41_7 rfl rfl dX10_paysActs_1 ?_
  refine lv_iconst (v := Int32.ofInt 2) C.1 C.2.1 dX10_paysActs_4 rfl ?_
  obtain ⟨r1, hr1, hf⟩ := bnd_e hf
  refine j_callS C hO (n := 2) (As := [vI (M l0 20), vI 2]) (st1 := [vI r1]) (c_X10_isUnder l G M (M l0 20) 2  hr1) kC_41_16 kM_41_14 kT_41_15 kN_1_5 ⟨by decide, by decide, by decide⟩ ⟨Nat.le_trans (by decide) hRf, Nat.le_trans (by decide) hRl⟩ rfl rfl rfl hl.1 rfl (Nat.le_of_ble_eq_true rfl) ⟨Nat.zero_le _, Nat.zero_le _⟩ dX10_paysActs_5 rfl (fun H locs hO => ?_)
  refine j_if_eq (tgt := 24) C rfl dX10_paysActs_8 (by decide) (fun c2 => ?_) (fun c2 => ?_)
  · have hf := (if_pos c2).symm.trans hf
    refine lv_aload_n C.1 C.2.1 dX10_paysActs_24 rfl (lv_at hl 0 rfl) ?_
    refine j_get C hO (ci := 10) (k := 20) (v := vI (M l0 20)) h0 rfl inlX10 (by decide) kF_41_7 rfl rfl dX10_paysActs_25 ?_
    refine lv_bipush (v := Int32.ofInt 6) C.1 C.2.1 dX10_paysActs_28 (by decide) ?_
    refine j_icmp_ne (tgt := 50) C rfl (w32_id (by decide) (by decide)) dX10_paysActs_30 (by decide) (fun c3 => ?_) (fun c3 => ?_)
    · have hf := (if_neg c3).symm.trans hf
      refine lv_aload_n C.1 C.2.1 dX10_paysActs_50 rfl (lv_at hl 0 rfl) ?_
      refine lv_iload_n C.1 C.2.1 dX10_paysActs_51 rfl (lv_at hl 1 rfl) ?_
      obtain ⟨r4, hr4, hf⟩ := bnd_e hf
      refine j_callV C hO (n := 1) (As := [vI l1]) (st1 := [vI r4.1]) (c_X10_plainPays l G M l0 l1 h0 hr4) h0 rfl kC_42_8 kM_42_5 kI_42_6 kS_42_7 kN_1_5 ⟨by decide, by decide, by decide⟩ ⟨Nat.le_trans (by decide) hRf, Nat.le_trans (by decide) hRl⟩ rfl rfl rfl hl.1 rfl (Nat.le_of_ble_eq_true rfl) ⟨Nat.zero_le _, Nat.zero_le _⟩ dX10_paysActs_52 rfl (fun H locs hO => ?_)
      have hf := som_e hf
      subst hf
      exact j_iret C hO dX10_paysActs_55
    · have hf := (if_pos c3).symm.trans hf
      refine lv_aload_n C.1 C.2.1 dX10_paysActs_33 rfl (lv_at hl 0 rfl) ?_
      refine lv_bipush (v := Int32.ofInt 61) C.1 C.2.1 dX10_paysActs_34 (by decide) ?_
      obtain ⟨r5, hr5, hf⟩ := bnd_e hf
      refine j_callV C hO (n := 1) (As := [vI 61]) (st1 := []) (c_X10_ranBody l G M l0 61 h0 hr5) h0 rfl kC_41_20 kM_41_17 kI_41_18 kS_41_19 kN_1_5 ⟨by decide, by decide, by decide⟩ ⟨Nat.le_trans (by decide) hRf, Nat.le_trans (by decide) hRl⟩ rfl rfl rfl hl.1 rfl (Nat.le_of_ble_eq_true rfl) ⟨Nat.zero_le _, Nat.zero_le _⟩ dX10_paysActs_36 rfl (fun H locs hO => ?_)
      refine lv_aload_n C.1 C.2.1 dX10_paysActs_39 rfl (lv_at hl 0 rfl) ?_
      refine lv_iload_n C.1 C.2.1 dX10_paysActs_40 rfl (lv_at hl 1 rfl) ?_
      obtain ⟨r6, hr6, hf⟩ := bnd_e hf
      refine j_callV C hO (n := 1) (As := [vI l1]) (st1 := [vI r6.1]) (c_X10_plainPays l G r5 l0 l1 h0 hr6) h0 rfl kC_42_8 kM_42_5 kI_42_6 kS_42_7 kN_1_5 ⟨by decide, by decide, by decide⟩ ⟨Nat.le_trans (by decide) hRf, Nat.le_trans (by decide) hRl⟩ rfl rfl rfl hl.1 rfl (Nat.le_of_ble_eq_true rfl) ⟨Nat.zero_le _, Nat.zero_le _⟩ dX10_paysActs_41 rfl (fun H locs hO => ?_)
      refine lv_aload_n C.1 C.2.1 dX10_paysActs_44 rfl (lv_at hl 0 rfl) ?_
      refine j_get C hO (ci := 10) (k := 22) (v := vI (r6.2 l0 22)) h0 rfl inlX10 (by decide) kF_41_9 rfl rfl dX10_paysActs_45 ?_
      refine j_iadd C dX10_paysActs_48 ?_
      have hf := som_e hf
      subst hf
      exact j_iret C hO dX10_paysActs_49
  · have hf := (if_neg c2).symm.trans hf
    refine lv_aload_n C.1 C.2.1 dX10_paysActs_11 rfl (lv_at hl 0 rfl) ?_
    refine lv_bipush (v := Int32.ofInt 21) C.1 C.2.1 dX10_paysActs_12 (by decide) ?_
    obtain ⟨r7, hr7, hf⟩ := bnd_e hf
    refine j_callV C hO (n := 1) (As := [vI 21]) (st1 := []) (c_X10_ranBody l G M l0 21 h0 hr7) h0 rfl kC_41_20 kM_41_17 kI_41_18 kS_41_19 kN_1_5 ⟨by decide, by decide, by decide⟩ ⟨Nat.le_trans (by decide) hRf, Nat.le_trans (by decide) hRl⟩ rfl rfl rfl hl.1 rfl (Nat.le_of_ble_eq_true rfl) ⟨Nat.zero_le _, Nat.zero_le _⟩ dX10_paysActs_14 rfl (fun H locs hO => ?_)
    refine lv_aload_n C.1 C.2.1 dX10_paysActs_17 rfl (lv_at hl 0 rfl) ?_
    refine lv_iload_n C.1 C.2.1 dX10_paysActs_18 rfl (lv_at hl 1 rfl) ?_
    obtain ⟨r8, hr8, hf⟩ := bnd_e hf
    refine j_callV C hO (n := 1) (As := [vI l1]) (st1 := [vI r8.1]) (c_X10_plainPays l G r7 l0 l1 h0 hr8) h0 rfl kC_42_8 kM_42_5 kI_42_6 kS_42_7 kN_1_5 ⟨by decide, by decide, by decide⟩ ⟨Nat.le_trans (by decide) hRf, Nat.le_trans (by decide) hRl⟩ rfl rfl rfl hl.1 rfl (Nat.le_of_ble_eq_true rfl) ⟨Nat.zero_le _, Nat.zero_le _⟩ dX10_paysActs_19 rfl (fun H locs hO => ?_)
    refine j_ineg C dX10_paysActs_22 ?_
    have hf := som_e hf
    subst hf
    exact j_iret C hO dX10_paysActs_23
set_option maxHeartbeats 1000000 in
theorem c_X10_paysActs (l : Launch) (G : jG)  (M : jM) (l0 l1 : Int) (h0 : jkd l0 = (10, 0)) {fin : Int × jM} (h : f_X10_paysActs M l0 l1 = some fin) : Met l yX10_paysActs (Cond.code yX10_paysActs cX10_paysActs 2 (some .int) :: wsL_law) ({ frames := 4, cells := 0, slots := 0, locals := 84 } : Room) (va_Pc [jR G l0, vI l1] (fun U => jRep G M U)) (jQ G (some (vI fin.1)) fin.2) 0 0 (jA G) := by
  refine Met.ofW (cc := cX10_paysActs) (maxL := 2) (ret := (some .int)) (by decide) rfl ?_
  intro p e s m args below meth c s₁ B hml hv
  obtain ⟨rfl, hR0⟩ := hv
  have C : jCx p s m ([jR G l0, vI l1] : List Value).toArray meth c cX10_paysActs 2 RX10 (Cond.code yX10_paysActs cX10_paysActs 2 (some .int)) (some .int) := ⟨B.exec, B.bytes, hml, findClass_of_methodNamed B.named, atoms_spec B.pre, B.returns, B.notSynchronized⟩
  have hO := hR0.ok
  have hl := lv_entry ([jR G l0, vI l1]) (n := 2) (Nat.le_of_ble_eq_true rfl)
  rw [lg_entry_eq]
  generalize (lg_sl ([jR G l0, vI l1]) ++ List.replicate (2 - (lg_sl ([jR G l0, vI l1])).length) Slot.unset).toArray = ls at hl ⊢
  have hl : lv_has ls 2 [(0, jR G l0), (1, vI l1)] := hl
  exact w_X10_paysActs C (Nat.le_refl _) (Nat.le_refl _) M l0 l1 h0 h hO hl
set_option maxHeartbeats 4000000 in
theorem w_X10_plainTells {p : Program} {l : Launch} {e : Env} {R : Room} {s : State} {m : MethodId} {args : Array Value} {below : List Frame} {meth : Method} {c : Code} {H : Heap} {locs : List Loc} {ls : Array Slot} {G : jG}  (C : jCx p s m args meth c cX10_plainTells 2 RX10 (Cond.code yX10_plainTells cX10_plainTells 2 (some .int)) (some .int)) (hRf : 5 ≤ R.frames) (hRl : 105 ≤ R.locals)  (M : jM) (l0 l1 : Int) (h0 : jkd l0 = (10, 0)) {fin : Int × jM} (hf : f_X10_plainTells M l0 l1 = some fin) (hO : jOk G M s H locs) (hl : lv_has ls 2 [(0, jR G l0), (1, vI l1)]) : W p l e R s m args below meth c H locs 0 0 (MQ below (jQ G (some (vI fin.1)) fin.2) args s 0 0 (jA G)) (F0 m 0 ls []) := by
  unfold f_X10_plainTells at hf
  refine lv_aload_n C.1 C.2.1 dX10_plainTells_0 rfl (lv_at hl 0 rfl) ?_
  refine lv_iconst (v := Int32.ofInt 3) C.1 C.2.1 dX10_plainTells_1 rfl ?_
  obtain ⟨r1, hr1, hf⟩ := bnd_e hf
  refine j_callV C hO (n := 1) (As := [vI 3]) (st1 := []) (c_X10_ranBody l G M l0 3 h0 hr1) h0 rfl kC_41_20 kM_41_17 kI_41_18 kS_41_19 kN_1_5 ⟨by decide, by decide, by decide⟩ ⟨Nat.le_trans (by decide) hRf, Nat.le_trans (by decide) hRl⟩ rfl rfl rfl hl.1 rfl (Nat.le_of_ble_eq_true rfl) ⟨Nat.zero_le _, Nat.zero_le _⟩ dX10_plainTells_2 rfl (fun H locs hO => ?_)
  refine lv_aload_n C.1 C.2.1 dX10_plainTells_5 rfl (lv_at hl 0 rfl) ?_
  refine lv_iload_n C.1 C.2.1 dX10_plainTells_6 rfl (lv_at hl 1 rfl) ?_
  obtain ⟨r2, hr2, hf⟩ := bnd_e hf
  refine j_callV C hO (n := 1) (As := [vI l1]) (st1 := [vI r2.1]) (c_X10_paysActs l G r1 l0 l1 h0 hr2) h0 rfl kC_42_4 kM_42_1 kI_42_2 kS_42_3 kN_1_5 ⟨by decide, by decide, by decide⟩ ⟨Nat.le_trans (by decide) hRf, Nat.le_trans (by decide) hRl⟩ rfl rfl rfl hl.1 rfl (Nat.le_of_ble_eq_true rfl) ⟨Nat.zero_le _, Nat.zero_le _⟩ dX10_plainTells_7 rfl (fun H locs hO => ?_)
  refine lv_iconst (v := Int32.ofInt 2) C.1 C.2.1 dX10_plainTells_10 rfl ?_
  refine j_imul C dX10_plainTells_11 ?_
  have hf := som_e hf
  subst hf
  exact j_iret C hO dX10_plainTells_12
set_option maxHeartbeats 1000000 in
theorem c_X10_plainTells (l : Launch) (G : jG)  (M : jM) (l0 l1 : Int) (h0 : jkd l0 = (10, 0)) {fin : Int × jM} (h : f_X10_plainTells M l0 l1 = some fin) : Met l yX10_plainTells (Cond.code yX10_plainTells cX10_plainTells 2 (some .int) :: wsL_law) ({ frames := 5, cells := 0, slots := 0, locals := 105 } : Room) (va_Pc [jR G l0, vI l1] (fun U => jRep G M U)) (jQ G (some (vI fin.1)) fin.2) 0 0 (jA G) := by
  refine Met.ofW (cc := cX10_plainTells) (maxL := 2) (ret := (some .int)) (by decide) rfl ?_
  intro p e s m args below meth c s₁ B hml hv
  obtain ⟨rfl, hR0⟩ := hv
  have C : jCx p s m ([jR G l0, vI l1] : List Value).toArray meth c cX10_plainTells 2 RX10 (Cond.code yX10_plainTells cX10_plainTells 2 (some .int)) (some .int) := ⟨B.exec, B.bytes, hml, findClass_of_methodNamed B.named, atoms_spec B.pre, B.returns, B.notSynchronized⟩
  have hO := hR0.ok
  have hl := lv_entry ([jR G l0, vI l1]) (n := 2) (Nat.le_of_ble_eq_true rfl)
  rw [lg_entry_eq]
  generalize (lg_sl ([jR G l0, vI l1]) ++ List.replicate (2 - (lg_sl ([jR G l0, vI l1])).length) Slot.unset).toArray = ls at hl ⊢
  have hl : lv_has ls 2 [(0, jR G l0), (1, vI l1)] := hl
  exact w_X10_plainTells C (Nat.le_refl _) (Nat.le_refl _) M l0 l1 h0 h hO hl
set_option maxHeartbeats 4000000 in
theorem w_X10_tellsActs {p : Program} {l : Launch} {e : Env} {R : Room} {s : State} {m : MethodId} {args : Array Value} {below : List Frame} {meth : Method} {c : Code} {H : Heap} {locs : List Loc} {ls : Array Slot} {G : jG}  (C : jCx p s m args meth c cX10_tellsActs 3 RX10 (Cond.code yX10_tellsActs cX10_tellsActs 3 (some .int)) (some .int)) (hRf : 6 ≤ R.frames) (hRl : 126 ≤ R.locals)  (M : jM) (l0 l1 : Int) (h0 : jkd l0 = (10, 0)) {fin : Int × jM} (hf : f_X10_tellsActs M l0 l1 = some fin) (hO : jOk G M s H locs) (hl : lv_has ls 3 [(0, jR G l0), (1, vI l1)]) : W p l e R s m args below meth c H locs 0 0 (MQ below (jQ G (some (vI fin.1)) fin.2) args s 0 0 (jA G)) (F0 m 0 ls []) := by
  unfold f_X10_tellsActs at hf
  refine lv_aload_n C.1 C.2.1 dX10_tellsActs_0 rfl (lv_at hl 0 rfl) ?_
  refine j_get C hO (ci := 10) (k := 20) (v := vI (M l0 20)) h0 rfl inlX10 (by decide) kF_41_7 rfl rfl dX10_tellsActs_1 ?_
  refine lv_iconst (v := Int32.ofInt 3) C.1 C.2.1 dX10_tellsActs_4 rfl ?_
  obtain ⟨r1, hr1, hf⟩ := bnd_e hf
  refine j_callS C hO (n := 2) (As := [vI (M l0 20), vI 3]) (st1 := [vI r1]) (c_X10_isUnder l G M (M l0 20) 3  hr1) kC_41_16 kM_41_14 kT_41_15 kN_1_5 ⟨by decide, by decide, by decide⟩ ⟨Nat.le_trans (by decide) hRf, Nat.le_trans (by decide) hRl⟩ rfl rfl rfl hl.1 rfl (Nat.le_of_ble_eq_true rfl) ⟨Nat.zero_le _, Nat.zero_le _⟩ dX10_tellsActs_5 rfl (fun H locs hO => ?_)
  refine j_if_eq (tgt := 26) C rfl dX10_tellsActs_8 (by decide) (fun c2 => ?_) (fun c2 => ?_)
  · have hf := (if_pos c2).symm.trans hf
    refine lv_aload_n C.1 C.2.1 dX10_tellsActs_26 rfl (lv_at hl 0 rfl) ?_
    refine j_get C hO (ci := 10) (k := 20) (v := vI (M l0 20)) h0 rfl inlX10 (by decide) kF_41_7 rfl rfl dX10_tellsActs_27 ?_
    refine lv_iconst (v := Int32.ofInt 4) C.1 C.2.1 dX10_tellsActs_30 rfl ?_
    refine j_icmp_ne (tgt := 56) C rfl (w32_id (by decide) (by decide)) dX10_tellsActs_31 (by decide) (fun c3 => ?_) (fun c3 => ?_)
    · have hf := (if_neg c3).symm.trans hf
      refine lv_aload_n C.1 C.2.1 dX10_tellsActs_56 rfl (lv_at hl 0 rfl) ?_
      refine lv_iload_n C.1 C.2.1 dX10_tellsActs_57 rfl (lv_at hl 1 rfl) ?_
      obtain ⟨r4, hr4, hf⟩ := bnd_e hf
      refine j_callV C hO (n := 1) (As := [vI l1]) (st1 := [vI r4.1]) (c_X10_plainTells l G M l0 l1 h0 hr4) h0 rfl kC_42_16 kM_42_13 kI_42_14 kS_42_15 kN_1_5 ⟨by decide, by decide, by decide⟩ ⟨Nat.le_trans (by decide) hRf, Nat.le_trans (by decide) hRl⟩ rfl rfl rfl hl.1 rfl (Nat.le_of_ble_eq_true rfl) ⟨Nat.zero_le _, Nat.zero_le _⟩ dX10_tellsActs_58 rfl (fun H locs hO => ?_)
      have hf := som_e hf
      subst hf
      exact j_iret C hO dX10_tellsActs_61
    · have hf := (if_pos c3).symm.trans hf
      refine lv_aload_n C.1 C.2.1 dX10_tellsActs_34 rfl (lv_at hl 0 rfl) ?_
      refine lv_bipush (v := Int32.ofInt 41) C.1 C.2.1 dX10_tellsActs_35 (by decide) ?_
      obtain ⟨r5, hr5, hf⟩ := bnd_e hf
      refine j_callV C hO (n := 1) (As := [vI 41]) (st1 := []) (c_X10_ranBody l G M l0 41 h0 hr5) h0 rfl kC_41_20 kM_41_17 kI_41_18 kS_41_19 kN_1_5 ⟨by decide, by decide, by decide⟩ ⟨Nat.le_trans (by decide) hRf, Nat.le_trans (by decide) hRl⟩ rfl rfl rfl hl.1 rfl (Nat.le_of_ble_eq_true rfl) ⟨Nat.zero_le _, Nat.zero_le _⟩ dX10_tellsActs_37 rfl (fun H locs hO => ?_)
      refine lv_aload_n C.1 C.2.1 dX10_tellsActs_40 rfl (lv_at hl 0 rfl) ?_
      refine lv_iload_n C.1 C.2.1 dX10_tellsActs_41 rfl (lv_at hl 1 rfl) ?_
      refine lv_iconst (v := Int32.ofInt 1) C.1 C.2.1 dX10_tellsActs_42 rfl ?_
      refine j_isub C dX10_tellsActs_43 ?_
      obtain ⟨r6, hr6, hf⟩ := bnd_e hf
      refine j_callV C hO (n := 1) (As := [vI (l1 - 1)]) (st1 := [vI r6.1]) (c_X10_plainTells l G r5 l0 (l1 - 1) h0 hr6) h0 rfl kC_42_16 kM_42_13 kI_42_14 kS_42_15 kN_1_5 ⟨by decide, by decide, by decide⟩ ⟨Nat.le_trans (by decide) hRf, Nat.le_trans (by decide) hRl⟩ rfl rfl rfl hl.1 rfl (Nat.le_of_ble_eq_true rfl) ⟨Nat.zero_le _, Nat.zero_le _⟩ dX10_tellsActs_44 rfl (fun H locs hO => ?_)
      refine lv_istore_n (lv' := [(2, vI r6.1), (0, jR G l0), (1, vI l1)]) C.1 C.2.1 dX10_tellsActs_47 rfl hl (by decide) rfl (fun ls hl => ?_)
      refine lv_iload_n C.1 C.2.1 dX10_tellsActs_48 rfl (lv_at hl 0 rfl) ?_
      refine lv_aload_n C.1 C.2.1 dX10_tellsActs_49 rfl (lv_at hl 1 rfl) ?_
      refine lv_iconst (v := Int32.ofInt 2) C.1 C.2.1 dX10_tellsActs_50 rfl ?_
      obtain ⟨r7, hr7, hf⟩ := bnd_e hf
      refine j_callV C hO (n := 1) (As := [vI 2]) (st1 := [vI r7.1, vI r6.1]) (c_X10_picksActs l G r6.2 l0 2 h0 hr7) h0 rfl kC_41_13 kM_41_10 kI_41_11 kS_41_12 kN_1_5 ⟨by decide, by decide, by decide⟩ ⟨Nat.le_trans (by decide) hRf, Nat.le_trans (by decide) hRl⟩ rfl rfl rfl hl.1 rfl (Nat.le_of_ble_eq_true rfl) ⟨Nat.zero_le _, Nat.zero_le _⟩ dX10_tellsActs_51 rfl (fun H locs hO => ?_)
      refine j_iadd C dX10_tellsActs_54 ?_
      have hf := som_e hf
      subst hf
      exact j_iret C hO dX10_tellsActs_55
  · have hf := (if_neg c2).symm.trans hf
    refine lv_aload_n C.1 C.2.1 dX10_tellsActs_11 rfl (lv_at hl 0 rfl) ?_
    refine lv_bipush (v := Int32.ofInt 31) C.1 C.2.1 dX10_tellsActs_12 (by decide) ?_
    obtain ⟨r8, hr8, hf⟩ := bnd_e hf
    refine j_callV C hO (n := 1) (As := [vI 31]) (st1 := []) (c_X10_ranBody l G M l0 31 h0 hr8) h0 rfl kC_41_20 kM_41_17 kI_41_18 kS_41_19 kN_1_5 ⟨by decide, by decide, by decide⟩ ⟨Nat.le_trans (by decide) hRf, Nat.le_trans (by decide) hRl⟩ rfl rfl rfl hl.1 rfl (Nat.le_of_ble_eq_true rfl) ⟨Nat.zero_le _, Nat.zero_le _⟩ dX10_tellsActs_14 rfl (fun H locs hO => ?_)
    refine lv_aload_n C.1 C.2.1 dX10_tellsActs_17 rfl (lv_at hl 0 rfl) ?_
    refine lv_iload_n C.1 C.2.1 dX10_tellsActs_18 rfl (lv_at hl 1 rfl) ?_
    obtain ⟨r9, hr9, hf⟩ := bnd_e hf
    refine j_callV C hO (n := 1) (As := [vI l1]) (st1 := [vI r9.1]) (c_X10_plainTells l G r8 l0 l1 h0 hr9) h0 rfl kC_42_16 kM_42_13 kI_42_14 kS_42_15 kN_1_5 ⟨by decide, by decide, by decide⟩ ⟨Nat.le_trans (by decide) hRf, Nat.le_trans (by decide) hRl⟩ rfl rfl rfl hl.1 rfl (Nat.le_of_ble_eq_true rfl) ⟨Nat.zero_le _, Nat.zero_le _⟩ dX10_tellsActs_19 rfl (fun H locs hO => ?_)
    refine lv_bipush (v := Int32.ofInt 7) C.1 C.2.1 dX10_tellsActs_22 (by decide) ?_
    refine j_ixor C dX10_tellsActs_24 ?_
    have hf := som_e hf
    subst hf
    exact j_iret C hO dX10_tellsActs_25
set_option maxHeartbeats 1000000 in
theorem c_X10_tellsActs (l : Launch) (G : jG)  (M : jM) (l0 l1 : Int) (h0 : jkd l0 = (10, 0)) {fin : Int × jM} (h : f_X10_tellsActs M l0 l1 = some fin) : Met l yX10_tellsActs (Cond.code yX10_tellsActs cX10_tellsActs 3 (some .int) :: wsL_law) ({ frames := 6, cells := 0, slots := 0, locals := 126 } : Room) (va_Pc [jR G l0, vI l1] (fun U => jRep G M U)) (jQ G (some (vI fin.1)) fin.2) 0 0 (jA G) := by
  refine Met.ofW (cc := cX10_tellsActs) (maxL := 3) (ret := (some .int)) (by decide) rfl ?_
  intro p e s m args below meth c s₁ B hml hv
  obtain ⟨rfl, hR0⟩ := hv
  have C : jCx p s m ([jR G l0, vI l1] : List Value).toArray meth c cX10_tellsActs 3 RX10 (Cond.code yX10_tellsActs cX10_tellsActs 3 (some .int)) (some .int) := ⟨B.exec, B.bytes, hml, findClass_of_methodNamed B.named, atoms_spec B.pre, B.returns, B.notSynchronized⟩
  have hO := hR0.ok
  have hl := lv_entry ([jR G l0, vI l1]) (n := 3) (Nat.le_of_ble_eq_true rfl)
  rw [lg_entry_eq]
  generalize (lg_sl ([jR G l0, vI l1]) ++ List.replicate (3 - (lg_sl ([jR G l0, vI l1])).length) Slot.unset).toArray = ls at hl ⊢
  have hl : lv_has ls 3 [(0, jR G l0), (1, vI l1)] := hl
  exact w_X10_tellsActs C (Nat.le_refl _) (Nat.le_refl _) M l0 l1 h0 h hO hl
set_option maxHeartbeats 4000000 in
theorem w_X10_act {p : Program} {l : Launch} {e : Env} {R : Room} {s : State} {m : MethodId} {args : Array Value} {below : List Frame} {meth : Method} {c : Code} {H : Heap} {locs : List Loc} {ls : Array Slot} {G : jG}  (C : jCx p s m args meth c cX10_act 4 RX10 (Cond.code yX10_act cX10_act 4 (some .int)) (some .int)) (hRf : 7 ≤ R.frames) (hRl : 148 ≤ R.locals)  (M : jM) (l0 l1 l2 l3 : Int) (h0 : jkd l0 = (10, 0)) {fin : Int × jM} (hf : f_X10_act M l0 l1 l2 l3 = some fin) (hO : jOk G M s H locs) (hl : lv_has ls 4 [(0, jR G l0), (1, vI l1), (2, vI l2), (3, vI l3)]) : W p l e R s m args below meth c H locs 0 0 (MQ below (jQ G (some (vI fin.1)) fin.2) args s 0 0 (jA G)) (F0 m 0 ls []) := by
  unfold f_X10_act at hf
  refine lv_aload_n C.1 C.2.1 dX10_act_0 rfl (lv_at hl 0 rfl) ?_
  refine lv_iconst (v := Int32.ofInt 0) C.1 C.2.1 dX10_act_1 rfl ?_
  obtain ⟨M1, hM1, hf⟩ := lt1_e hf
  refine j_put C hO (ci := 10) (k := 19) (x := 0) h0 rfl inlX10 tyX10_ok nmX10 (by decide) kF_41_6 rfl rfl rfl rfl (by simp [jfl]) (fs_10_19) dX10_act_2 (fun H locs hO => ?_)
  rw [← hM1] at hO
  refine lv_aload_n C.1 C.2.1 dX10_act_5 rfl (lv_at hl 0 rfl) ?_
  refine lv_iload_n C.1 C.2.1 dX10_act_6 rfl (lv_at hl 1 rfl) ?_
  obtain ⟨r2, hr2, hf⟩ := bnd_e hf
  refine j_callV C hO (n := 1) (As := [vI l1]) (st1 := [vI r2]) (c_X10_isPlayer l G M1 l0 l1 h0 hr2) h0 rfl kC_20_22 kM_20_19 kI_20_20 kS_20_21 kN_1_5 ⟨by decide, by decide, by decide⟩ ⟨Nat.le_trans (by decide) hRf, Nat.le_trans (by decide) hRl⟩ rfl rfl rfl hl.1 rfl (Nat.le_of_ble_eq_true rfl) ⟨Nat.zero_le _, Nat.zero_le _⟩ dX10_act_7 rfl (fun H locs hO => ?_)
  refine j_if_eq (tgt := 22) C rfl dX10_act_10 (by decide) (fun c3 => ?_) (fun c3 => ?_)
  · have hf := (if_pos c3).symm.trans hf
    refine lv_iconst (v := Int32.ofInt 0) C.1 C.2.1 dX10_act_22 rfl ?_
    have hf := som_e hf
    subst hf
    exact j_iret C hO dX10_act_23
  · have hf := (if_neg c3).symm.trans hf
    refine lv_iload_n C.1 C.2.1 dX10_act_13 rfl (lv_at hl 2 rfl) ?_
    refine lv_iconst (v := Int32.ofInt 0) C.1 C.2.1 dX10_act_14 rfl ?_
    refine lv_iconst (v := Int32.ofInt 2) C.1 C.2.1 dX10_act_15 rfl ?_
    obtain ⟨r4, hr4, hf⟩ := bnd_e hf
    refine j_callS C hO (n := 3) (As := [vI l2, vI 0, vI 2]) (st1 := [vI r4]) (c_X10_in l G M1 l2 0 2  hr4) kC_7_1 kM_6_23 kT_7_0 kN_1_5 ⟨by decide, by decide, by decide⟩ ⟨Nat.le_trans (by decide) hRf, Nat.le_trans (by decide) hRl⟩ rfl rfl rfl hl.1 rfl (Nat.le_of_ble_eq_true rfl) ⟨Nat.zero_le _, Nat.zero_le _⟩ dX10_act_16 rfl (fun H locs hO => ?_)
    refine j_if_ne (tgt := 24) C rfl dX10_act_19 (by decide) (fun c5 => ?_) (fun c5 => ?_)
    · have hf := (if_neg c5).symm.trans hf
      refine lv_aload_n C.1 C.2.1 dX10_act_24 rfl (lv_at hl 0 rfl) ?_
      refine lv_aload_n C.1 C.2.1 dX10_act_25 rfl (lv_at hl 0 rfl) ?_
      refine j_get C hO (ci := 10) (k := 1) (v := jR G (jpt l0 1)) h0 rfl inlX10 (by decide) kF_5_23 rfl rfl dX10_act_26 ?_
      refine lv_bipush (v := Int32.ofInt 96) C.1 C.2.1 dX10_act_29 (by decide) ?_
      refine lv_iload_n C.1 C.2.1 dX10_act_31 rfl (lv_at hl 1 rfl) ?_
      refine j_iadd C dX10_act_32 ?_
      obtain ⟨g6, hf⟩ := grd_e hf
      refine j_iald C hO (tp_10_1 h0) rfl g6.1 g6.2 dX10_act_33 ?_
      obtain ⟨M7, hM7, hf⟩ := lt1_e hf
      refine j_put C hO (ci := 10) (k := 20) (x := M1 (jpt l0 1) (w32 (96 + l1))) h0 rfl inlX10 tyX10_ok nmX10 (by decide) kF_41_7 rfl rfl rfl rfl (by simp [jfl]) (fs_10_20) dX10_act_34 (fun H locs hO => ?_)
      rw [← hM7] at hO
      refine lv_aload_n C.1 C.2.1 dX10_act_37 rfl (lv_at hl 0 rfl) ?_
      refine lv_iload_n C.1 C.2.1 dX10_act_38 rfl (lv_at hl 1 rfl) ?_
      obtain ⟨M8, hM8, hf⟩ := lt1_e hf
      refine j_put C hO (ci := 10) (k := 21) (x := l1) h0 rfl inlX10 tyX10_ok nmX10 (by decide) kF_41_8 rfl rfl rfl rfl (by simp [jfl]) (fs_10_21) dX10_act_39 (fun H locs hO => ?_)
      rw [← hM8] at hO
      refine lv_aload_n C.1 C.2.1 dX10_act_42 rfl (lv_at hl 0 rfl) ?_
      refine lv_aload_n C.1 C.2.1 dX10_act_43 rfl (lv_at hl 0 rfl) ?_
      refine j_get C hO (ci := 10) (k := 1) (v := jR G (jpt l0 1)) h0 rfl inlX10 (by decide) kF_5_23 rfl rfl dX10_act_44 ?_
      refine lv_bipush (v := Int32.ofInt 100) C.1 C.2.1 dX10_act_47 (by decide) ?_
      refine lv_iload_n C.1 C.2.1 dX10_act_49 rfl (lv_at hl 1 rfl) ?_
      refine j_iadd C dX10_act_50 ?_
      obtain ⟨g9, hf⟩ := grd_e hf
      refine j_iald C hO (tp_10_1 h0) rfl g9.1 g9.2 dX10_act_51 ?_
      obtain ⟨M10, hM10, hf⟩ := lt1_e hf
      refine j_put C hO (ci := 10) (k := 22) (x := M8 (jpt l0 1) (w32 (100 + l1))) h0 rfl inlX10 tyX10_ok nmX10 (by decide) kF_41_9 rfl rfl rfl rfl (by simp [jfl]) (fs_10_22) dX10_act_52 (fun H locs hO => ?_)
      rw [← hM10] at hO
      refine lv_iload_n C.1 C.2.1 dX10_act_55 rfl (lv_at hl 2 rfl) ?_
      refine j_if_ne (tgt := 67) C rfl dX10_act_56 (by decide) (fun c11 => ?_) (fun c11 => ?_)
      · have hf := (if_neg c11).symm.trans hf
        refine lv_iload_n C.1 C.2.1 dX10_act_67 rfl (lv_at hl 2 rfl) ?_
        refine lv_iconst (v := Int32.ofInt 1) C.1 C.2.1 dX10_act_68 rfl ?_
        refine j_icmp_ne (tgt := 80) C rfl (w32_id (by decide) (by decide)) dX10_act_69 (by decide) (fun c12 => ?_) (fun c12 => ?_)
        · have hf := (if_neg c12).symm.trans hf
          refine lv_aload_n C.1 C.2.1 dX10_act_80 rfl (lv_at hl 0 rfl) ?_
          refine lv_iload_n C.1 C.2.1 dX10_act_81 rfl (lv_at hl 3 rfl) ?_
          obtain ⟨r13, hr13, hf⟩ := bnd_e hf
          refine j_callV C hO (n := 1) (As := [vI l3]) (st1 := [vI r13.1]) (c_X10_tellsActs l G M10 l0 l3 h0 hr13) h0 rfl kC_42_12 kM_42_9 kI_42_10 kS_42_11 kN_1_5 ⟨by decide, by decide, by decide⟩ ⟨Nat.le_trans (by decide) hRf, Nat.le_trans (by decide) hRl⟩ rfl rfl rfl hl.1 rfl (Nat.le_of_ble_eq_true rfl) ⟨Nat.zero_le _, Nat.zero_le _⟩ dX10_act_82 rfl (fun H locs hO => ?_)
          have hf := som_e hf
          subst hf
          exact j_iret C hO dX10_act_85
        · have hf := (if_pos c12).symm.trans hf
          refine lv_aload_n C.1 C.2.1 dX10_act_72 rfl (lv_at hl 0 rfl) ?_
          refine lv_iload_n C.1 C.2.1 dX10_act_73 rfl (lv_at hl 3 rfl) ?_
          obtain ⟨r14, hr14, hf⟩ := bnd_e hf
          refine j_callV C hO (n := 1) (As := [vI l3]) (st1 := [vI r14.1]) (c_X10_paysActs l G M10 l0 l3 h0 hr14) h0 rfl kC_42_4 kM_42_1 kI_42_2 kS_42_3 kN_1_5 ⟨by decide, by decide, by decide⟩ ⟨Nat.le_trans (by decide) hRf, Nat.le_trans (by decide) hRl⟩ rfl rfl rfl hl.1 rfl (Nat.le_of_ble_eq_true rfl) ⟨Nat.zero_le _, Nat.zero_le _⟩ dX10_act_74 rfl (fun H locs hO => ?_)
          refine lv_goto (tgt := 85) C.1 C.2.1 dX10_act_77 (by decide) ?_
          have hf := som_e hf
          subst hf
          exact j_iret C hO dX10_act_85
      · have hf := (if_pos c11).symm.trans hf
        refine lv_aload_n C.1 C.2.1 dX10_act_59 rfl (lv_at hl 0 rfl) ?_
        refine lv_iload_n C.1 C.2.1 dX10_act_60 rfl (lv_at hl 3 rfl) ?_
        obtain ⟨r15, hr15, hf⟩ := bnd_e hf
        refine j_callV C hO (n := 1) (As := [vI l3]) (st1 := [vI r15.1]) (c_X10_picksActs l G M10 l0 l3 h0 hr15) h0 rfl kC_41_13 kM_41_10 kI_41_11 kS_41_12 kN_1_5 ⟨by decide, by decide, by decide⟩ ⟨Nat.le_trans (by decide) hRf, Nat.le_trans (by decide) hRl⟩ rfl rfl rfl hl.1 rfl (Nat.le_of_ble_eq_true rfl) ⟨Nat.zero_le _, Nat.zero_le _⟩ dX10_act_61 rfl (fun H locs hO => ?_)
        refine lv_goto (tgt := 85) C.1 C.2.1 dX10_act_64 (by decide) ?_
        have hf := som_e hf
        subst hf
        exact j_iret C hO dX10_act_85
    · have hf := (if_pos c5).symm.trans hf
      refine lv_iconst (v := Int32.ofInt 0) C.1 C.2.1 dX10_act_22 rfl ?_
      have hf := som_e hf
      subst hf
      exact j_iret C hO dX10_act_23
set_option maxHeartbeats 1000000 in
theorem c_X10_act (l : Launch) (G : jG)  (M : jM) (l0 l1 l2 l3 : Int) (h0 : jkd l0 = (10, 0)) {fin : Int × jM} (h : f_X10_act M l0 l1 l2 l3 = some fin) : Met l yX10_act (Cond.code yX10_act cX10_act 4 (some .int) :: wsL_law) ({ frames := 7, cells := 0, slots := 0, locals := 148 } : Room) (va_Pc [jR G l0, vI l1, vI l2, vI l3] (fun U => jRep G M U)) (jQ G (some (vI fin.1)) fin.2) 0 0 (jA G) := by
  refine Met.ofW (cc := cX10_act) (maxL := 4) (ret := (some .int)) (by decide) rfl ?_
  intro p e s m args below meth c s₁ B hml hv
  obtain ⟨rfl, hR0⟩ := hv
  have C : jCx p s m ([jR G l0, vI l1, vI l2, vI l3] : List Value).toArray meth c cX10_act 4 RX10 (Cond.code yX10_act cX10_act 4 (some .int)) (some .int) := ⟨B.exec, B.bytes, hml, findClass_of_methodNamed B.named, atoms_spec B.pre, B.returns, B.notSynchronized⟩
  have hO := hR0.ok
  have hl := lv_entry ([jR G l0, vI l1, vI l2, vI l3]) (n := 4) (Nat.le_of_ble_eq_true rfl)
  rw [lg_entry_eq]
  generalize (lg_sl ([jR G l0, vI l1, vI l2, vI l3]) ++ List.replicate (4 - (lg_sl ([jR G l0, vI l1, vI l2, vI l3])).length) Slot.unset).toArray = ls at hl ⊢
  have hl : lv_has ls 4 [(0, jR G l0), (1, vI l1), (2, vI l2), (3, vI l3)] := hl
  exact w_X10_act C (Nat.le_refl _) (Nat.le_refl _) M l0 l1 l2 l3 h0 h hO hl
set_option maxHeartbeats 4000000 in
theorem w_X10_trace_20 {p : Program} {l : Launch} {e : Env} {R : Room} {s : State} {m : MethodId} {args : Array Value} {below : List Frame} {meth : Method} {c : Code} {H : Heap} {locs : List Loc} {ls : Array Slot} {G : jG}  (C : jCx p s m args meth c cX10_trace 2 RX10 (Cond.code yX10_trace cX10_trace 2 (some .int)) (some .int)) (hRf : 1 ≤ R.frames) (hRl : 22 ≤ R.locals)  (M : jM) (l0 l1 s0 s1 s2 : Int) (h0 : jkd l0 = (10, 0)) {fin : Int} (hf : f_X10_trace_20 M l0 l1 s0 s1 s2 = some fin) (hO : jOk G M s H locs) (hl : lv_has ls 2 [(0, jR G l0), (1, vI l1)]) : W p l e R s m args below meth c H locs 0 0 (MQ below (jQ G (some (vI fin)) M) args s 0 0 (jA G)) (F0 m 20 ls [vI s2, vI s1, vI s0]) := by
  unfold f_X10_trace_20 at hf
  refine lv_iconst (v := Int32.ofInt 1) C.1 C.2.1 dX10_trace_20 rfl ?_
  refine j_isub C dX10_trace_21 ?_
  obtain ⟨r2, hr2, hf⟩ := bnd_e hf
  refine j_callS C hO (n := 3) (As := [vI s0, vI s1, vI (s2 - 1)]) (st1 := [vI r2]) (c_X10_in l G M s0 s1 (s2 - 1)  hr2) kC_7_1 kM_6_23 kT_7_0 kN_1_5 ⟨by decide, by decide, by decide⟩ ⟨Nat.le_trans (by decide) hRf, Nat.le_trans (by decide) hRl⟩ rfl rfl rfl hl.1 rfl (Nat.le_of_ble_eq_true rfl) ⟨Nat.zero_le _, Nat.zero_le _⟩ dX10_trace_22 rfl (fun H locs hO => ?_)
  refine j_if_eq (tgt := 37) C rfl dX10_trace_25 (by decide) (fun c3 => ?_) (fun c3 => ?_)
  · have hf := (if_pos c3).symm.trans hf
    refine lv_iconst (v := Int32.ofInt (-1)) C.1 C.2.1 dX10_trace_37 rfl ?_
    have hf := som_e hf
    subst hf
    exact j_iret C hO dX10_trace_38
  · have hf := (if_neg c3).symm.trans hf
    refine lv_aload_n C.1 C.2.1 dX10_trace_28 rfl (lv_at hl 0 rfl) ?_
    refine j_get C hO (ci := 10) (k := 18) (v := jR G (jpt l0 18)) h0 rfl inlX10 (by decide) kF_6_8 rfl rfl dX10_trace_29 ?_
    refine lv_iload_n C.1 C.2.1 dX10_trace_32 rfl (lv_at hl 1 rfl) ?_
    obtain ⟨g4, hf⟩ := grd_e hf
    refine j_iald C hO (tp_10_18 h0) rfl g4.1 g4.2 dX10_trace_33 ?_
    refine lv_goto (tgt := 38) C.1 C.2.1 dX10_trace_34 (by decide) ?_
    have hf := som_e hf
    subst hf
    exact j_iret C hO dX10_trace_38
set_option maxHeartbeats 4000000 in
theorem w_X10_trace {p : Program} {l : Launch} {e : Env} {R : Room} {s : State} {m : MethodId} {args : Array Value} {below : List Frame} {meth : Method} {c : Code} {H : Heap} {locs : List Loc} {ls : Array Slot} {G : jG}  (C : jCx p s m args meth c cX10_trace 2 RX10 (Cond.code yX10_trace cX10_trace 2 (some .int)) (some .int)) (hRf : 1 ≤ R.frames) (hRl : 22 ≤ R.locals)  (M : jM) (l0 l1 : Int) (h0 : jkd l0 = (10, 0)) {fin : Int} (hf : f_X10_trace M l0 l1 = some fin) (hO : jOk G M s H locs) (hl : lv_has ls 2 [(0, jR G l0), (1, vI l1)]) : W p l e R s m args below meth c H locs 0 0 (MQ below (jQ G (some (vI fin)) M) args s 0 0 (jA G)) (F0 m 0 ls []) := by
  unfold f_X10_trace at hf
  refine lv_iload_n C.1 C.2.1 dX10_trace_0 rfl (lv_at hl 1 rfl) ?_
  refine lv_iconst (v := Int32.ofInt 0) C.1 C.2.1 dX10_trace_1 rfl ?_
  refine lv_aload_n C.1 C.2.1 dX10_trace_2 rfl (lv_at hl 0 rfl) ?_
  refine j_get C hO (ci := 10) (k := 19) (v := vI (M l0 19)) h0 rfl inlX10 (by decide) kF_41_6 rfl rfl dX10_trace_3 ?_
  refine lv_bipush (v := Int32.ofInt 20) C.1 C.2.1 dX10_trace_6 (by decide) ?_
  refine j_icmp_ge (tgt := 18) C rfl (w32_id (by decide) (by decide)) dX10_trace_8 (by decide) (fun c1 => ?_) (fun c1 => ?_)
  · have hf := (if_pos c1).symm.trans hf
    refine lv_bipush (v := Int32.ofInt 20) C.1 C.2.1 dX10_trace_18 (by decide) ?_
    exact w_X10_trace_20 C hRf hRl M l0 l1 l1 0 20 h0 hf hO (lv_sub hl [0, 1] rfl)
  · have hf := (if_neg c1).symm.trans hf
    refine lv_aload_n C.1 C.2.1 dX10_trace_11 rfl (lv_at hl 0 rfl) ?_
    refine j_get C hO (ci := 10) (k := 19) (v := vI (M l0 19)) h0 rfl inlX10 (by decide) kF_41_6 rfl rfl dX10_trace_12 ?_
    refine lv_goto (tgt := 20) C.1 C.2.1 dX10_trace_15 (by decide) ?_
    exact w_X10_trace_20 C hRf hRl M l0 l1 l1 0 (M l0 19) h0 hf hO (lv_sub hl [0, 1] rfl)
set_option maxHeartbeats 1000000 in
theorem c_X10_trace (l : Launch) (G : jG)  (M : jM) (l0 l1 : Int) (h0 : jkd l0 = (10, 0)) {fin : Int} (h : f_X10_trace M l0 l1 = some fin) : Met l yX10_trace (Cond.code yX10_trace cX10_trace 2 (some .int) :: wsL_law) ({ frames := 1, cells := 0, slots := 0, locals := 22 } : Room) (va_Pc [jR G l0, vI l1] (fun U => jRep G M U)) (jQ G (some (vI fin)) M) 0 0 (jA G) := by
  refine Met.ofW (cc := cX10_trace) (maxL := 2) (ret := (some .int)) (by decide) rfl ?_
  intro p e s m args below meth c s₁ B hml hv
  obtain ⟨rfl, hR0⟩ := hv
  have C : jCx p s m ([jR G l0, vI l1] : List Value).toArray meth c cX10_trace 2 RX10 (Cond.code yX10_trace cX10_trace 2 (some .int)) (some .int) := ⟨B.exec, B.bytes, hml, findClass_of_methodNamed B.named, atoms_spec B.pre, B.returns, B.notSynchronized⟩
  have hO := hR0.ok
  have hl := lv_entry ([jR G l0, vI l1]) (n := 2) (Nat.le_of_ble_eq_true rfl)
  rw [lg_entry_eq]
  generalize (lg_sl ([jR G l0, vI l1]) ++ List.replicate (2 - (lg_sl ([jR G l0, vI l1])).length) Slot.unset).toArray = ls at hl ⊢
  have hl : lv_has ls 2 [(0, jR G l0), (1, vI l1)] := hl
  exact w_X10_trace C (Nat.le_refl _) (Nat.le_refl _) M l0 l1 h0 h hO hl
set_option maxHeartbeats 4000000 in
theorem w_X10_as {p : Program} {l : Launch} {e : Env} {R : Room} {s : State} {m : MethodId} {args : Array Value} {below : List Frame} {meth : Method} {c : Code} {H : Heap} {locs : List Loc} {ls : Array Slot} {G : jG}  (C : jCx p s m args meth c cX10_as 3 RX10 (Cond.code yX10_as cX10_as 3 (some .int)) (some .int)) (hRf : 2 ≤ R.frames) (hRl : 43 ≤ R.locals)  (M : jM) (l0 l1 l2 : Int) (h0 : jkd l0 = (10, 0)) {fin : Int} (hf : f_X10_as M l0 l1 l2 = some fin) (hO : jOk G M s H locs) (hl : lv_has ls 3 [(0, jR G l0), (1, vI l1), (2, vI l2)]) : W p l e R s m args below meth c H locs 0 0 (MQ below (jQ G (some (vI fin)) M) args s 0 0 (jA G)) (F0 m 0 ls []) := by
  unfold f_X10_as at hf
  refine lv_aload_n C.1 C.2.1 dX10_as_0 rfl (lv_at hl 0 rfl) ?_
  refine lv_iload_n C.1 C.2.1 dX10_as_1 rfl (lv_at hl 1 rfl) ?_
  obtain ⟨r1, hr1, hf⟩ := bnd_e hf
  refine j_callV C hO (n := 1) (As := [vI l1]) (st1 := [vI r1]) (c_X10_isPlayer l G M l0 l1 h0 hr1) h0 rfl kC_20_22 kM_20_19 kI_20_20 kS_20_21 kN_1_5 ⟨by decide, by decide, by decide⟩ ⟨Nat.le_trans (by decide) hRf, Nat.le_trans (by decide) hRl⟩ rfl rfl rfl hl.1 rfl (Nat.le_of_ble_eq_true rfl) ⟨Nat.zero_le _, Nat.zero_le _⟩ dX10_as_2 rfl (fun H locs hO => ?_)
  refine j_if_eq (tgt := 18) C rfl dX10_as_5 (by decide) (fun c2 => ?_) (fun c2 => ?_)
  · have hf := (if_pos c2).symm.trans hf
    refine lv_iconst (v := Int32.ofInt (-1)) C.1 C.2.1 dX10_as_18 rfl ?_
    have hf := som_e hf
    subst hf
    exact j_iret C hO dX10_as_19
  · have hf := (if_neg c2).symm.trans hf
    refine lv_iload_n C.1 C.2.1 dX10_as_8 rfl (lv_at hl 2 rfl) ?_
    refine lv_iconst (v := Int32.ofInt 0) C.1 C.2.1 dX10_as_9 rfl ?_
    refine lv_bipush (v := Int32.ofInt 6) C.1 C.2.1 dX10_as_10 (by decide) ?_
    obtain ⟨r3, hr3, hf⟩ := bnd_e hf
    refine j_callS C hO (n := 3) (As := [vI l2, vI 0, vI 6]) (st1 := [vI r3]) (c_X10_in l G M l2 0 6  hr3) kC_7_1 kM_6_23 kT_7_0 kN_1_5 ⟨by decide, by decide, by decide⟩ ⟨Nat.le_trans (by decide) hRf, Nat.le_trans (by decide) hRl⟩ rfl rfl rfl hl.1 rfl (Nat.le_of_ble_eq_true rfl) ⟨Nat.zero_le _, Nat.zero_le _⟩ dX10_as_12 rfl (fun H locs hO => ?_)
    refine j_if_ne (tgt := 20) C rfl dX10_as_15 (by decide) (fun c4 => ?_) (fun c4 => ?_)
    · have hf := (if_neg c4).symm.trans hf
      refine lv_aload_n C.1 C.2.1 dX10_as_20 rfl (lv_at hl 0 rfl) ?_
      refine j_get C hO (ci := 10) (k := 1) (v := jR G (jpt l0 1)) h0 rfl inlX10 (by decide) kF_5_23 rfl rfl dX10_as_21 ?_
      refine lv_bipush (v := Int32.ofInt 96) C.1 C.2.1 dX10_as_24 (by decide) ?_
      refine lv_iload_n C.1 C.2.1 dX10_as_26 rfl (lv_at hl 1 rfl) ?_
      refine j_iadd C dX10_as_27 ?_
      obtain ⟨g5, hf⟩ := grd_e hf
      refine j_iald C hO (tp_10_1 h0) rfl g5.1 g5.2 dX10_as_28 ?_
      refine lv_iload_n C.1 C.2.1 dX10_as_29 rfl (lv_at hl 2 rfl) ?_
      obtain ⟨r6, hr6, hf⟩ := bnd_e hf
      refine j_callS C hO (n := 2) (As := [vI (M (jpt l0 1) (w32 (96 + l1))), vI l2]) (st1 := [vI r6]) (c_X10_isUnder l G M (M (jpt l0 1) (w32 (96 + l1))) l2  hr6) kC_41_16 kM_41_14 kT_41_15 kN_1_5 ⟨by decide, by decide, by decide⟩ ⟨Nat.le_trans (by decide) hRf, Nat.le_trans (by decide) hRl⟩ rfl rfl rfl hl.1 rfl (Nat.le_of_ble_eq_true rfl) ⟨Nat.zero_le _, Nat.zero_le _⟩ dX10_as_30 rfl (fun H locs hO => ?_)
      refine j_if_eq (tgt := 48) C rfl dX10_as_33 (by decide) (fun c7 => ?_) (fun c7 => ?_)
      · have hf := (if_pos c7).symm.trans hf
        refine lv_bipush (v := Int32.ofInt (-6)) C.1 C.2.1 dX10_as_48 (by decide) ?_
        have hf := som_e hf
        subst hf
        exact j_iret C hO dX10_as_50
      · have hf := (if_neg c7).symm.trans hf
        refine lv_aload_n C.1 C.2.1 dX10_as_36 rfl (lv_at hl 0 rfl) ?_
        refine j_get C hO (ci := 10) (k := 1) (v := jR G (jpt l0 1)) h0 rfl inlX10 (by decide) kF_5_23 rfl rfl dX10_as_37 ?_
        refine lv_bipush (v := Int32.ofInt 100) C.1 C.2.1 dX10_as_40 (by decide) ?_
        refine lv_iload_n C.1 C.2.1 dX10_as_42 rfl (lv_at hl 1 rfl) ?_
        refine j_iadd C dX10_as_43 ?_
        obtain ⟨g8, hf⟩ := grd_e hf
        refine j_iald C hO (tp_10_1 h0) rfl g8.1 g8.2 dX10_as_44 ?_
        refine lv_goto (tgt := 50) C.1 C.2.1 dX10_as_45 (by decide) ?_
        have hf := som_e hf
        subst hf
        exact j_iret C hO dX10_as_50
    · have hf := (if_pos c4).symm.trans hf
      refine lv_iconst (v := Int32.ofInt (-1)) C.1 C.2.1 dX10_as_18 rfl ?_
      have hf := som_e hf
      subst hf
      exact j_iret C hO dX10_as_19
set_option maxHeartbeats 1000000 in
theorem c_X10_as (l : Launch) (G : jG)  (M : jM) (l0 l1 l2 : Int) (h0 : jkd l0 = (10, 0)) {fin : Int} (h : f_X10_as M l0 l1 l2 = some fin) : Met l yX10_as (Cond.code yX10_as cX10_as 3 (some .int) :: wsL_law) ({ frames := 2, cells := 0, slots := 0, locals := 43 } : Room) (va_Pc [jR G l0, vI l1, vI l2] (fun U => jRep G M U)) (jQ G (some (vI fin)) M) 0 0 (jA G) := by
  refine Met.ofW (cc := cX10_as) (maxL := 3) (ret := (some .int)) (by decide) rfl ?_
  intro p e s m args below meth c s₁ B hml hv
  obtain ⟨rfl, hR0⟩ := hv
  have C : jCx p s m ([jR G l0, vI l1, vI l2] : List Value).toArray meth c cX10_as 3 RX10 (Cond.code yX10_as cX10_as 3 (some .int)) (some .int) := ⟨B.exec, B.bytes, hml, findClass_of_methodNamed B.named, atoms_spec B.pre, B.returns, B.notSynchronized⟩
  have hO := hR0.ok
  have hl := lv_entry ([jR G l0, vI l1, vI l2]) (n := 3) (Nat.le_of_ble_eq_true rfl)
  rw [lg_entry_eq]
  generalize (lg_sl ([jR G l0, vI l1, vI l2]) ++ List.replicate (3 - (lg_sl ([jR G l0, vI l1, vI l2])).length) Slot.unset).toArray = ls at hl ⊢
  have hl : lv_has ls 3 [(0, jR G l0), (1, vI l1), (2, vI l2)] := hl
  exact w_X10_as C (Nat.le_refl _) (Nat.le_refl _) M l0 l1 l2 h0 h hO hl
set_option maxHeartbeats 4000000 in
theorem w_X10_image_L2 {p : Program} {l : Launch} {e : Env} {R : Room} {s : State} {m : MethodId} {args : Array Value} {below : List Frame} {meth : Method} {c : Code} {H : Heap} {locs : List Loc} {ls : Array Slot} {G : jG}  (C : jCx p s m args meth c cX10_image 2 RX10 (Cond.code yX10_image cX10_image 2 (some .int)) (some .int)) (hRf : 0 ≤ R.frames) (hRl : 0 ≤ R.locals)  (M : jM) (l0 : Int) (h0 : jkd l0 = (10, 0)) {fin : Int × jM} (S : jM × Int) {rr : (jM × Int) ⊕ jM} (hf : f_X10_image_L2 M l0 S = some rr) (kc : ∀ q : jM × Int, rr = .inl q → ∀ (H : Heap) (locs : List Loc) (ls : Array Slot), jOk G q.1 s H locs → lv_has ls 2 [(0, jR G l0), (1, vI q.2)] → W p l e R s m args below meth c H locs 0 0 (MQ below (jQ G (some (vI fin.1)) fin.2) args s 0 0 (jA G)) (F0 m 2 ls [])) (kx0 : ∀ q : jM, rr = .inr q → ∀ (H : Heap) (locs : List Loc) (ls : Array Slot), jOk G q s H locs → lv_has ls 2 [(0, jR G l0)] → W p l e R s m args below meth c H locs 0 0 (MQ below (jQ G (some (vI fin.1)) fin.2) args s 0 0 (jA G)) (F0 m 27 ls [])) (hO : jOk G S.1 s H locs) (hl : lv_has ls 2 [(0, jR G l0), (1, vI S.2)]) : W p l e R s m args below meth c H locs 0 0 (MQ below (jQ G (some (vI fin.1)) fin.2) args s 0 0 (jA G)) (F0 m 2 ls []) := by
  unfold f_X10_image_L2 at hf
  refine lv_iload_n C.1 C.2.1 dX10_image_2 rfl (lv_at hl 1 rfl) ?_
  refine lv_sipush (v := Int32.ofInt 952) C.1 C.2.1 dX10_image_3 (by decide) ?_
  refine j_icmp_ge (tgt := 27) C rfl (w32_id (by decide) (by decide)) dX10_image_6 (by decide) (fun c1 => ?_) (fun c1 => ?_)
  · have hf := (if_pos c1).symm.trans hf
    exact kx0 _ (som_e hf).symm _ _ _ hO (lv_sub hl [0] rfl)
  · have hf := (if_neg c1).symm.trans hf
    refine lv_aload_n C.1 C.2.1 dX10_image_9 rfl (lv_at hl 0 rfl) ?_
    refine j_get C hO (ci := 10) (k := 2) (v := jR G (jpt l0 2)) h0 rfl inlX10 (by decide) kF_6_0 rfl rfl dX10_image_10 ?_
    refine lv_iload_n C.1 C.2.1 dX10_image_13 rfl (lv_at hl 1 rfl) ?_
    refine lv_aload_n C.1 C.2.1 dX10_image_14 rfl (lv_at hl 0 rfl) ?_
    refine j_get C hO (ci := 10) (k := 1) (v := jR G (jpt l0 1)) h0 rfl inlX10 (by decide) kF_5_23 rfl rfl dX10_image_15 ?_
    refine lv_iload_n C.1 C.2.1 dX10_image_18 rfl (lv_at hl 1 rfl) ?_
    obtain ⟨g2, hf⟩ := grd_e hf
    refine j_iald C hO (tp_10_1 h0) rfl g2.1 g2.2 dX10_image_19 ?_
    obtain ⟨g3, hf⟩ := grd_e hf
    obtain ⟨M4, hM4, hf⟩ := lt1_e hf
    refine j_iast C hO (x := S.1 (jpt l0 1) (w32 S.2)) (tp_10_2 h0) rfl g3.1 g3.2 dX10_image_20 (fun H locs hO => ?_)
    rw [← hM4] at hO
    refine lv_iinc (v := Int32.ofInt (S.2 + 1)) (lv' := [(1, vI (S.2 + 1)), (0, jR G l0)]) C.1 C.2.1 dX10_image_21 hl (k := 1) rfl (Int32.ofInt_add _ _).symm (by decide) rfl (fun ls hl => ?_)
    refine lv_goto (tgt := 2) C.1 C.2.1 dX10_image_24 (by decide) ?_
    exact kc _ (som_e hf).symm _ _ _ hO (lv_sub hl [1, 0] rfl)
set_option maxHeartbeats 4000000 in
theorem w_X10_image {p : Program} {l : Launch} {e : Env} {R : Room} {s : State} {m : MethodId} {args : Array Value} {below : List Frame} {meth : Method} {c : Code} {H : Heap} {locs : List Loc} {ls : Array Slot} {G : jG}  (C : jCx p s m args meth c cX10_image 2 RX10 (Cond.code yX10_image cX10_image 2 (some .int)) (some .int)) (hRf : 0 ≤ R.frames) (hRl : 0 ≤ R.locals)  (M : jM) (l0 : Int) (h0 : jkd l0 = (10, 0)) {fin : Int × jM} (hf : f_X10_image M l0 = some fin) (hO : jOk G M s H locs) (hl : lv_has ls 2 [(0, jR G l0)]) : W p l e R s m args below meth c H locs 0 0 (MQ below (jQ G (some (vI fin.1)) fin.2) args s 0 0 (jA G)) (F0 m 0 ls []) := by
  unfold f_X10_image at hf
  refine lv_iconst (v := Int32.ofInt 0) C.1 C.2.1 dX10_image_0 rfl ?_
  refine lv_istore_n (lv' := [(1, vI 0), (0, jR G l0)]) C.1 C.2.1 dX10_image_1 rfl hl (by decide) rfl (fun ls hl => ?_)
  obtain ⟨x5, hx5, hf⟩ := bnd_e hf
  refine iter_e (P := fun Z => ∀ (H : Heap) (locs : List Loc) (ls : Array Slot), jOk G Z.1 s H locs → lv_has ls 2 [(0, jR G l0), (1, vI Z.2)] → W p l e R s m args below meth c H locs 0 0 (MQ below (jQ G (some (vI fin.1)) fin.2) args s 0 0 (jA G)) (F0 m 2 ls [])) (E := fun q => ∀ (H : Heap) (locs : List Loc) (ls : Array Slot), jOk G q s H locs → lv_has ls 2 [(0, jR G l0)] → W p l e R s m args below meth c H locs 0 0 (MQ below (jQ G (some (vI fin.1)) fin.2) args s 0 0 (jA G)) (F0 m 27 ls [])) (fun Z rr hb kc kx H locs ls hO hl => w_X10_image_L2 C hRf hRl M l0 h0 Z hb kc (fun q e => kx q e) hO hl) 5000 (M, 0) x5 hx5 ?_ _ _ _ hO (lv_sub hl [1, 0] rfl)
  clear hO hl
  intro H locs ls hO hl
  refine lv_aload_n C.1 C.2.1 dX10_image_27 rfl (lv_at hl 0 rfl) ?_
  refine lv_iconst (v := Int32.ofInt 1) C.1 C.2.1 dX10_image_28 rfl ?_
  obtain ⟨M6, hM6, hf⟩ := lt1_e hf
  refine j_put C hO (ci := 10) (k := 3) (x := 1) h0 rfl inlX10 tyX10_ok nmX10 (by decide) kF_44_4 rfl rfl (jz_n (Or.inr rfl)) (jz_f (Or.inr rfl)) (by simp [jfl]) (fs_10_3) dX10_image_29 (fun H locs hO => ?_)
  rw [← hM6] at hO
  refine lv_aload_n C.1 C.2.1 dX10_image_32 rfl (lv_at hl 0 rfl) ?_
  refine j_get C hO (ci := 10) (k := 1) (v := jR G (jpt l0 1)) h0 rfl inlX10 (by decide) kF_5_23 rfl rfl dX10_image_33 ?_
  refine lv_iconst (v := Int32.ofInt 0) C.1 C.2.1 dX10_image_36 rfl ?_
  refine j_iald C hO (tp_10_1 h0) (w32_id (by decide) (by decide)) (by decide) (by decide) dX10_image_37 ?_
  have hf := som_e hf
  subst hf
  exact j_iret C hO dX10_image_38
set_option maxHeartbeats 1000000 in
theorem c_X10_image (l : Launch) (G : jG)  (M : jM) (l0 : Int) (h0 : jkd l0 = (10, 0)) {fin : Int × jM} (h : f_X10_image M l0 = some fin) : Met l yX10_image (Cond.code yX10_image cX10_image 2 (some .int) :: wsL_law) ({ frames := 0, cells := 0, slots := 0, locals := 0 } : Room) (va_Pc [jR G l0] (fun U => jRep G M U)) (jQ G (some (vI fin.1)) fin.2) 0 0 (jA G) := by
  refine Met.ofW (cc := cX10_image) (maxL := 2) (ret := (some .int)) (by decide) rfl ?_
  intro p e s m args below meth c s₁ B hml hv
  obtain ⟨rfl, hR0⟩ := hv
  have C : jCx p s m ([jR G l0] : List Value).toArray meth c cX10_image 2 RX10 (Cond.code yX10_image cX10_image 2 (some .int)) (some .int) := ⟨B.exec, B.bytes, hml, findClass_of_methodNamed B.named, atoms_spec B.pre, B.returns, B.notSynchronized⟩
  have hO := hR0.ok
  have hl := lv_entry ([jR G l0]) (n := 2) (Nat.le_of_ble_eq_true rfl)
  rw [lg_entry_eq]
  generalize (lg_sl ([jR G l0]) ++ List.replicate (2 - (lg_sl ([jR G l0])).length) Slot.unset).toArray = ls at hl ⊢
  have hl : lv_has ls 2 [(0, jR G l0)] := hl
  exact w_X10_image C (Nat.le_refl _) (Nat.le_refl _) M l0 h0 h hO hl
set_option maxHeartbeats 4000000 in
theorem w_X10_undo_L12 {p : Program} {l : Launch} {e : Env} {R : Room} {s : State} {m : MethodId} {args : Array Value} {below : List Frame} {meth : Method} {c : Code} {H : Heap} {locs : List Loc} {ls : Array Slot} {G : jG}  (C : jCx p s m args meth c cX10_undo 2 RX10 (Cond.code yX10_undo cX10_undo 2 (some .int)) (some .int)) (hRf : 0 ≤ R.frames) (hRl : 0 ≤ R.locals)  (M : jM) (l0 : Int) (h0 : jkd l0 = (10, 0)) {fin : Int × jM} (S : jM × Int) {rr : (jM × Int) ⊕ jM} (hf : f_X10_undo_L12 M l0 S = some rr) (kc : ∀ q : jM × Int, rr = .inl q → ∀ (H : Heap) (locs : List Loc) (ls : Array Slot), jOk G q.1 s H locs → lv_has ls 2 [(0, jR G l0), (1, vI q.2)] → W p l e R s m args below meth c H locs 0 0 (MQ below (jQ G (some (vI fin.1)) fin.2) args s 0 0 (jA G)) (F0 m 12 ls [])) (kx0 : ∀ q : jM, rr = .inr q → ∀ (H : Heap) (locs : List Loc) (ls : Array Slot), jOk G q s H locs → lv_has ls 2 [(0, jR G l0)] → W p l e R s m args below meth c H locs 0 0 (MQ below (jQ G (some (vI fin.1)) fin.2) args s 0 0 (jA G)) (F0 m 37 ls [])) (hO : jOk G S.1 s H locs) (hl : lv_has ls 2 [(0, jR G l0), (1, vI S.2)]) : W p l e R s m args below meth c H locs 0 0 (MQ below (jQ G (some (vI fin.1)) fin.2) args s 0 0 (jA G)) (F0 m 12 ls []) := by
  unfold f_X10_undo_L12 at hf
  refine lv_iload_n C.1 C.2.1 dX10_undo_12 rfl (lv_at hl 1 rfl) ?_
  refine lv_sipush (v := Int32.ofInt 952) C.1 C.2.1 dX10_undo_13 (by decide) ?_
  refine j_icmp_ge (tgt := 37) C rfl (w32_id (by decide) (by decide)) dX10_undo_16 (by decide) (fun c2 => ?_) (fun c2 => ?_)
  · have hf := (if_pos c2).symm.trans hf
    exact kx0 _ (som_e hf).symm _ _ _ hO (lv_sub hl [0] rfl)
  · have hf := (if_neg c2).symm.trans hf
    refine lv_aload_n C.1 C.2.1 dX10_undo_19 rfl (lv_at hl 0 rfl) ?_
    refine j_get C hO (ci := 10) (k := 1) (v := jR G (jpt l0 1)) h0 rfl inlX10 (by decide) kF_5_23 rfl rfl dX10_undo_20 ?_
    refine lv_iload_n C.1 C.2.1 dX10_undo_23 rfl (lv_at hl 1 rfl) ?_
    refine lv_aload_n C.1 C.2.1 dX10_undo_24 rfl (lv_at hl 0 rfl) ?_
    refine j_get C hO (ci := 10) (k := 2) (v := jR G (jpt l0 2)) h0 rfl inlX10 (by decide) kF_6_0 rfl rfl dX10_undo_25 ?_
    refine lv_iload_n C.1 C.2.1 dX10_undo_28 rfl (lv_at hl 1 rfl) ?_
    obtain ⟨g3, hf⟩ := grd_e hf
    refine j_iald C hO (tp_10_2 h0) rfl g3.1 g3.2 dX10_undo_29 ?_
    obtain ⟨g4, hf⟩ := grd_e hf
    obtain ⟨M5, hM5, hf⟩ := lt1_e hf
    refine j_iast C hO (x := S.1 (jpt l0 2) (w32 S.2)) (tp_10_1 h0) rfl g4.1 g4.2 dX10_undo_30 (fun H locs hO => ?_)
    rw [← hM5] at hO
    refine lv_iinc (v := Int32.ofInt (S.2 + 1)) (lv' := [(1, vI (S.2 + 1)), (0, jR G l0)]) C.1 C.2.1 dX10_undo_31 hl (k := 1) rfl (Int32.ofInt_add _ _).symm (by decide) rfl (fun ls hl => ?_)
    refine lv_goto (tgt := 12) C.1 C.2.1 dX10_undo_34 (by decide) ?_
    exact kc _ (som_e hf).symm _ _ _ hO (lv_sub hl [1, 0] rfl)
set_option maxHeartbeats 4000000 in
theorem w_X10_undo {p : Program} {l : Launch} {e : Env} {R : Room} {s : State} {m : MethodId} {args : Array Value} {below : List Frame} {meth : Method} {c : Code} {H : Heap} {locs : List Loc} {ls : Array Slot} {G : jG}  (C : jCx p s m args meth c cX10_undo 2 RX10 (Cond.code yX10_undo cX10_undo 2 (some .int)) (some .int)) (hRf : 0 ≤ R.frames) (hRl : 0 ≤ R.locals)  (M : jM) (l0 : Int) (h0 : jkd l0 = (10, 0)) {fin : Int × jM} (hf : f_X10_undo M l0 = some fin) (hO : jOk G M s H locs) (hl : lv_has ls 2 [(0, jR G l0)]) : W p l e R s m args below meth c H locs 0 0 (MQ below (jQ G (some (vI fin.1)) fin.2) args s 0 0 (jA G)) (F0 m 0 ls []) := by
  unfold f_X10_undo at hf
  refine lv_aload_n C.1 C.2.1 dX10_undo_0 rfl (lv_at hl 0 rfl) ?_
  refine j_get C hO (ci := 10) (k := 3) (v := vI (M l0 3)) h0 rfl inlX10 (by decide) kF_44_4 rfl rfl dX10_undo_1 ?_
  refine j_if_ne (tgt := 10) C rfl dX10_undo_4 (by decide) (fun c1 => ?_) (fun c1 => ?_)
  · have hf := (if_neg c1).symm.trans hf
    refine lv_iconst (v := Int32.ofInt 0) C.1 C.2.1 dX10_undo_10 rfl ?_
    refine lv_istore_n (lv' := [(1, vI 0), (0, jR G l0)]) C.1 C.2.1 dX10_undo_11 rfl hl (by decide) rfl (fun ls hl => ?_)
    obtain ⟨x6, hx6, hf⟩ := bnd_e hf
    refine iter_e (P := fun Z => ∀ (H : Heap) (locs : List Loc) (ls : Array Slot), jOk G Z.1 s H locs → lv_has ls 2 [(0, jR G l0), (1, vI Z.2)] → W p l e R s m args below meth c H locs 0 0 (MQ below (jQ G (some (vI fin.1)) fin.2) args s 0 0 (jA G)) (F0 m 12 ls [])) (E := fun q => ∀ (H : Heap) (locs : List Loc) (ls : Array Slot), jOk G q s H locs → lv_has ls 2 [(0, jR G l0)] → W p l e R s m args below meth c H locs 0 0 (MQ below (jQ G (some (vI fin.1)) fin.2) args s 0 0 (jA G)) (F0 m 37 ls [])) (fun Z rr hb kc kx H locs ls hO hl => w_X10_undo_L12 C hRf hRl M l0 h0 Z hb kc (fun q e => kx q e) hO hl) 5000 (M, 0) x6 hx6 ?_ _ _ _ hO (lv_sub hl [1, 0] rfl)
    clear hO hl
    intro H locs ls hO hl
    refine lv_aload_n C.1 C.2.1 dX10_undo_37 rfl (lv_at hl 0 rfl) ?_
    refine j_get C hO (ci := 10) (k := 1) (v := jR G (jpt l0 1)) h0 rfl inlX10 (by decide) kF_5_23 rfl rfl dX10_undo_38 ?_
    refine lv_iconst (v := Int32.ofInt 0) C.1 C.2.1 dX10_undo_41 rfl ?_
    refine j_iald C hO (tp_10_1 h0) (w32_id (by decide) (by decide)) (by decide) (by decide) dX10_undo_42 ?_
    have hf := som_e hf
    subst hf
    exact j_iret C hO dX10_undo_43
  · have hf := (if_pos c1).symm.trans hf
    refine lv_bipush (v := Int32.ofInt (-3)) C.1 C.2.1 dX10_undo_7 (by decide) ?_
    have hf := som_e hf
    subst hf
    exact j_iret C hO dX10_undo_9
set_option maxHeartbeats 1000000 in
theorem c_X10_undo (l : Launch) (G : jG)  (M : jM) (l0 : Int) (h0 : jkd l0 = (10, 0)) {fin : Int × jM} (h : f_X10_undo M l0 = some fin) : Met l yX10_undo (Cond.code yX10_undo cX10_undo 2 (some .int) :: wsL_law) ({ frames := 0, cells := 0, slots := 0, locals := 0 } : Room) (va_Pc [jR G l0] (fun U => jRep G M U)) (jQ G (some (vI fin.1)) fin.2) 0 0 (jA G) := by
  refine Met.ofW (cc := cX10_undo) (maxL := 2) (ret := (some .int)) (by decide) rfl ?_
  intro p e s m args below meth c s₁ B hml hv
  obtain ⟨rfl, hR0⟩ := hv
  have C : jCx p s m ([jR G l0] : List Value).toArray meth c cX10_undo 2 RX10 (Cond.code yX10_undo cX10_undo 2 (some .int)) (some .int) := ⟨B.exec, B.bytes, hml, findClass_of_methodNamed B.named, atoms_spec B.pre, B.returns, B.notSynchronized⟩
  have hO := hR0.ok
  have hl := lv_entry ([jR G l0]) (n := 2) (Nat.le_of_ble_eq_true rfl)
  rw [lg_entry_eq]
  generalize (lg_sl ([jR G l0]) ++ List.replicate (2 - (lg_sl ([jR G l0])).length) Slot.unset).toArray = ls at hl ⊢
  have hl : lv_has ls 2 [(0, jR G l0)] := hl
  exact w_X10_undo C (Nat.le_refl _) (Nat.le_refl _) M l0 h0 h hO hl
