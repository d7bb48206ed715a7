set_option maxHeartbeats 4000000 in
theorem w_X7_placesOf_80 {p : Program} {l : Launch} {e : Env} {R : Room} {s : State} {m : MethodId} {args : Array Value} {below : List Frame} {meth : Method} {c : Code} {H : Heap} {locs : List Loc} {ls : Array Slot} {G : jG}  (C : jCx p s m args meth c cX7_placesOf 9 RX7 (Cond.code yX7_placesOf cX7_placesOf 9 (some .long)) (some .long)) (hRf : 1 ≤ R.frames) (hRl : 22 ≤ R.locals)  (M : jM) (l0 l1 l2 l3 l5 l6 l7 : Int) {fin : Int} {rr : (Int × Int) ⊕ Int} (hf : f_X7_placesOf_80 M l0 l1 l2 l3 l5 l6 l7 = some rr) (kc : ∀ q : Int × Int, rr = .inl q → ∀ (H : Heap) (locs : List Loc) (ls : Array Slot), jOk G M s H locs → lv_has ls 9 [(0, vI l0), (1, vI l1), (2, vI l2), (3, vL q.1), (5, vI l5), (6, vI l6), (7, vI q.2)] → W p l e R s m args below meth c H locs 0 0 (MQ below (jQ G (some (vL fin)) M) args s 0 0 (jA G)) (F0 m 23 ls [])) (kx0 : ∀ q : Int, rr = .inr q → ∀ (H : Heap) (locs : List Loc) (ls : Array Slot), jOk G M s H locs → lv_has ls 9 [(0, vI l0), (1, vI l1), (2, vI l2), (3, vL q), (5, vI l5), (6, vI l6)] → W p l e R s m args below meth c H locs 0 0 (MQ below (jQ G (some (vL fin)) M) args s 0 0 (jA G)) (F0 m 86 ls [])) (hO : jOk G M s H locs) (hl : lv_has ls 9 [(0, vI l0), (1, vI l1), (2, vI l2), (3, vL l3), (5, vI l5), (6, vI l6), (7, vI l7)]) : W p l e R s m args below meth c H locs 0 0 (MQ below (jQ G (some (vL fin)) M) args s 0 0 (jA G)) (F0 m 80 ls []) := by
  unfold f_X7_placesOf_80 at hf
  refine lv_iinc (v := Int32.ofInt (l7 + 1)) (lv' := [(7, vI (l7 + 1)), (0, vI l0), (1, vI l1), (2, vI l2), (3, vL l3), (5, vI l5), (6, vI l6)]) C.1 C.2.1 dX7_placesOf_80 hl (k := 6) rfl (Int32.ofInt_add _ _).symm (by decide) rfl (fun ls hl => ?_)
  refine lv_goto (tgt := 23) C.1 C.2.1 dX7_placesOf_83 (by decide) ?_
  exact kc _ (som_e hf).symm _ _ _ hO (lv_sub hl [1, 2, 3, 4, 5, 6, 0] rfl)
set_option maxHeartbeats 4000000 in
theorem w_X7_placesOf_54 {p : Program} {l : Launch} {e : Env} {R : Room} {s : State} {m : MethodId} {args : Array Value} {below : List Frame} {meth : Method} {c : Code} {H : Heap} {locs : List Loc} {ls : Array Slot} {G : jG}  (C : jCx p s m args meth c cX7_placesOf 9 RX7 (Cond.code yX7_placesOf cX7_placesOf 9 (some .long)) (some .long)) (hRf : 1 ≤ R.frames) (hRl : 22 ≤ R.locals)  (M : jM) (l0 l1 l2 l3 l5 l6 l7 s0 : Int) {fin : Int} {rr : (Int × Int) ⊕ Int} (hf : f_X7_placesOf_54 M l0 l1 l2 l3 l5 l6 l7 s0 = some rr) (kc : ∀ q : Int × Int, rr = .inl q → ∀ (H : Heap) (locs : List Loc) (ls : Array Slot), jOk G M s H locs → lv_has ls 9 [(0, vI l0), (1, vI l1), (2, vI l2), (3, vL q.1), (5, vI l5), (6, vI l6), (7, vI q.2)] → W p l e R s m args below meth c H locs 0 0 (MQ below (jQ G (some (vL fin)) M) args s 0 0 (jA G)) (F0 m 23 ls [])) (kx0 : ∀ q : Int, rr = .inr q → ∀ (H : Heap) (locs : List Loc) (ls : Array Slot), jOk G M s H locs → lv_has ls 9 [(0, vI l0), (1, vI l1), (2, vI l2), (3, vL q), (5, vI l5), (6, vI l6)] → W p l e R s m args below meth c H locs 0 0 (MQ below (jQ G (some (vL fin)) M) args s 0 0 (jA G)) (F0 m 86 ls [])) (hO : jOk G M s H locs) (hl : lv_has ls 9 [(0, vI l0), (1, vI l1), (2, vI l2), (3, vL l3), (5, vI l5), (6, vI l6), (7, vI l7)]) : W p l e R s m args below meth c H locs 0 0 (MQ below (jQ G (some (vL fin)) M) args s 0 0 (jA G)) (F0 m 54 ls [vI s0]) := by
  unfold f_X7_placesOf_54 at hf
  refine lv_istore (lv' := [(8, vI s0), (0, vI l0), (1, vI l1), (2, vI l2), (3, vL l3), (5, vI l5), (6, vI l6), (7, vI l7)]) C.1 C.2.1 dX7_placesOf_54 hl (by decide) rfl (fun ls hl => ?_)
  refine lv_iload C.1 C.2.1 dX7_placesOf_56 (lv_at hl 0 rfl) ?_
  refine lv_iload_n C.1 C.2.1 dX7_placesOf_58 rfl (lv_at hl 2 rfl) ?_
  refine lv_iload_n C.1 C.2.1 dX7_placesOf_59 rfl (lv_at hl 3 rfl) ?_
  obtain ⟨r6, hr6, hf⟩ := bnd_e hf
  refine j_callS C hO (n := 3) (As := [vI s0, vI l1, vI l2]) (st1 := [vI r6]) (c_X7_holds l G M s0 l1 l2  hr6) kC_11_20 kM_11_18 kT_11_19 kN_1_20 ⟨by decide, by decide, by decide⟩ ⟨Nat.le_trans (by decide) hRf, Nat.le_trans (by decide) hRl⟩ rfl rfl rfl hl.1 rfl (Nat.le_of_ble_eq_true rfl) ⟨Nat.zero_le _, Nat.zero_le _⟩ dX7_placesOf_60 rfl (fun H locs hO => ?_)
  refine j_if_eq (tgt := 80) C rfl dX7_placesOf_63 (by decide) (fun c7 => ?_) (fun c7 => ?_)
  · have hf := (if_pos c7).symm.trans hf
    exact w_X7_placesOf_80 C hRf hRl M l0 l1 l2 l3 l5 l6 l7  hf kc kx0 hO (lv_sub hl [1, 2, 3, 4, 5, 6, 7] rfl)
  · have hf := (if_neg c7).symm.trans hf
    refine lv_lload_n C.1 C.2.1 dX7_placesOf_66 rfl (lv_at hl 4 rfl) ?_
    refine lv_lconst (v := Int64.ofInt 1) C.1 C.2.1 dX7_placesOf_67 (by decide) ?_
    refine lv_iload C.1 C.2.1 dX7_placesOf_68 (lv_at hl 5 rfl) ?_
    refine lv_iload C.1 C.2.1 dX7_placesOf_70 (lv_at hl 6 rfl) ?_
    refine lv_iload C.1 C.2.1 dX7_placesOf_72 (lv_at hl 7 rfl) ?_
    obtain ⟨r8, hr8, hf⟩ := bnd_e hf
    refine j_callS C hO (n := 3) (As := [vI l5, vI l6, vI l7]) (st1 := [vI r8, vL 1, vL l3]) (c_X7_place l G M l5 l6 l7  hr8) kC_11_23 kM_11_21 kT_11_22 kN_1_20 ⟨by decide, by decide, by decide⟩ ⟨Nat.le_trans (by decide) hRf, Nat.le_trans (by decide) hRl⟩ rfl rfl rfl hl.1 rfl (Nat.le_of_ble_eq_true rfl) ⟨Nat.zero_le _, Nat.zero_le _⟩ dX7_placesOf_74 rfl (fun H locs hO => ?_)
    refine j_lshl C dX7_placesOf_77 ?_
    refine j_lor C dX7_placesOf_78 ?_
    refine lv_lstore_n (lv' := [(3, vL (lor l3 (lshl 1 r8))), (8, vI s0), (0, vI l0), (1, vI l1), (2, vI l2), (5, vI l5), (6, vI l6), (7, vI l7)]) C.1 C.2.1 dX7_placesOf_79 rfl hl (by decide) rfl (fun ls hl => ?_)
    exact w_X7_placesOf_80 C hRf hRl M l0 l1 l2 (lor l3 (lshl 1 r8)) l5 l6 l7  hf kc kx0 hO (lv_sub hl [2, 3, 4, 0, 5, 6, 7] rfl)
set_option maxHeartbeats 4000000 in
theorem w_X7_placesOf_L23 {p : Program} {l : Launch} {e : Env} {R : Room} {s : State} {m : MethodId} {args : Array Value} {below : List Frame} {meth : Method} {c : Code} {H : Heap} {locs : List Loc} {ls : Array Slot} {G : jG}  (C : jCx p s m args meth c cX7_placesOf 9 RX7 (Cond.code yX7_placesOf cX7_placesOf 9 (some .long)) (some .long)) (hRf : 1 ≤ R.frames) (hRl : 22 ≤ R.locals)  (M : jM) (l0 l1 l2 l5 l6 : Int) {fin : Int} (S : Int × Int) {rr : (Int × Int) ⊕ Int} (hf : f_X7_placesOf_L23 M l0 l1 l2 l5 l6 S = some rr) (kc : ∀ q : Int × Int, rr = .inl q → ∀ (H : Heap) (locs : List Loc) (ls : Array Slot), jOk G M s H locs → lv_has ls 9 [(0, vI l0), (1, vI l1), (2, vI l2), (3, vL q.1), (5, vI l5), (6, vI l6), (7, vI q.2)] → W p l e R s m args below meth c H locs 0 0 (MQ below (jQ G (some (vL fin)) M) args s 0 0 (jA G)) (F0 m 23 ls [])) (kx0 : ∀ q : Int, rr = .inr q → ∀ (H : Heap) (locs : List Loc) (ls : Array Slot), jOk G M s H locs → lv_has ls 9 [(0, vI l0), (1, vI l1), (2, vI l2), (3, vL q), (5, vI l5), (6, vI l6)] → W p l e R s m args below meth c H locs 0 0 (MQ below (jQ G (some (vL fin)) M) args s 0 0 (jA G)) (F0 m 86 ls [])) (hO : jOk G M s H locs) (hl : lv_has ls 9 [(0, vI l0), (1, vI l1), (2, vI l2), (3, vL S.1), (5, vI l5), (6, vI l6), (7, vI S.2)]) : W p l e R s m args below meth c H locs 0 0 (MQ below (jQ G (some (vL fin)) M) args s 0 0 (jA G)) (F0 m 23 ls []) := by
  unfold f_X7_placesOf_L23 at hf
  refine lv_iload C.1 C.2.1 dX7_placesOf_23 (lv_at hl 6 rfl) ?_
  refine lv_bipush (v := Int32.ofInt 10) C.1 C.2.1 dX7_placesOf_25 (by decide) ?_
  refine j_icmp_ge (tgt := 86) C rfl (w32_id (by decide) (by decide)) dX7_placesOf_27 (by decide) (fun c3 => ?_) (fun c3 => ?_)
  · have hf := (if_pos c3).symm.trans hf
    exact kx0 _ (som_e hf).symm _ _ _ hO (lv_sub hl [0, 1, 2, 3, 4, 5] rfl)
  · have hf := (if_neg c3).symm.trans hf
    refine lv_iload_n C.1 C.2.1 dX7_placesOf_30 rfl (lv_at hl 0 rfl) ?_
    refine lv_bipush (v := Int32.ofInt 115) C.1 C.2.1 dX7_placesOf_31 (by decide) ?_
    refine j_icmp_ne (tgt := 41) C rfl (w32_id (by decide) (by decide)) dX7_placesOf_33 (by decide) (fun c4 => ?_) (fun c4 => ?_)
    · have hf := (if_neg c4).symm.trans hf
      refine lv_iload_n C.1 C.2.1 dX7_placesOf_41 rfl (lv_at hl 0 rfl) ?_
      refine lv_bipush (v := Int32.ofInt 103) C.1 C.2.1 dX7_placesOf_42 (by decide) ?_
      refine j_icmp_ne (tgt := 52) C rfl (w32_id (by decide) (by decide)) dX7_placesOf_44 (by decide) (fun c5 => ?_) (fun c5 => ?_)
      · have hf := (if_neg c5).symm.trans hf
        refine lv_iload C.1 C.2.1 dX7_placesOf_52 (lv_at hl 6 rfl) ?_
        exact w_X7_placesOf_54 C hRf hRl M l0 l1 l2 S.1 l5 l6 S.2 S.2  hf kc kx0 hO (lv_sub hl [0, 1, 2, 3, 4, 5, 6] rfl)
      · have hf := (if_pos c5).symm.trans hf
        refine lv_iload C.1 C.2.1 dX7_placesOf_47 (lv_at hl 4 rfl) ?_
        refine lv_goto (tgt := 54) C.1 C.2.1 dX7_placesOf_49 (by decide) ?_
        exact w_X7_placesOf_54 C hRf hRl M l0 l1 l2 S.1 l5 l6 S.2 l5  hf kc kx0 hO (lv_sub hl [0, 1, 2, 3, 4, 5, 6] rfl)
    · have hf := (if_pos c4).symm.trans hf
      refine lv_iload C.1 C.2.1 dX7_placesOf_36 (lv_at hl 5 rfl) ?_
      refine lv_goto (tgt := 54) C.1 C.2.1 dX7_placesOf_38 (by decide) ?_
      exact w_X7_placesOf_54 C hRf hRl M l0 l1 l2 S.1 l5 l6 S.2 l6  hf kc kx0 hO (lv_sub hl [0, 1, 2, 3, 4, 5, 6] rfl)
set_option maxHeartbeats 4000000 in
theorem w_X7_placesOf_L14 {p : Program} {l : Launch} {e : Env} {R : Room} {s : State} {m : MethodId} {args : Array Value} {below : List Frame} {meth : Method} {c : Code} {H : Heap} {locs : List Loc} {ls : Array Slot} {G : jG}  (C : jCx p s m args meth c cX7_placesOf 9 RX7 (Cond.code yX7_placesOf cX7_placesOf 9 (some .long)) (some .long)) (hRf : 1 ≤ R.frames) (hRl : 22 ≤ R.locals)  (M : jM) (l0 l1 l2 l5 : Int) {fin : Int} (S : Int × Int) {rr : (Int × Int) ⊕ Int} (hf : f_X7_placesOf_L14 M l0 l1 l2 l5 S = some rr) (kc : ∀ q : Int × Int, rr = .inl q → ∀ (H : Heap) (locs : List Loc) (ls : Array Slot), jOk G M s H locs → lv_has ls 9 [(0, vI l0), (1, vI l1), (2, vI l2), (3, vL q.1), (5, vI l5), (6, vI q.2)] → W p l e R s m args below meth c H locs 0 0 (MQ below (jQ G (some (vL fin)) M) args s 0 0 (jA G)) (F0 m 14 ls [])) (kx0 : ∀ q : Int, rr = .inr q → ∀ (H : Heap) (locs : List Loc) (ls : Array Slot), jOk G M s H locs → lv_has ls 9 [(0, vI l0), (1, vI l1), (2, vI l2), (3, vL q), (5, vI l5)] → W p l e R s m args below meth c H locs 0 0 (MQ below (jQ G (some (vL fin)) M) args s 0 0 (jA G)) (F0 m 92 ls [])) (hO : jOk G M s H locs) (hl : lv_has ls 9 [(0, vI l0), (1, vI l1), (2, vI l2), (3, vL S.1), (5, vI l5), (6, vI S.2)]) : W p l e R s m args below meth c H locs 0 0 (MQ below (jQ G (some (vL fin)) M) args s 0 0 (jA G)) (F0 m 14 ls []) := by
  unfold f_X7_placesOf_L14 at hf
  refine lv_iload C.1 C.2.1 dX7_placesOf_14 (lv_at hl 5 rfl) ?_
  refine lv_iconst (v := Int32.ofInt 3) C.1 C.2.1 dX7_placesOf_16 rfl ?_
  refine j_icmp_ge (tgt := 92) C rfl (w32_id (by decide) (by decide)) dX7_placesOf_17 (by decide) (fun c2 => ?_) (fun c2 => ?_)
  · have hf := (if_pos c2).symm.trans hf
    exact kx0 _ (som_e hf).symm _ _ _ hO (lv_sub hl [0, 1, 2, 3, 4] rfl)
  · have hf := (if_neg c2).symm.trans hf
    refine lv_iconst (v := Int32.ofInt 0) C.1 C.2.1 dX7_placesOf_20 rfl ?_
    refine lv_istore (lv' := [(7, vI 0), (0, vI l0), (1, vI l1), (2, vI l2), (3, vL S.1), (5, vI l5), (6, vI S.2)]) C.1 C.2.1 dX7_placesOf_21 hl (by decide) rfl (fun ls hl => ?_)
    obtain ⟨x9, hx9, hf⟩ := bnd_e hf
    refine iter_e (P := fun Z => ∀ (H : Heap) (locs : List Loc) (ls : Array Slot), jOk G M s H locs → lv_has ls 9 [(0, vI l0), (1, vI l1), (2, vI l2), (3, vL Z.1), (5, vI l5), (6, vI S.2), (7, vI Z.2)] → W p l e R s m args below meth c H locs 0 0 (MQ below (jQ G (some (vL fin)) M) args s 0 0 (jA G)) (F0 m 23 ls [])) (E := fun q => ∀ (H : Heap) (locs : List Loc) (ls : Array Slot), jOk G M s H locs → lv_has ls 9 [(0, vI l0), (1, vI l1), (2, vI l2), (3, vL q), (5, vI l5), (6, vI S.2)] → W p l e R s m args below meth c H locs 0 0 (MQ below (jQ G (some (vL fin)) M) args s 0 0 (jA G)) (F0 m 86 ls [])) (fun Z rr hb kc kx H locs ls hO hl => w_X7_placesOf_L23 C hRf hRl M l0 l1 l2 l5 S.2  Z hb kc (fun q e => kx q e) hO hl) 5000 (S.1, 0) x9 hx9 ?_ _ _ _ hO (lv_sub hl [1, 2, 3, 4, 5, 6, 0] rfl)
    clear hO hl
    intro H locs ls hO hl
    refine lv_iinc (v := Int32.ofInt (S.2 + 1)) (lv' := [(6, vI (S.2 + 1)), (0, vI l0), (1, vI l1), (2, vI l2), (3, vL x9), (5, vI l5)]) C.1 C.2.1 dX7_placesOf_86 hl (k := 5) rfl (Int32.ofInt_add _ _).symm (by decide) rfl (fun ls hl => ?_)
    refine lv_goto (tgt := 14) C.1 C.2.1 dX7_placesOf_89 (by decide) ?_
    exact kc _ (som_e hf).symm _ _ _ hO (lv_sub hl [1, 2, 3, 4, 5, 0] rfl)
set_option maxHeartbeats 4000000 in
theorem w_X7_placesOf_L5 {p : Program} {l : Launch} {e : Env} {R : Room} {s : State} {m : MethodId} {args : Array Value} {below : List Frame} {meth : Method} {c : Code} {H : Heap} {locs : List Loc} {ls : Array Slot} {G : jG}  (C : jCx p s m args meth c cX7_placesOf 9 RX7 (Cond.code yX7_placesOf cX7_placesOf 9 (some .long)) (some .long)) (hRf : 1 ≤ R.frames) (hRl : 22 ≤ R.locals)  (M : jM) (l0 l1 l2 : Int) {fin : Int} (S : Int × Int) {rr : (Int × Int) ⊕ Int} (hf : f_X7_placesOf_L5 M l0 l1 l2 S = some rr) (kc : ∀ q : Int × Int, rr = .inl q → ∀ (H : Heap) (locs : List Loc) (ls : Array Slot), jOk G M s H locs → lv_has ls 9 [(0, vI l0), (1, vI l1), (2, vI l2), (3, vL q.1), (5, vI q.2)] → W p l e R s m args below meth c H locs 0 0 (MQ below (jQ G (some (vL fin)) M) args s 0 0 (jA G)) (F0 m 5 ls [])) (kx0 : ∀ q : Int, rr = .inr q → ∀ (H : Heap) (locs : List Loc) (ls : Array Slot), jOk G M s H locs → lv_has ls 9 [(3, vL q)] → W p l e R s m args below meth c H locs 0 0 (MQ below (jQ G (some (vL fin)) M) args s 0 0 (jA G)) (F0 m 98 ls [])) (hO : jOk G M s H locs) (hl : lv_has ls 9 [(0, vI l0), (1, vI l1), (2, vI l2), (3, vL S.1), (5, vI S.2)]) : W p l e R s m args below meth c H locs 0 0 (MQ below (jQ G (some (vL fin)) M) args s 0 0 (jA G)) (F0 m 5 ls []) := by
  unfold f_X7_placesOf_L5 at hf
  refine lv_iload C.1 C.2.1 dX7_placesOf_5 (lv_at hl 4 rfl) ?_
  refine lv_iconst (v := Int32.ofInt 3) C.1 C.2.1 dX7_placesOf_7 rfl ?_
  refine j_icmp_gt (tgt := 98) C rfl (w32_id (by decide) (by decide)) dX7_placesOf_8 (by decide) (fun c1 => ?_) (fun c1 => ?_)
  · have hf := (if_pos c1).symm.trans hf
    exact kx0 _ (som_e hf).symm _ _ _ hO (lv_sub hl [3] rfl)
  · have hf := (if_neg c1).symm.trans hf
    refine lv_iconst (v := Int32.ofInt 0) C.1 C.2.1 dX7_placesOf_11 rfl ?_
    refine lv_istore (lv' := [(6, vI 0), (0, vI l0), (1, vI l1), (2, vI l2), (3, vL S.1), (5, vI S.2)]) C.1 C.2.1 dX7_placesOf_12 hl (by decide) rfl (fun ls hl => ?_)
    obtain ⟨x10, hx10, hf⟩ := bnd_e hf
    refine iter_e (P := fun Z => ∀ (H : Heap) (locs : List Loc) (ls : Array Slot), jOk G M s H locs → lv_has ls 9 [(0, vI l0), (1, vI l1), (2, vI l2), (3, vL Z.1), (5, vI S.2), (6, vI Z.2)] → W p l e R s m args below meth c H locs 0 0 (MQ below (jQ G (some (vL fin)) M) args s 0 0 (jA G)) (F0 m 14 ls [])) (E := fun q => ∀ (H : Heap) (locs : List Loc) (ls : Array Slot), jOk G M s H locs → lv_has ls 9 [(0, vI l0), (1, vI l1), (2, vI l2), (3, vL q), (5, vI S.2)] → W p l e R s m args below meth c H locs 0 0 (MQ below (jQ G (some (vL fin)) M) args s 0 0 (jA G)) (F0 m 92 ls [])) (fun Z rr hb kc kx H locs ls hO hl => w_X7_placesOf_L14 C hRf hRl M l0 l1 l2 S.2  Z hb kc (fun q e => kx q e) hO hl) 5000 (S.1, 0) x10 hx10 ?_ _ _ _ hO (lv_sub hl [1, 2, 3, 4, 5, 0] rfl)
    clear hO hl
    intro H locs ls hO hl
    refine lv_iinc (v := Int32.ofInt (S.2 + 1)) (lv' := [(5, vI (S.2 + 1)), (0, vI l0), (1, vI l1), (2, vI l2), (3, vL x10)]) C.1 C.2.1 dX7_placesOf_92 hl (k := 4) rfl (Int32.ofInt_add _ _).symm (by decide) rfl (fun ls hl => ?_)
    refine lv_goto (tgt := 5) C.1 C.2.1 dX7_placesOf_95 (by decide) ?_
    exact kc _ (som_e hf).symm _ _ _ hO (lv_sub hl [1, 2, 3, 4, 0] rfl)
set_option maxHeartbeats 4000000 in
theorem w_X7_placesOf {p : Program} {l : Launch} {e : Env} {R : Room} {s : State} {m : MethodId} {args : Array Value} {below : List Frame} {meth : Method} {c : Code} {H : Heap} {locs : List Loc} {ls : Array Slot} {G : jG}  (C : jCx p s m args meth c cX7_placesOf 9 RX7 (Cond.code yX7_placesOf cX7_placesOf 9 (some .long)) (some .long)) (hRf : 1 ≤ R.frames) (hRl : 22 ≤ R.locals)  (M : jM) (l0 l1 l2 : Int) {fin : Int} (hf : f_X7_placesOf M l0 l1 l2 = some fin) (hO : jOk G M s H locs) (hl : lv_has ls 9 [(0, vI l0), (1, vI l1), (2, vI l2)]) : W p l e R s m args below meth c H locs 0 0 (MQ below (jQ G (some (vL fin)) M) args s 0 0 (jA G)) (F0 m 0 ls []) := by
  unfold f_X7_placesOf at hf
  refine lv_lconst (v := Int64.ofInt 0) C.1 C.2.1 dX7_placesOf_0 (by decide) ?_
  refine lv_lstore_n (lv' := [(3, vL 0), (0, vI l0), (1, vI l1), (2, vI l2)]) C.1 C.2.1 dX7_placesOf_1 rfl hl (by decide) rfl (fun ls hl => ?_)
  refine lv_iconst (v := Int32.ofInt 2) C.1 C.2.1 dX7_placesOf_2 rfl ?_
  refine lv_istore (lv' := [(5, vI 2), (3, vL 0), (0, vI l0), (1, vI l1), (2, vI l2)]) C.1 C.2.1 dX7_placesOf_3 hl (by decide) rfl (fun ls hl => ?_)
  obtain ⟨x11, hx11, hf⟩ := bnd_e hf
  refine iter_e (P := fun Z => ∀ (H : Heap) (locs : List Loc) (ls : Array Slot), jOk G M s H locs → lv_has ls 9 [(0, vI l0), (1, vI l1), (2, vI l2), (3, vL Z.1), (5, vI Z.2)] → W p l e R s m args below meth c H locs 0 0 (MQ below (jQ G (some (vL fin)) M) args s 0 0 (jA G)) (F0 m 5 ls [])) (E := fun q => ∀ (H : Heap) (locs : List Loc) (ls : Array Slot), jOk G M s H locs → lv_has ls 9 [(3, vL q)] → W p l e R s m args below meth c H locs 0 0 (MQ below (jQ G (some (vL fin)) M) args s 0 0 (jA G)) (F0 m 98 ls [])) (fun Z rr hb kc kx H locs ls hO hl => w_X7_placesOf_L5 C hRf hRl M l0 l1 l2  Z hb kc (fun q e => kx q e) hO hl) 5000 (0, 2) x11 hx11 ?_ _ _ _ hO (lv_sub hl [2, 3, 4, 1, 0] rfl)
  clear hO hl
  intro H locs ls hO hl
  refine lv_lload_n C.1 C.2.1 dX7_placesOf_98 rfl (lv_at hl 0 rfl) ?_
  have hf := som_e hf
  subst hf
  exact j_lret C hO dX7_placesOf_99
set_option maxHeartbeats 1000000 in
theorem c_X7_placesOf (l : Launch) (G : jG)  (M : jM) (l0 l1 l2 : Int) {fin : Int} (h : f_X7_placesOf M l0 l1 l2 = some fin) : Met l yX7_placesOf (Cond.code yX7_placesOf cX7_placesOf 9 (some .long) :: wsL_law) ({ frames := 1, cells := 0, slots := 0, locals := 22 } : Room) (va_Pc [vI l0, vI l1, vI l2] (fun U => jRep G M U)) (jQ G (some (vL fin)) M) 0 0 (jA G) := by
  refine Met.ofW (cc := cX7_placesOf) (maxL := 9) (ret := (some .long)) (by decide) rfl ?_
  intro p e s m args below meth c s₁ B hml hv
  obtain ⟨rfl, hR0⟩ := hv
  have C : jCx p s m ([vI l0, vI l1, vI l2] : List Value).toArray meth c cX7_placesOf 9 RX7 (Cond.code yX7_placesOf cX7_placesOf 9 (some .long)) (some .long) := ⟨B.exec, B.bytes, hml, findClass_of_methodNamed B.named, atoms_spec B.pre, B.returns, B.notSynchronized⟩
  have hO := hR0.ok
  have hl := lv_entry ([vI l0, vI l1, vI l2]) (n := 9) (Nat.le_of_ble_eq_true rfl)
  rw [lg_entry_eq]
  generalize (lg_sl ([vI l0, vI l1, vI l2]) ++ List.replicate (9 - (lg_sl ([vI l0, vI l1, vI l2])).length) Slot.unset).toArray = ls at hl ⊢
  have hl : lv_has ls 9 [(0, vI l0), (1, vI l1), (2, vI l2)] := hl
  exact w_X7_placesOf C (Nat.le_refl _) (Nat.le_refl _) M l0 l1 l2  h hO hl
set_option maxHeartbeats 4000000 in
theorem w_X6_weigh_43 {p : Program} {l : Launch} {e : Env} {R : Room} {s : State} {m : MethodId} {args : Array Value} {below : List Frame} {meth : Method} {c : Code} {H : Heap} {locs : List Loc} {ls : Array Slot} {G : jG}  (C : jCx p s m args meth c cX6_weigh 4 RX6 (Cond.code yX6_weigh cX6_weigh 4 none) none) (hRf : 2 ≤ R.frames) (hRl : 46 ≤ R.locals)  (M : jM) (l0 l1 l2 l3 s0 s1 s2 : Int) (h0 : jkd l0 = (6, 0)) (h1 : jkd l1 = (7, 0)) (g0 : jkd s0 = (11, 3)) {fin : jM} {rr : (jM × Int) ⊕ jM} (hf : f_X6_weigh_43 M l0 l1 l2 l3 s0 s1 s2 = some rr) (kc : ∀ q : jM × Int, rr = .inl q → ∀ (H : Heap) (locs : List Loc) (ls : Array Slot), jOk G q.1 s H locs → lv_has ls 4 [(0, jR G l0), (1, jR G l1), (2, vI l2), (3, vI q.2)] → W p l e R s m args below meth c H locs 0 0 (MQ below (jQ G none fin) args s 0 0 (jA G)) (F0 m 15 ls [])) (kx0 : ∀ q : jM, rr = .inr q → ∀ (H : Heap) (locs : List Loc) (ls : Array Slot), jOk G q s H locs → lv_has ls 4 [] → W p l e R s m args below meth c H locs 0 0 (MQ below (jQ G none fin) args s 0 0 (jA G)) (F0 m 65 ls [])) (hO : jOk G M s H locs) (hl : lv_has ls 4 [(0, jR G l0), (1, jR G l1), (2, vI l2), (3, vI l3)]) : W p l e R s m args below meth c H locs 0 0 (MQ below (jQ G none fin) args s 0 0 (jA G)) (F0 m 43 ls [vI s2, vI s1, jR G s0]) := by
  unfold f_X6_weigh_43 at hf
  obtain ⟨g5, hf⟩ := grd_e hf
  obtain ⟨M6, hM6, hf⟩ := lt1_e hf
  refine j_iast C hO (x := s2) g0 rfl g5.1 g5.2 dX6_weigh_43 (fun H locs hO => ?_)
  rw [← hM6] at hO
  refine lv_aload_n C.1 C.2.1 dX6_weigh_44 rfl (lv_at hl 0 rfl) ?_
  refine lv_dup C.1 C.2.1 dX6_weigh_45 rfl ?_
  refine j_get C hO (ci := 6) (k := 1) (v := vI (M6 l0 1)) h0 rfl inlX6 (by decide) kF_15_19 rfl rfl dX6_weigh_46 ?_
  refine lv_aload_n C.1 C.2.1 dX6_weigh_49 rfl (lv_at hl 0 rfl) ?_
  refine j_get C hO (ci := 6) (k := 2) (v := jR G (jpt l0 2)) h0 rfl inlX6 (by decide) kF_4_17 rfl rfl dX6_weigh_50 ?_
  refine lv_iload_n C.1 C.2.1 dX6_weigh_53 rfl (lv_at hl 3 rfl) ?_
  obtain ⟨g7, hf⟩ := grd_e hf
  refine j_iald C hO (tp_6_2 h0) rfl g7.1 g7.2 dX6_weigh_54 ?_
  refine j_iadd C dX6_weigh_55 ?_
  obtain ⟨M8, hM8, hf⟩ := lt1_e hf
  refine j_put C hO (ci := 6) (k := 1) (x := (M6 l0 1) + (M6 (jpt l0 2) (w32 l3))) h0 rfl inlX6 tyX6_ok nmX6 (by decide) kF_15_19 rfl rfl rfl rfl (by simp [jfl]) (fs_6_1) dX6_weigh_56 (fun H locs hO => ?_)
  rw [← hM8] at hO
  refine lv_iinc (v := Int32.ofInt (l3 + 1)) (lv' := [(3, vI (l3 + 1)), (0, jR G l0), (1, jR G l1), (2, vI l2)]) C.1 C.2.1 dX6_weigh_59 hl (k := 3) rfl (Int32.ofInt_add _ _).symm (by decide) rfl (fun ls hl => ?_)
  refine lv_goto (tgt := 15) C.1 C.2.1 dX6_weigh_62 (by decide) ?_
  exact kc _ (som_e hf).symm _ _ _ hO (lv_sub hl [1, 2, 3, 0] rfl)
set_option maxHeartbeats 4000000 in
theorem w_X6_weigh_L15 {p : Program} {l : Launch} {e : Env} {R : Room} {s : State} {m : MethodId} {args : Array Value} {below : List Frame} {meth : Method} {c : Code} {H : Heap} {locs : List Loc} {ls : Array Slot} {G : jG}  (C : jCx p s m args meth c cX6_weigh 4 RX6 (Cond.code yX6_weigh cX6_weigh 4 none) none) (hRf : 2 ≤ R.frames) (hRl : 46 ≤ R.locals)  (M : jM) (l0 l1 l2 : Int) (h0 : jkd l0 = (6, 0)) (h1 : jkd l1 = (7, 0)) {fin : jM} (S : jM × Int) {rr : (jM × Int) ⊕ jM} (hf : f_X6_weigh_L15 M l0 l1 l2 S = some rr) (kc : ∀ q : jM × Int, rr = .inl q → ∀ (H : Heap) (locs : List Loc) (ls : Array Slot), jOk G q.1 s H locs → lv_has ls 4 [(0, jR G l0), (1, jR G l1), (2, vI l2), (3, vI q.2)] → W p l e R s m args below meth c H locs 0 0 (MQ below (jQ G none fin) args s 0 0 (jA G)) (F0 m 15 ls [])) (kx0 : ∀ q : jM, rr = .inr q → ∀ (H : Heap) (locs : List Loc) (ls : Array Slot), jOk G q s H locs → lv_has ls 4 [] → W p l e R s m args below meth c H locs 0 0 (MQ below (jQ G none fin) args s 0 0 (jA G)) (F0 m 65 ls [])) (hO : jOk G S.1 s H locs) (hl : lv_has ls 4 [(0, jR G l0), (1, jR G l1), (2, vI l2), (3, vI S.2)]) : W p l e R s m args below meth c H locs 0 0 (MQ below (jQ G none fin) args s 0 0 (jA G)) (F0 m 15 ls []) := by
  unfold f_X6_weigh_L15 at hf
  refine lv_iload_n C.1 C.2.1 dX6_weigh_15 rfl (lv_at hl 3 rfl) ?_
  refine lv_iconst (v := Int32.ofInt 3) C.1 C.2.1 dX6_weigh_16 rfl ?_
  refine j_icmp_ge (tgt := 65) C rfl (w32_id (by decide) (by decide)) dX6_weigh_17 (by decide) (fun c3 => ?_) (fun c3 => ?_)
  · have hf := (if_pos c3).symm.trans hf
    exact kx0 _ (som_e hf).symm _ _ _ hO (lv_sub hl [] rfl)
  · have hf := (if_neg c3).symm.trans hf
    refine lv_aload_n C.1 C.2.1 dX6_weigh_20 rfl (lv_at hl 0 rfl) ?_
    refine j_get C hO (ci := 6) (k := 2) (v := jR G (jpt l0 2)) h0 rfl inlX6 (by decide) kF_4_17 rfl rfl dX6_weigh_21 ?_
    refine lv_iload_n C.1 C.2.1 dX6_weigh_24 rfl (lv_at hl 3 rfl) ?_
    refine lv_iload_n C.1 C.2.1 dX6_weigh_25 rfl (lv_at hl 3 rfl) ?_
    refine lv_aload_n C.1 C.2.1 dX6_weigh_26 rfl (lv_at hl 0 rfl) ?_
    refine j_get C hO (ci := 6) (k := 0) (v := vI (S.1 l0 0)) h0 rfl inlX6 (by decide) kF_15_18 rfl rfl dX6_weigh_27 ?_
    refine j_icmp_ge (tgt := 42) C rfl rfl dX6_weigh_30 (by decide) (fun c4 => ?_) (fun c4 => ?_)
    · have hf := (if_pos c4).symm.trans hf
      refine lv_iconst (v := Int32.ofInt 0) C.1 C.2.1 dX6_weigh_42 rfl ?_
      exact w_X6_weigh_43 C hRf hRl S.1 l0 l1 l2 S.2 (jpt l0 2) S.2 0 h0 h1 (tp_6_2 h0) hf kc kx0 hO (lv_sub hl [0, 1, 2, 3] rfl)
    · have hf := (if_neg c4).symm.trans hf
      refine lv_aload_n C.1 C.2.1 dX6_weigh_33 rfl (lv_at hl 1 rfl) ?_
      refine lv_iload_n C.1 C.2.1 dX6_weigh_34 rfl (lv_at hl 3 rfl) ?_
      refine lv_iload_n C.1 C.2.1 dX6_weigh_35 rfl (lv_at hl 2 rfl) ?_
      obtain ⟨r9, hr9, hf⟩ := bnd_e hf
      refine j_callV C hO (n := 2) (As := [vI S.2, vI l2]) (st1 := [vI r9, vI S.2, jR G (jpt l0 2)]) (c_X7_weightOf l G S.1 l1 S.2 l2 h1 hr9) h1 rfl kC_15_23 kM_15_20 kI_15_21 kS_15_22 kN_1_20 ⟨by decide, by decide, by decide⟩ ⟨Nat.le_trans (by decide) hRf, Nat.le_trans (by decide) hRl⟩ rfl rfl rfl hl.1 rfl (Nat.le_of_ble_eq_true rfl) ⟨Nat.zero_le _, Nat.zero_le _⟩ dX6_weigh_36 rfl (fun H locs hO => ?_)
      refine lv_goto (tgt := 43) C.1 C.2.1 dX6_weigh_39 (by decide) ?_
      exact w_X6_weigh_43 C hRf hRl S.1 l0 l1 l2 S.2 (jpt l0 2) S.2 r9 h0 h1 (tp_6_2 h0) hf kc kx0 hO (lv_sub hl [0, 1, 2, 3] rfl)
set_option maxHeartbeats 4000000 in
theorem w_X6_weigh {p : Program} {l : Launch} {e : Env} {R : Room} {s : State} {m : MethodId} {args : Array Value} {below : List Frame} {meth : Method} {c : Code} {H : Heap} {locs : List Loc} {ls : Array Slot} {G : jG}  (C : jCx p s m args meth c cX6_weigh 4 RX6 (Cond.code yX6_weigh cX6_weigh 4 none) none) (hRf : 2 ≤ R.frames) (hRl : 46 ≤ R.locals)  (M : jM) (l0 l1 l2 : Int) (h0 : jkd l0 = (6, 0)) (h1 : jkd l1 = (7, 0)) {fin : jM} (hf : f_X6_weigh M l0 l1 l2 = some fin) (hO : jOk G M s H locs) (hl : lv_has ls 4 [(0, jR G l0), (1, jR G l1), (2, vI l2)]) : W p l e R s m args below meth c H locs 0 0 (MQ below (jQ G none fin) args s 0 0 (jA G)) (F0 m 0 ls []) := by
  unfold f_X6_weigh at hf
  refine lv_aload_n C.1 C.2.1 dX6_weigh_0 rfl (lv_at hl 0 rfl) ?_
  refine lv_aload_n C.1 C.2.1 dX6_weigh_1 rfl (lv_at hl 1 rfl) ?_
  refine j_get C hO (ci := 7) (k := 0) (v := vI (M l1 0)) h1 rfl inlX7 (by decide) kF_15_17 rfl rfl dX6_weigh_2 ?_
  obtain ⟨M1, hM1, hf⟩ := lt1_e hf
  refine j_put C hO (ci := 6) (k := 0) (x := M l1 0) h0 rfl inlX6 tyX6_ok nmX6 (by decide) kF_15_18 rfl rfl rfl rfl (by simp [jfl]) (fs_6_0) dX6_weigh_5 (fun H locs hO => ?_)
  rw [← hM1] at hO
  refine lv_aload_n C.1 C.2.1 dX6_weigh_8 rfl (lv_at hl 0 rfl) ?_
  refine lv_iconst (v := Int32.ofInt 0) C.1 C.2.1 dX6_weigh_9 rfl ?_
  obtain ⟨M2, hM2, hf⟩ := lt1_e hf
  refine j_put C hO (ci := 6) (k := 1) (x := 0) h0 rfl inlX6 tyX6_ok nmX6 (by decide) kF_15_19 rfl rfl rfl rfl (by simp [jfl]) (fs_6_1) dX6_weigh_10 (fun H locs hO => ?_)
  rw [← hM2] at hO
  refine lv_iconst (v := Int32.ofInt 0) C.1 C.2.1 dX6_weigh_13 rfl ?_
  refine lv_istore_n (lv' := [(3, vI 0), (0, jR G l0), (1, jR G l1), (2, vI l2)]) C.1 C.2.1 dX6_weigh_14 rfl hl (by decide) rfl (fun ls hl => ?_)
  obtain ⟨x10, hx10, hf⟩ := bnd_e hf
  refine iter_e (P := fun Z => ∀ (H : Heap) (locs : List Loc) (ls : Array Slot), jOk G Z.1 s H locs → lv_has ls 4 [(0, jR G l0), (1, jR G l1), (2, vI l2), (3, vI Z.2)] → W p l e R s m args below meth c H locs 0 0 (MQ below (jQ G none fin) args s 0 0 (jA G)) (F0 m 15 ls [])) (E := fun q => ∀ (H : Heap) (locs : List Loc) (ls : Array Slot), jOk G q s H locs → lv_has ls 4 [] → W p l e R s m args below meth c H locs 0 0 (MQ below (jQ G none fin) args s 0 0 (jA G)) (F0 m 65 ls [])) (fun Z rr hb kc kx H locs ls hO hl => w_X6_weigh_L15 C hRf hRl M2 l0 l1 l2 h0 h1 Z hb kc (fun q e => kx q e) hO hl) 5000 (M2, 0) x10 hx10 ?_ _ _ _ hO (lv_sub hl [1, 2, 3, 0] rfl)
  clear hO hl
  intro H locs ls hO hl
  have hf := som_e hf
  subst hf
  exact j_vret C hO dX6_weigh_65
set_option maxHeartbeats 1000000 in
theorem c_X6_weigh (l : Launch) (G : jG)  (M : jM) (l0 l1 l2 : Int) (h0 : jkd l0 = (6, 0)) (h1 : jkd l1 = (7, 0)) {fin : jM} (h : f_X6_weigh M l0 l1 l2 = some fin) : Met l yX6_weigh (Cond.code yX6_weigh cX6_weigh 4 none :: wsL_law) ({ frames := 2, cells := 0, slots := 0, locals := 46 } : Room) (va_Pc [jR G l0, jR G l1, vI l2] (fun U => jRep G M U)) (jQ G none fin) 0 0 (jA G) := by
  refine Met.ofW (cc := cX6_weigh) (maxL := 4) (ret := none) (by decide) rfl ?_
  intro p e s m args below meth c s₁ B hml hv
  obtain ⟨rfl, hR0⟩ := hv
  have C : jCx p s m ([jR G l0, jR G l1, vI l2] : List Value).toArray meth c cX6_weigh 4 RX6 (Cond.code yX6_weigh cX6_weigh 4 none) none := ⟨B.exec, B.bytes, hml, findClass_of_methodNamed B.named, atoms_spec B.pre, B.returns, B.notSynchronized⟩
  have hO := hR0.ok
  have hl := lv_entry ([jR G l0, jR G l1, vI l2]) (n := 4) (Nat.le_of_ble_eq_true rfl)
  rw [lg_entry_eq]
  generalize (lg_sl ([jR G l0, jR G l1, vI l2]) ++ List.replicate (4 - (lg_sl ([jR G l0, jR G l1, vI l2])).length) Slot.unset).toArray = ls at hl ⊢
  have hl : lv_has ls 4 [(0, jR G l0), (1, jR G l1), (2, vI l2)] := hl
  exact w_X6_weigh C (Nat.le_refl _) (Nat.le_refl _) M l0 l1 l2 h0 h1 h hO hl
set_option maxHeartbeats 4000000 in
theorem w_X6_putFirst {p : Program} {l : Launch} {e : Env} {R : Room} {s : State} {m : MethodId} {args : Array Value} {below : List Frame} {meth : Method} {c : Code} {H : Heap} {locs : List Loc} {ls : Array Slot} {G : jG}  (C : jCx p s m args meth c cX6_putFirst 2 RX6 (Cond.code yX6_putFirst cX6_putFirst 2 none) none) (hRf : 0 ≤ R.frames) (hRl : 0 ≤ R.locals)  (M : jM) (l0 l1 : Int) (h0 : jkd l0 = (6, 0)) {fin : jM} (hf : f_X6_putFirst M l0 l1 = some fin) (hO : jOk G M s H locs) (hl : lv_has ls 2 [(0, jR G l0), (1, vI l1)]) : W p l e R s m args below meth c H locs 0 0 (MQ below (jQ G none fin) args s 0 0 (jA G)) (F0 m 0 ls []) := by
  unfold f_X6_putFirst at hf
  refine lv_aload_n C.1 C.2.1 dX6_putFirst_0 rfl (lv_at hl 0 rfl) ?_
  refine lv_dup C.1 C.2.1 dX6_putFirst_1 rfl ?_
  refine j_get C hO (ci := 6) (k := 1) (v := vI (M l0 1)) h0 rfl inlX6 (by decide) kF_15_19 rfl rfl dX6_putFirst_2 ?_
  refine lv_iload_n C.1 C.2.1 dX6_putFirst_5 rfl (lv_at hl 1 rfl) ?_
  refine lv_aload_n C.1 C.2.1 dX6_putFirst_6 rfl (lv_at hl 0 rfl) ?_
  refine j_get C hO (ci := 6) (k := 2) (v := jR G (jpt l0 2)) h0 rfl inlX6 (by decide) kF_4_17 rfl rfl dX6_putFirst_7 ?_
  refine lv_iconst (v := Int32.ofInt 0) C.1 C.2.1 dX6_putFirst_10 rfl ?_
  refine j_iald C hO (tp_6_2 h0) (w32_id (by decide) (by decide)) (by decide) (by decide) dX6_putFirst_11 ?_
  refine j_isub C dX6_putFirst_12 ?_
  refine j_iadd C dX6_putFirst_13 ?_
  obtain ⟨M1, hM1, hf⟩ := lt1_e hf
  refine j_put C hO (ci := 6) (k := 1) (x := (M l0 1) + (l1 - (M (jpt l0 2) 0))) h0 rfl inlX6 tyX6_ok nmX6 (by decide) kF_15_19 rfl rfl rfl rfl (by simp [jfl]) (fs_6_1) dX6_putFirst_14 (fun H locs hO => ?_)
  rw [← hM1] at hO
  refine lv_aload_n C.1 C.2.1 dX6_putFirst_17 rfl (lv_at hl 0 rfl) ?_
  refine j_get C hO (ci := 6) (k := 2) (v := jR G (jpt l0 2)) h0 rfl inlX6 (by decide) kF_4_17 rfl rfl dX6_putFirst_18 ?_
  refine lv_iconst (v := Int32.ofInt 0) C.1 C.2.1 dX6_putFirst_21 rfl ?_
  refine lv_iload_n C.1 C.2.1 dX6_putFirst_22 rfl (lv_at hl 1 rfl) ?_
  obtain ⟨M2, hM2, hf⟩ := lt1_e hf
  refine j_iast C hO (x := l1) (tp_6_2 h0) (w32_id (by decide) (by decide)) (by decide) (by decide) dX6_putFirst_23 (fun H locs hO => ?_)
  rw [← hM2] at hO
  have hf := som_e hf
  subst hf
  exact j_vret C hO dX6_putFirst_24
set_option maxHeartbeats 1000000 in
theorem c_X6_putFirst (l : Launch) (G : jG)  (M : jM) (l0 l1 : Int) (h0 : jkd l0 = (6, 0)) {fin : jM} (h : f_X6_putFirst M l0 l1 = some fin) : Met l yX6_putFirst (Cond.code yX6_putFirst cX6_putFirst 2 none :: wsL_law) ({ frames := 0, cells := 0, slots := 0, locals := 0 } : Room) (va_Pc [jR G l0, vI l1] (fun U => jRep G M U)) (jQ G none fin) 0 0 (jA G) := by
  refine Met.ofW (cc := cX6_putFirst) (maxL := 2) (ret := none) (by decide) rfl ?_
  intro p e s m args below meth c s₁ B hml hv
  obtain ⟨rfl, hR0⟩ := hv
  have C : jCx p s m ([jR G l0, vI l1] : List Value).toArray meth c cX6_putFirst 2 RX6 (Cond.code yX6_putFirst cX6_putFirst 2 none) none := ⟨B.exec, B.bytes, hml, findClass_of_methodNamed B.named, atoms_spec B.pre, B.returns, B.notSynchronized⟩
  have hO := hR0.ok
  have hl := lv_entry ([jR G l0, vI l1]) (n := 2) (Nat.le_of_ble_eq_true rfl)
  rw [lg_entry_eq]
  generalize (lg_sl ([jR G l0, vI l1]) ++ List.replicate (2 - (lg_sl ([jR G l0, vI l1])).length) Slot.unset).toArray = ls at hl ⊢
  have hl : lv_has ls 2 [(0, jR G l0), (1, vI l1)] := hl
  exact w_X6_putFirst C (Nat.le_refl _) (Nat.le_refl _) M l0 l1 h0 h hO hl
set_option maxHeartbeats 4000000 in
theorem w_X6_weightOf_9 {p : Program} {l : Launch} {e : Env} {R : Room} {s : State} {m : MethodId} {args : Array Value} {below : List Frame} {meth : Method} {c : Code} {H : Heap} {locs : List Loc} {ls : Array Slot} {G : jG}  (C : jCx p s m args meth c cX6_weightOf 2 RX6 (Cond.code yX6_weightOf cX6_weightOf 2 (some .int)) (some .int)) (hRf : 0 ≤ R.frames) (hRl : 0 ≤ R.locals)  (M : jM) {fin : Int} (hf : f_X6_weightOf_9 M  = some fin) (hO : jOk G M s H locs) (hl : lv_has ls 2 []) : W p l e R s m args below meth c H locs 0 0 (MQ below (jQ G (some (vI fin)) M) args s 0 0 (jA G)) (F0 m 9 ls []) := by
  unfold f_X6_weightOf_9 at hf
  refine lv_iconst (v := Int32.ofInt 0) C.1 C.2.1 dX6_weightOf_9 rfl ?_
  refine lv_goto (tgt := 19) C.1 C.2.1 dX6_weightOf_10 (by decide) ?_
  have hf := som_e hf
  subst hf
  exact j_iret C hO dX6_weightOf_19
set_option maxHeartbeats 4000000 in
theorem w_X6_weightOf {p : Program} {l : Launch} {e : Env} {R : Room} {s : State} {m : MethodId} {args : Array Value} {below : List Frame} {meth : Method} {c : Code} {H : Heap} {locs : List Loc} {ls : Array Slot} {G : jG}  (C : jCx p s m args meth c cX6_weightOf 2 RX6 (Cond.code yX6_weightOf cX6_weightOf 2 (some .int)) (some .int)) (hRf : 0 ≤ R.frames) (hRl : 0 ≤ R.locals)  (M : jM) (l0 l1 : Int) (h0 : jkd l0 = (6, 0)) {fin : Int} (hf : f_X6_weightOf M l0 l1 = some fin) (hO : jOk G M s H locs) (hl : lv_has ls 2 [(0, jR G l0), (1, vI l1)]) : W p l e R s m args below meth c H locs 0 0 (MQ below (jQ G (some (vI fin)) M) args s 0 0 (jA G)) (F0 m 0 ls []) := by
  unfold f_X6_weightOf at hf
  refine lv_iload_n C.1 C.2.1 dX6_weightOf_0 rfl (lv_at hl 1 rfl) ?_
  refine j_if_lt (tgt := 9) C rfl dX6_weightOf_1 (by decide) (fun c1 => ?_) (fun c1 => ?_)
  · have hf := (if_pos c1).symm.trans hf
    exact w_X6_weightOf_9 C hRf hRl M   hf hO (lv_sub hl [] rfl)
  · have hf := (if_neg c1).symm.trans hf
    refine lv_iload_n C.1 C.2.1 dX6_weightOf_4 rfl (lv_at hl 1 rfl) ?_
    refine lv_iconst (v := Int32.ofInt 3) C.1 C.2.1 dX6_weightOf_5 rfl ?_
    refine j_icmp_lt (tgt := 13) C rfl (w32_id (by decide) (by decide)) dX6_weightOf_6 (by decide) (fun c2 => ?_) (fun c2 => ?_)
    · have hf := (if_pos c2).symm.trans hf
      refine lv_aload_n C.1 C.2.1 dX6_weightOf_13 rfl (lv_at hl 0 rfl) ?_
      refine j_get C hO (ci := 6) (k := 2) (v := jR G (jpt l0 2)) h0 rfl inlX6 (by decide) kF_4_17 rfl rfl dX6_weightOf_14 ?_
      refine lv_iload_n C.1 C.2.1 dX6_weightOf_17 rfl (lv_at hl 1 rfl) ?_
      obtain ⟨g3, hf⟩ := grd_e hf
      refine j_iald C hO (tp_6_2 h0) rfl g3.1 g3.2 dX6_weightOf_18 ?_
      have hf := som_e hf
      subst hf
      exact j_iret C hO dX6_weightOf_19
    · have hf := (if_neg c2).symm.trans hf
      exact w_X6_weightOf_9 C hRf hRl M   hf hO (lv_sub hl [] rfl)
set_option maxHeartbeats 1000000 in
theorem c_X6_weightOf (l : Launch) (G : jG)  (M : jM) (l0 l1 : Int) (h0 : jkd l0 = (6, 0)) {fin : Int} (h : f_X6_weightOf M l0 l1 = some fin) : Met l yX6_weightOf (Cond.code yX6_weightOf cX6_weightOf 2 (some .int) :: wsL_law) ({ frames := 0, cells := 0, slots := 0, locals := 0 } : Room) (va_Pc [jR G l0, vI l1] (fun U => jRep G M U)) (jQ G (some (vI fin)) M) 0 0 (jA G) := by
  refine Met.ofW (cc := cX6_weightOf) (maxL := 2) (ret := (some .int)) (by decide) rfl ?_
  intro p e s m args below meth c s₁ B hml hv
  obtain ⟨rfl, hR0⟩ := hv
  have C : jCx p s m ([jR G l0, vI l1] : List Value).toArray meth c cX6_weightOf 2 RX6 (Cond.code yX6_weightOf cX6_weightOf 2 (some .int)) (some .int) := ⟨B.exec, B.bytes, hml, findClass_of_methodNamed B.named, atoms_spec B.pre, B.returns, B.notSynchronized⟩
  have hO := hR0.ok
  have hl := lv_entry ([jR G l0, vI l1]) (n := 2) (Nat.le_of_ble_eq_true rfl)
  rw [lg_entry_eq]
  generalize (lg_sl ([jR G l0, vI l1]) ++ List.replicate (2 - (lg_sl ([jR G l0, vI l1])).length) Slot.unset).toArray = ls at hl ⊢
  have hl : lv_has ls 2 [(0, jR G l0), (1, vI l1)] := hl
  exact w_X6_weightOf C (Nat.le_refl _) (Nat.le_refl _) M l0 l1 h0 h hO hl
set_option maxHeartbeats 4000000 in
theorem w_X6_isLawful_L2 {p : Program} {l : Launch} {e : Env} {R : Room} {s : State} {m : MethodId} {args : Array Value} {below : List Frame} {meth : Method} {c : Code} {H : Heap} {locs : List Loc} {ls : Array Slot} {G : jG}  (C : jCx p s m args meth c cX6_isLawful 3 RX6 (Cond.code yX6_isLawful cX6_isLawful 3 (some .boolean)) (some .boolean)) (hRf : 1 ≤ R.frames) (hRl : 21 ≤ R.locals)  (M : jM) (l0 l1 : Int) (h0 : jkd l0 = (6, 0)) (h1 : jkd l1 = (3, 0)) {fin : Int} (S : Int) {rr : (Int) ⊕ (Unit ⊕ Unit)} (hf : f_X6_isLawful_L2 M l0 l1 S = some rr) (kc : ∀ q : Int, rr = .inl q → ∀ (H : Heap) (locs : List Loc) (ls : Array Slot), jOk G M s H locs → lv_has ls 3 [(0, jR G l0), (1, jR G l1), (2, vI q)] → W p l e R s m args below meth c H locs 0 0 (MQ below (jQ G (some (vI fin)) M) args s 0 0 (jA G)) (F0 m 2 ls [])) (kx0 : ∀ q : Unit, rr = .inr (.inl q) → ∀ (H : Heap) (locs : List Loc) (ls : Array Slot), jOk G M s H locs → lv_has ls 3 [] → W p l e R s m args below meth c H locs 0 0 (MQ below (jQ G (some (vI fin)) M) args s 0 0 (jA G)) (F0 m 30 ls [])) (kx1 : ∀ q : Unit, rr = .inr (.inr q) → ∀ (H : Heap) (locs : List Loc) (ls : Array Slot), jOk G M s H locs → lv_has ls 3 [] → W p l e R s m args below meth c H locs 0 0 (MQ below (jQ G (some (vI fin)) M) args s 0 0 (jA G)) (F0 m 22 ls [])) (hO : jOk G M s H locs) (hl : lv_has ls 3 [(0, jR G l0), (1, jR G l1), (2, vI S)]) : W p l e R s m args below meth c H locs 0 0 (MQ below (jQ G (some (vI fin)) M) args s 0 0 (jA G)) (F0 m 2 ls []) := by
  unfold f_X6_isLawful_L2 at hf
  refine lv_iload_n C.1 C.2.1 dX6_isLawful_2 rfl (lv_at hl 2 rfl) ?_
  refine lv_aload_n C.1 C.2.1 dX6_isLawful_3 rfl (lv_at hl 1 rfl) ?_
  refine j_get C hO (ci := 3) (k := 0) (v := vI (M l1 0)) h1 rfl inlX3 (by decide) kF_21_12 rfl rfl dX6_isLawful_4 ?_
  refine j_icmp_ge (tgt := 30) C rfl rfl dX6_isLawful_7 (by decide) (fun c1 => ?_) (fun c1 => ?_)
  · have hf := (if_pos c1).symm.trans hf
    exact kx0 _ (som_e hf).symm _ _ _ hO (lv_sub hl [] rfl)
  · have hf := (if_neg c1).symm.trans hf
    refine lv_aload_n C.1 C.2.1 dX6_isLawful_10 rfl (lv_at hl 1 rfl) ?_
    refine lv_iload_n C.1 C.2.1 dX6_isLawful_11 rfl (lv_at hl 2 rfl) ?_
    obtain ⟨r2, hr2, hf⟩ := bnd_e hf
    refine j_callV C hO (n := 1) (As := [vI S]) (st1 := [vI r2]) (c_X3_signAt l G M l1 S h1 hr2) h1 rfl kC_19_6 kM_21_13 kI_19_4 kS_19_5 kN_3_8 ⟨by decide, by decide, by decide⟩ ⟨Nat.le_trans (by decide) hRf, Nat.le_trans (by decide) hRl⟩ rfl rfl rfl hl.1 rfl (Nat.le_of_ble_eq_true rfl) ⟨Nat.zero_le _, Nat.zero_le _⟩ dX6_isLawful_12 rfl (fun H locs hO => ?_)
    refine lv_aload_n C.1 C.2.1 dX6_isLawful_15 rfl (lv_at hl 0 rfl) ?_
    refine j_get C hO (ci := 6) (k := 0) (v := vI (M l0 0)) h0 rfl inlX6 (by decide) kF_15_18 rfl rfl dX6_isLawful_16 ?_
    refine j_icmp_lt (tgt := 24) C rfl rfl dX6_isLawful_19 (by decide) (fun c3 => ?_) (fun c3 => ?_)
    · have hf := (if_pos c3).symm.trans hf
      refine lv_iinc (v := Int32.ofInt (S + 1)) (lv' := [(2, vI (S + 1)), (0, jR G l0), (1, jR G l1)]) C.1 C.2.1 dX6_isLawful_24 hl (k := 2) rfl (Int32.ofInt_add _ _).symm (by decide) rfl (fun ls hl => ?_)
      refine lv_goto (tgt := 2) C.1 C.2.1 dX6_isLawful_27 (by decide) ?_
      exact kc _ (som_e hf).symm _ _ _ hO (lv_sub hl [1, 2, 0] rfl)
    · have hf := (if_neg c3).symm.trans hf
      exact kx1 _ (som_e hf).symm _ _ _ hO (lv_sub hl [] rfl)
set_option maxHeartbeats 4000000 in
theorem w_X6_isLawful {p : Program} {l : Launch} {e : Env} {R : Room} {s : State} {m : MethodId} {args : Array Value} {below : List Frame} {meth : Method} {c : Code} {H : Heap} {locs : List Loc} {ls : Array Slot} {G : jG}  (C : jCx p s m args meth c cX6_isLawful 3 RX6 (Cond.code yX6_isLawful cX6_isLawful 3 (some .boolean)) (some .boolean)) (hRf : 1 ≤ R.frames) (hRl : 21 ≤ R.locals)  (M : jM) (l0 l1 : Int) (h0 : jkd l0 = (6, 0)) (h1 : jkd l1 = (3, 0)) {fin : Int} (hf : f_X6_isLawful M l0 l1 = some fin) (hO : jOk G M s H locs) (hl : lv_has ls 3 [(0, jR G l0), (1, jR G l1)]) : W p l e R s m args below meth c H locs 0 0 (MQ below (jQ G (some (vI fin)) M) args s 0 0 (jA G)) (F0 m 0 ls []) := by
  unfold f_X6_isLawful at hf
  refine lv_iconst (v := Int32.ofInt 0) C.1 C.2.1 dX6_isLawful_0 rfl ?_
  refine lv_istore_n (lv' := [(2, vI 0), (0, jR G l0), (1, jR G l1)]) C.1 C.2.1 dX6_isLawful_1 rfl hl (by decide) rfl (fun ls hl => ?_)
  obtain ⟨x4, hx4, hf⟩ := bnd_e hf
  refine iter_e (P := fun Z => ∀ (H : Heap) (locs : List Loc) (ls : Array Slot), jOk G M s H locs → lv_has ls 3 [(0, jR G l0), (1, jR G l1), (2, vI Z)] → W p l e R s m args below meth c H locs 0 0 (MQ below (jQ G (some (vI fin)) M) args s 0 0 (jA G)) (F0 m 2 ls [])) (E := fun x => (∀ q : Unit, x = (.inl q) → ∀ (H : Heap) (locs : List Loc) (ls : Array Slot), jOk G M s H locs → lv_has ls 3 [] → W p l e R s m args below meth c H locs 0 0 (MQ below (jQ G (some (vI fin)) M) args s 0 0 (jA G)) (F0 m 30 ls [])) ∧ (∀ q : Unit, x = (.inr q) → ∀ (H : Heap) (locs : List Loc) (ls : Array Slot), jOk G M s H locs → lv_has ls 3 [] → W p l e R s m args below meth c H locs 0 0 (MQ below (jQ G (some (vI fin)) M) args s 0 0 (jA G)) (F0 m 22 ls []))) (fun Z rr hb kc kx H locs ls hO hl => w_X6_isLawful_L2 C hRf hRl M l0 l1 h0 h1 Z hb kc (fun q e => (kx _ e).1 q rfl) (fun q e => (kx _ e).2 q rfl) hO hl) 5000 0 x4 hx4 ?_ _ _ _ hO (lv_sub hl [1, 2, 0] rfl)
  clear hO hl
  refine ⟨?_, ?_⟩
  · intro q5 eq5 H locs ls hO hl
    subst eq5
    have hf := sel_l hf
    refine lv_iconst (v := Int32.ofInt 1) C.1 C.2.1 dX6_isLawful_30 rfl ?_
    have hf := som_e hf
    subst hf
    exact j_zret C hO (Or.inr rfl) dX6_isLawful_31
  · intro q6 eq6 H locs ls hO hl
    subst eq6
    have hf := sel_r hf
    refine lv_iconst (v := Int32.ofInt 0) C.1 C.2.1 dX6_isLawful_22 rfl ?_
    have hf := som_e hf
    subst hf
    exact j_zret C hO (Or.inl rfl) dX6_isLawful_23
set_option maxHeartbeats 1000000 in
theorem c_X6_isLawful (l : Launch) (G : jG)  (M : jM) (l0 l1 : Int) (h0 : jkd l0 = (6, 0)) (h1 : jkd l1 = (3, 0)) {fin : Int} (h : f_X6_isLawful M l0 l1 = some fin) : Met l yX6_isLawful (Cond.code yX6_isLawful cX6_isLawful 3 (some .boolean) :: wsL_law) ({ frames := 1, cells := 0, slots := 0, locals := 21 } : Room) (va_Pc [jR G l0, jR G l1] (fun U => jRep G M U)) (jQ G (some (vI fin)) M) 0 0 (jA G) := by
  refine Met.ofW (cc := cX6_isLawful) (maxL := 3) (ret := (some .boolean)) (by decide) rfl ?_
  intro p e s m args below meth c s₁ B hml hv
  obtain ⟨rfl, hR0⟩ := hv
  have C : jCx p s m ([jR G l0, jR G l1] : List Value).toArray meth c cX6_isLawful 3 RX6 (Cond.code yX6_isLawful cX6_isLawful 3 (some .boolean)) (some .boolean) := ⟨B.exec, B.bytes, hml, findClass_of_methodNamed B.named, atoms_spec B.pre, B.returns, B.notSynchronized⟩
  have hO := hR0.ok
  have hl := lv_entry ([jR G l0, jR G l1]) (n := 3) (Nat.le_of_ble_eq_true rfl)
  rw [lg_entry_eq]
  generalize (lg_sl ([jR G l0, jR G l1]) ++ List.replicate (3 - (lg_sl ([jR G l0, jR G l1])).length) Slot.unset).toArray = ls at hl ⊢
  have hl : lv_has ls 3 [(0, jR G l0), (1, jR G l1)] := hl
  exact w_X6_isLawful C (Nat.le_refl _) (Nat.le_refl _) M l0 l1 h0 h1 h hO hl
set_option maxHeartbeats 4000000 in
theorem w_X6_product_L5 {p : Program} {l : Launch} {e : Env} {R : Room} {s : State} {m : MethodId} {args : Array Value} {below : List Frame} {meth : Method} {c : Code} {H : Heap} {locs : List Loc} {ls : Array Slot} {G : jG}  (C : jCx p s m args meth c cX6_product 5 RX6 (Cond.code yX6_product cX6_product 5 (some .long)) (some .long)) (hRf : 1 ≤ R.frames) (hRl : 21 ≤ R.locals)  (M : jM) (l0 l1 : Int) (h0 : jkd l0 = (6, 0)) (h1 : jkd l1 = (3, 0)) {fin : Int} (S : Int × Int) {rr : (Int × Int) ⊕ Int} (hf : f_X6_product_L5 M l0 l1 S = some rr) (kc : ∀ q : Int × Int, rr = .inl q → ∀ (H : Heap) (locs : List Loc) (ls : Array Slot), jOk G M s H locs → lv_has ls 5 [(0, jR G l0), (1, jR G l1), (2, vL q.1), (4, vI q.2)] → W p l e R s m args below meth c H locs 0 0 (MQ below (jQ G (some (vL fin)) M) args s 0 0 (jA G)) (F0 m 5 ls [])) (kx0 : ∀ q : Int, rr = .inr q → ∀ (H : Heap) (locs : List Loc) (ls : Array Slot), jOk G M s H locs → lv_has ls 5 [(2, vL q)] → W p l e R s m args below meth c H locs 0 0 (MQ below (jQ G (some (vL fin)) M) args s 0 0 (jA G)) (F0 m 34 ls [])) (hO : jOk G M s H locs) (hl : lv_has ls 5 [(0, jR G l0), (1, jR G l1), (2, vL S.1), (4, vI S.2)]) : W p l e R s m args below meth c H locs 0 0 (MQ below (jQ G (some (vL fin)) M) args s 0 0 (jA G)) (F0 m 5 ls []) := by
  unfold f_X6_product_L5 at hf
  refine lv_iload C.1 C.2.1 dX6_product_5 (lv_at hl 3 rfl) ?_
  refine lv_aload_n C.1 C.2.1 dX6_product_7 rfl (lv_at hl 1 rfl) ?_
  refine j_get C hO (ci := 3) (k := 0) (v := vI (M l1 0)) h1 rfl inlX3 (by decide) kF_21_12 rfl rfl dX6_product_8 ?_
  refine j_icmp_ge (tgt := 34) C rfl rfl dX6_product_11 (by decide) (fun c1 => ?_) (fun c1 => ?_)
  · have hf := (if_pos c1).symm.trans hf
    exact kx0 _ (som_e hf).symm _ _ _ hO (lv_sub hl [2] rfl)
  · have hf := (if_neg c1).symm.trans hf
    refine lv_lload_n C.1 C.2.1 dX6_product_14 rfl (lv_at hl 2 rfl) ?_
    refine lv_aload_n C.1 C.2.1 dX6_product_15 rfl (lv_at hl 0 rfl) ?_
    refine lv_aload_n C.1 C.2.1 dX6_product_16 rfl (lv_at hl 1 rfl) ?_
    refine lv_iload C.1 C.2.1 dX6_product_17 (lv_at hl 3 rfl) ?_
    obtain ⟨r2, hr2, hf⟩ := bnd_e hf
    refine j_callV C hO (n := 1) (As := [vI S.2]) (st1 := [vI r2, jR G l0, vL S.1]) (c_X3_signAt l G M l1 S.2 h1 hr2) h1 rfl kC_19_6 kM_21_13 kI_19_4 kS_19_5 kN_3_8 ⟨by decide, by decide, by decide⟩ ⟨Nat.le_trans (by decide) hRf, Nat.le_trans (by decide) hRl⟩ rfl rfl rfl hl.1 rfl (Nat.le_of_ble_eq_true rfl) ⟨Nat.zero_le _, Nat.zero_le _⟩ dX6_product_19 rfl (fun H locs hO => ?_)
    obtain ⟨r3, hr3, hf⟩ := bnd_e hf
    refine j_callV C hO (n := 1) (As := [vI r2]) (st1 := [vI r3, vL S.1]) (c_X6_weightOf l G M l0 r2 h0 hr3) h0 rfl kC_16_4 kM_21_21 kI_16_2 kS_16_3 kN_2_4 ⟨by decide, by decide, by decide⟩ ⟨Nat.le_trans (by decide) hRf, Nat.le_trans (by decide) hRl⟩ rfl rfl rfl hl.1 rfl (Nat.le_of_ble_eq_true rfl) ⟨Nat.zero_le _, Nat.zero_le _⟩ dX6_product_22 rfl (fun H locs hO => ?_)
    refine j_i2l C dX6_product_25 ?_
    refine j_lmul C dX6_product_26 ?_
    refine lv_lstore_n (lv' := [(2, vL (S.1 * (w32 r3))), (0, jR G l0), (1, jR G l1), (4, vI S.2)]) C.1 C.2.1 dX6_product_27 rfl hl (by decide) rfl (fun ls hl => ?_)
    refine lv_iinc (v := Int32.ofInt (S.2 + 1)) (lv' := [(4, vI (S.2 + 1)), (2, vL (S.1 * (w32 r3))), (0, jR G l0), (1, jR G l1)]) C.1 C.2.1 dX6_product_28 hl (k := 3) rfl (Int32.ofInt_add _ _).symm (by decide) rfl (fun ls hl => ?_)
    refine lv_goto (tgt := 5) C.1 C.2.1 dX6_product_31 (by decide) ?_
    exact kc _ (som_e hf).symm _ _ _ hO (lv_sub hl [2, 3, 1, 0] rfl)
set_option maxHeartbeats 4000000 in
theorem w_X6_product {p : Program} {l : Launch} {e : Env} {R : Room} {s : State} {m : MethodId} {args : Array Value} {below : List Frame} {meth : Method} {c : Code} {H : Heap} {locs : List Loc} {ls : Array Slot} {G : jG}  (C : jCx p s m args meth c cX6_product 5 RX6 (Cond.code yX6_product cX6_product 5 (some .long)) (some .long)) (hRf : 1 ≤ R.frames) (hRl : 21 ≤ R.locals)  (M : jM) (l0 l1 : Int) (h0 : jkd l0 = (6, 0)) (h1 : jkd l1 = (3, 0)) {fin : Int} (hf : f_X6_product M l0 l1 = some fin) (hO : jOk G M s H locs) (hl : lv_has ls 5 [(0, jR G l0), (1, jR G l1)]) : W p l e R s m args below meth c H locs 0 0 (MQ below (jQ G (some (vL fin)) M) args s 0 0 (jA G)) (F0 m 0 ls []) := by
  unfold f_X6_product at hf
  refine lv_lconst (v := Int64.ofInt 1) C.1 C.2.1 dX6_product_0 (by decide) ?_
  refine lv_lstore_n (lv' := [(2, vL 1), (0, jR G l0), (1, jR G l1)]) C.1 C.2.1 dX6_product_1 rfl hl (by decide) rfl (fun ls hl => ?_)
  refine lv_iconst (v := Int32.ofInt 0) C.1 C.2.1 dX6_product_2 rfl ?_
  refine lv_istore (lv' := [(4, vI 0), (2, vL 1), (0, jR G l0), (1, jR G l1)]) C.1 C.2.1 dX6_product_3 hl (by decide) rfl (fun ls hl => ?_)
  obtain ⟨x4, hx4, hf⟩ := bnd_e hf
  refine iter_e (P := fun Z => ∀ (H : Heap) (locs : List Loc) (ls : Array Slot), jOk G M s H locs → lv_has ls 5 [(0, jR G l0), (1, jR G l1), (2, vL Z.1), (4, vI Z.2)] → W p l e R s m args below meth c H locs 0 0 (MQ below (jQ G (some (vL fin)) M) args s 0 0 (jA G)) (F0 m 5 ls [])) (E := fun q => ∀ (H : Heap) (locs : List Loc) (ls : Array Slot), jOk G M s H locs → lv_has ls 5 [(2, vL q)] → W p l e R s m args below meth c H locs 0 0 (MQ below (jQ G (some (vL fin)) M) args s 0 0 (jA G)) (F0 m 34 ls [])) (fun Z rr hb kc kx H locs ls hO hl => w_X6_product_L5 C hRf hRl M l0 l1 h0 h1 Z hb kc (fun q e => kx q e) hO hl) 5000 (1, 0) x4 hx4 ?_ _ _ _ hO (lv_sub hl [2, 3, 1, 0] rfl)
  clear hO hl
  intro H locs ls hO hl
  refine lv_lload_n C.1 C.2.1 dX6_product_34 rfl (lv_at hl 0 rfl) ?_
  have hf := som_e hf
  subst hf
  exact j_lret C hO dX6_product_35
set_option maxHeartbeats 1000000 in
theorem c_X6_product (l : Launch) (G : jG)  (M : jM) (l0 l1 : Int) (h0 : jkd l0 = (6, 0)) (h1 : jkd l1 = (3, 0)) {fin : Int} (h : f_X6_product M l0 l1 = some fin) : Met l yX6_product (Cond.code yX6_product cX6_product 5 (some .long) :: wsL_law) ({ frames := 1, cells := 0, slots := 0, locals := 21 } : Room) (va_Pc [jR G l0, jR G l1] (fun U => jRep G M U)) (jQ G (some (vL fin)) M) 0 0 (jA G) := by
  refine Met.ofW (cc := cX6_product) (maxL := 5) (ret := (some .long)) (by decide) rfl ?_
  intro p e s m args below meth c s₁ B hml hv
  obtain ⟨rfl, hR0⟩ := hv
  have C : jCx p s m ([jR G l0, jR G l1] : List Value).toArray meth c cX6_product 5 RX6 (Cond.code yX6_product cX6_product 5 (some .long)) (some .long) := ⟨B.exec, B.bytes, hml, findClass_of_methodNamed B.named, atoms_spec B.pre, B.returns, B.notSynchronized⟩
  have hO := hR0.ok
  have hl := lv_entry ([jR G l0, jR G l1]) (n := 5) (Nat.le_of_ble_eq_true rfl)
  rw [lg_entry_eq]
  generalize (lg_sl ([jR G l0, jR G l1]) ++ List.replicate (5 - (lg_sl ([jR G l0, jR G l1])).length) Slot.unset).toArray = ls at hl ⊢
  have hl : lv_has ls 5 [(0, jR G l0), (1, jR G l1)] := hl
  exact w_X6_product C (Nat.le_refl _) (Nat.le_refl _) M l0 l1 h0 h1 h hO hl
set_option maxHeartbeats 4000000 in
theorem w_X6_lap_73 {p : Program} {l : Launch} {e : Env} {R : Room} {s : State} {m : MethodId} {args : Array Value} {below : List Frame} {meth : Method} {c : Code} {H : Heap} {locs : List Loc} {ls : Array Slot} {G : jG}  (C : jCx p s m args meth c cX6_lap 8 RX6 (Cond.code yX6_lap cX6_lap 8 (some .long)) (some .long)) (hRf : 1 ≤ R.frames) (hRl : 21 ≤ R.locals)  (M : jM) (l0 l1 l2 l3 l5 l7 : Int) (h0 : jkd l0 = (6, 0)) (h1 : jkd l1 = (3, 0)) (h2 : jkd l2 = (3, 0)) {fin : Int} {rr : (Int × Int × Int) ⊕ Int} (hf : f_X6_lap_73 M l0 l1 l2 l3 l5 l7 = some rr) (kc : ∀ q : Int × Int × Int, rr = .inl q → ∀ (H : Heap) (locs : List Loc) (ls : Array Slot), jOk G M s H locs → lv_has ls 8 [(0, jR G l0), (1, jR G l1), (2, jR G l2), (3, vL q.1), (5, vL q.2.1), (7, vI q.2.2)] → W p l e R s m args below meth c H locs 0 0 (MQ below (jQ G (some (vL fin)) M) args s 0 0 (jA G)) (F0 m 8 ls [])) (kx0 : ∀ q : Int, rr = .inr q → ∀ (H : Heap) (locs : List Loc) (ls : Array Slot), jOk G M s H locs → lv_has ls 8 [(3, vL q)] → W p l e R s m args below meth c H locs 0 0 (MQ below (jQ G (some (vL fin)) M) args s 0 0 (jA G)) (F0 m 79 ls [])) (hO : jOk G M s H locs) (hl : lv_has ls 8 [(0, jR G l0), (1, jR G l1), (2, jR G l2), (3, vL l3), (5, vL l5), (7, vI l7)]) : W p l e R s m args below meth c H locs 0 0 (MQ below (jQ G (some (vL fin)) M) args s 0 0 (jA G)) (F0 m 73 ls []) := by
  unfold f_X6_lap_73 at hf
  refine lv_iinc (v := Int32.ofInt (l7 + 1)) (lv' := [(7, vI (l7 + 1)), (0, jR G l0), (1, jR G l1), (2, jR G l2), (3, vL l3), (5, vL l5)]) C.1 C.2.1 dX6_lap_73 hl (k := 5) rfl (Int32.ofInt_add _ _).symm (by decide) rfl (fun ls hl => ?_)
  refine lv_goto (tgt := 8) C.1 C.2.1 dX6_lap_76 (by decide) ?_
  exact kc _ (som_e hf).symm _ _ _ hO (lv_sub hl [1, 2, 3, 4, 5, 0] rfl)
set_option maxHeartbeats 4000000 in
theorem w_X6_lap_L8 {p : Program} {l : Launch} {e : Env} {R : Room} {s : State} {m : MethodId} {args : Array Value} {below : List Frame} {meth : Method} {c : Code} {H : Heap} {locs : List Loc} {ls : Array Slot} {G : jG}  (C : jCx p s m args meth c cX6_lap 8 RX6 (Cond.code yX6_lap cX6_lap 8 (some .long)) (some .long)) (hRf : 1 ≤ R.frames) (hRl : 21 ≤ R.locals)  (M : jM) (l0 l1 l2 : Int) (h0 : jkd l0 = (6, 0)) (h1 : jkd l1 = (3, 0)) (h2 : jkd l2 = (3, 0)) {fin : Int} (S : Int × Int × Int) {rr : (Int × Int × Int) ⊕ Int} (hf : f_X6_lap_L8 M l0 l1 l2 S = some rr) (kc : ∀ q : Int × Int × Int, rr = .inl q → ∀ (H : Heap) (locs : List Loc) (ls : Array Slot), jOk G M s H locs → lv_has ls 8 [(0, jR G l0), (1, jR G l1), (2, jR G l2), (3, vL q.1), (5, vL q.2.1), (7, vI q.2.2)] → W p l e R s m args below meth c H locs 0 0 (MQ below (jQ G (some (vL fin)) M) args s 0 0 (jA G)) (F0 m 8 ls [])) (kx0 : ∀ q : Int, rr = .inr q → ∀ (H : Heap) (locs : List Loc) (ls : Array Slot), jOk G M s H locs → lv_has ls 8 [(3, vL q)] → W p l e R s m args below meth c H locs 0 0 (MQ below (jQ G (some (vL fin)) M) args s 0 0 (jA G)) (F0 m 79 ls [])) (hO : jOk G M s H locs) (hl : lv_has ls 8 [(0, jR G l0), (1, jR G l1), (2, jR G l2), (3, vL S.1), (5, vL S.2.1), (7, vI S.2.2)]) : W p l e R s m args below meth c H locs 0 0 (MQ below (jQ G (some (vL fin)) M) args s 0 0 (jA G)) (F0 m 8 ls []) := by
  unfold f_X6_lap_L8 at hf
  refine lv_iload C.1 C.2.1 dX6_lap_8 (lv_at hl 5 rfl) ?_
  refine lv_aload_n C.1 C.2.1 dX6_lap_10 rfl (lv_at hl 2 rfl) ?_
  refine j_get C hO (ci := 3) (k := 0) (v := vI (M l2 0)) h2 rfl inlX3 (by decide) kF_21_12 rfl rfl dX6_lap_11 ?_
  refine j_icmp_gt (tgt := 79) C rfl rfl dX6_lap_14 (by decide) (fun c1 => ?_) (fun c1 => ?_)
  · have hf := (if_pos c1).symm.trans hf
    exact kx0 _ (som_e hf).symm _ _ _ hO (lv_sub hl [3] rfl)
  · have hf := (if_neg c1).symm.trans hf
    refine lv_lload C.1 C.2.1 dX6_lap_17 (lv_at hl 4 rfl) ?_
    refine lv_aload_n C.1 C.2.1 dX6_lap_19 rfl (lv_at hl 0 rfl) ?_
    refine j_get C hO (ci := 6) (k := 1) (v := vI (M l0 1)) h0 rfl inlX6 (by decide) kF_15_19 rfl rfl dX6_lap_20 ?_
    refine j_i2l C dX6_lap_23 ?_
    refine j_lmul C dX6_lap_24 ?_
    refine lv_lstore (lv' := [(5, vL (S.2.1 * (w32 (M l0 1)))), (0, jR G l0), (1, jR G l1), (2, jR G l2), (3, vL S.1), (7, vI S.2.2)]) C.1 C.2.1 dX6_lap_25 hl (by decide) rfl (fun ls hl => ?_)
    refine lv_lload_n C.1 C.2.1 dX6_lap_27 rfl (lv_at hl 4 rfl) ?_
    refine lv_aload_n C.1 C.2.1 dX6_lap_28 rfl (lv_at hl 1 rfl) ?_
    refine lv_aload_n C.1 C.2.1 dX6_lap_29 rfl (lv_at hl 3 rfl) ?_
    refine lv_iload C.1 C.2.1 dX6_lap_30 (lv_at hl 5 rfl) ?_
    refine lv_iconst (v := Int32.ofInt 1) C.1 C.2.1 dX6_lap_32 rfl ?_
    refine j_isub C dX6_lap_33 ?_
    obtain ⟨r2, hr2, hf⟩ := bnd_e hf
    refine j_callV C hO (n := 1) (As := [vI (S.2.2 - 1)]) (st1 := [vI r2, jR G l0, vL S.1]) (c_X3_signAt l G M l2 (S.2.2 - 1) h2 hr2) h2 rfl kC_19_6 kM_21_13 kI_19_4 kS_19_5 kN_3_8 ⟨by decide, by decide, by decide⟩ ⟨Nat.le_trans (by decide) hRf, Nat.le_trans (by decide) hRl⟩ rfl rfl rfl hl.1 rfl (Nat.le_of_ble_eq_true rfl) ⟨Nat.zero_le _, Nat.zero_le _⟩ dX6_lap_34 rfl (fun H locs hO => ?_)
    obtain ⟨r3, hr3, hf⟩ := bnd_e hf
    refine j_callV C hO (n := 1) (As := [vI r2]) (st1 := [vI r3, vL S.1]) (c_X6_weightOf l G M l0 r2 h0 hr3) h0 rfl kC_16_4 kM_21_21 kI_16_2 kS_16_3 kN_2_4 ⟨by decide, by decide, by decide⟩ ⟨Nat.le_trans (by decide) hRf, Nat.le_trans (by decide) hRl⟩ rfl rfl rfl hl.1 rfl (Nat.le_of_ble_eq_true rfl) ⟨Nat.zero_le _, Nat.zero_le _⟩ dX6_lap_37 rfl (fun H locs hO => ?_)
    refine j_i2l C dX6_lap_40 ?_
    refine j_lmul C dX6_lap_41 ?_
    refine lv_lstore_n (lv' := [(3, vL (S.1 * (w32 r3))), (5, vL (S.2.1 * (w32 (M l0 1)))), (0, jR G l0), (1, jR G l1), (2, jR G l2), (7, vI S.2.2)]) C.1 C.2.1 dX6_lap_42 rfl hl (by decide) rfl (fun ls hl => ?_)
    refine lv_iload C.1 C.2.1 dX6_lap_43 (lv_at hl 5 rfl) ?_
    refine lv_aload_n C.1 C.2.1 dX6_lap_45 rfl (lv_at hl 3 rfl) ?_
    refine j_get C hO (ci := 3) (k := 0) (v := vI (M l1 0)) h1 rfl inlX3 (by decide) kF_21_12 rfl rfl dX6_lap_46 ?_
    refine j_icmp_gt (tgt := 73) C rfl rfl dX6_lap_49 (by decide) (fun c4 => ?_) (fun c4 => ?_)
    · have hf := (if_pos c4).symm.trans hf
      exact w_X6_lap_73 C hRf hRl M l0 l1 l2 (S.1 * (w32 r3)) (S.2.1 * (w32 (M l0 1))) S.2.2 h0 h1 h2 hf kc kx0 hO (lv_sub hl [2, 3, 4, 0, 1, 5] rfl)
    · have hf := (if_neg c4).symm.trans hf
      refine lv_aload_n C.1 C.2.1 dX6_lap_52 rfl (lv_at hl 3 rfl) ?_
      refine lv_iload C.1 C.2.1 dX6_lap_53 (lv_at hl 5 rfl) ?_
      obtain ⟨r5, hr5, hf⟩ := bnd_e hf
      refine j_callV C hO (n := 1) (As := [vI S.2.2]) (st1 := [vL r5]) (c_X3_lastOnes l G M l1 S.2.2 h1 hr5) h1 rfl kC_22_1 kM_21_22 kI_21_23 kS_22_0 kN_3_8 ⟨by decide, by decide, by decide⟩ ⟨Nat.le_trans (by decide) hRf, Nat.le_trans (by decide) hRl⟩ rfl rfl rfl hl.1 rfl (Nat.le_of_ble_eq_true rfl) ⟨Nat.zero_le _, Nat.zero_le _⟩ dX6_lap_55 rfl (fun H locs hO => ?_)
      refine lv_aload_n C.1 C.2.1 dX6_lap_58 rfl (lv_at hl 4 rfl) ?_
      refine lv_iload C.1 C.2.1 dX6_lap_59 (lv_at hl 5 rfl) ?_
      obtain ⟨r6, hr6, hf⟩ := bnd_e hf
      refine j_callV C hO (n := 1) (As := [vI S.2.2]) (st1 := [vL r6, vL r5]) (c_X3_firstOnes l G M l2 S.2.2 h2 hr6) h2 rfl kC_22_5 kM_22_2 kI_22_3 kS_22_4 kN_3_8 ⟨by decide, by decide, by decide⟩ ⟨Nat.le_trans (by decide) hRf, Nat.le_trans (by decide) hRl⟩ rfl rfl rfl hl.1 rfl (Nat.le_of_ble_eq_true rfl) ⟨Nat.zero_le _, Nat.zero_le _⟩ dX6_lap_61 rfl (fun H locs hO => ?_)
      refine j_lcmp_ne (tgt := 73) C rfl rfl dX6_lap_64 dX6_lap_65 (by decide) (fun c7 => ?_) (fun c7 => ?_)
      · have hf := (if_neg c7).symm.trans hf
        exact w_X6_lap_73 C hRf hRl M l0 l1 l2 (S.1 * (w32 r3)) (S.2.1 * (w32 (M l0 1))) S.2.2 h0 h1 h2 hf kc kx0 hO (lv_sub hl [2, 3, 4, 0, 1, 5] rfl)
      · have hf := (if_pos c7).symm.trans hf
        refine lv_lload_n C.1 C.2.1 dX6_lap_68 rfl (lv_at hl 0 rfl) ?_
        refine lv_lload C.1 C.2.1 dX6_lap_69 (lv_at hl 1 rfl) ?_
        refine j_ladd C dX6_lap_71 ?_
        refine lv_lstore_n (lv' := [(3, vL ((S.1 * (w32 r3)) + (S.2.1 * (w32 (M l0 1))))), (5, vL (S.2.1 * (w32 (M l0 1)))), (0, jR G l0), (1, jR G l1), (2, jR G l2), (7, vI S.2.2)]) C.1 C.2.1 dX6_lap_72 rfl hl (by decide) rfl (fun ls hl => ?_)
        exact w_X6_lap_73 C hRf hRl M l0 l1 l2 ((S.1 * (w32 r3)) + (S.2.1 * (w32 (M l0 1)))) (S.2.1 * (w32 (M l0 1))) S.2.2 h0 h1 h2 hf kc kx0 hO (lv_sub hl [2, 3, 4, 0, 1, 5] rfl)
set_option maxHeartbeats 4000000 in
theorem w_X6_lap {p : Program} {l : Launch} {e : Env} {R : Room} {s : State} {m : MethodId} {args : Array Value} {below : List Frame} {meth : Method} {c : Code} {H : Heap} {locs : List Loc} {ls : Array Slot} {G : jG}  (C : jCx p s m args meth c cX6_lap 8 RX6 (Cond.code yX6_lap cX6_lap 8 (some .long)) (some .long)) (hRf : 1 ≤ R.frames) (hRl : 21 ≤ R.locals)  (M : jM) (l0 l1 l2 : Int) (h0 : jkd l0 = (6, 0)) (h1 : jkd l1 = (3, 0)) (h2 : jkd l2 = (3, 0)) {fin : Int} (hf : f_X6_lap M l0 l1 l2 = some fin) (hO : jOk G M s H locs) (hl : lv_has ls 8 [(0, jR G l0), (1, jR G l1), (2, jR G l2)]) : W p l e R s m args below meth c H locs 0 0 (MQ below (jQ G (some (vL fin)) M) args s 0 0 (jA G)) (F0 m 0 ls []) := by
  unfold f_X6_lap at hf
  refine lv_lconst (v := Int64.ofInt 0) C.1 C.2.1 dX6_lap_0 (by decide) ?_
  refine lv_lstore_n (lv' := [(3, vL 0), (0, jR G l0), (1, jR G l1), (2, jR G l2)]) C.1 C.2.1 dX6_lap_1 rfl hl (by decide) rfl (fun ls hl => ?_)
  refine lv_lconst (v := Int64.ofInt 1) C.1 C.2.1 dX6_lap_2 (by decide) ?_
  refine lv_lstore (lv' := [(5, vL 1), (3, vL 0), (0, jR G l0), (1, jR G l1), (2, jR G l2)]) C.1 C.2.1 dX6_lap_3 hl (by decide) rfl (fun ls hl => ?_)
  refine lv_iconst (v := Int32.ofInt 1) C.1 C.2.1 dX6_lap_5 rfl ?_
  refine lv_istore (lv' := [(7, vI 1), (5, vL 1), (3, vL 0), (0, jR G l0), (1, jR G l1), (2, jR G l2)]) C.1 C.2.1 dX6_lap_6 hl (by decide) rfl (fun ls hl => ?_)
  obtain ⟨x8, hx8, hf⟩ := bnd_e hf
  refine iter_e (P := fun Z => ∀ (H : Heap) (locs : List Loc) (ls : Array Slot), jOk G M s H locs → lv_has ls 8 [(0, jR G l0), (1, jR G l1), (2, jR G l2), (3, vL Z.1), (5, vL Z.2.1), (7, vI Z.2.2)] → W p l e R s m args below meth c H locs 0 0 (MQ below (jQ G (some (vL fin)) M) args s 0 0 (jA G)) (F0 m 8 ls [])) (E := fun q => ∀ (H : Heap) (locs : List Loc) (ls : Array Slot), jOk G M s H locs → lv_has ls 8 [(3, vL q)] → W p l e R s m args below meth c H locs 0 0 (MQ below (jQ G (some (vL fin)) M) args s 0 0 (jA G)) (F0 m 79 ls [])) (fun Z rr hb kc kx H locs ls hO hl => w_X6_lap_L8 C hRf hRl M l0 l1 l2 h0 h1 h2 Z hb kc (fun q e => kx q e) hO hl) 5000 (0, 1, 1) x8 hx8 ?_ _ _ _ hO (lv_sub hl [3, 4, 5, 2, 1, 0] rfl)
  clear hO hl
  intro H locs ls hO hl
  refine lv_lload_n C.1 C.2.1 dX6_lap_79 rfl (lv_at hl 0 rfl) ?_
  have hf := som_e hf
  subst hf
  exact j_lret C hO dX6_lap_80
set_option maxHeartbeats 1000000 in
theorem c_X6_lap (l : Launch) (G : jG)  (M : jM) (l0 l1 l2 : Int) (h0 : jkd l0 = (6, 0)) (h1 : jkd l1 = (3, 0)) (h2 : jkd l2 = (3, 0)) {fin : Int} (h : f_X6_lap M l0 l1 l2 = some fin) : Met l yX6_lap (Cond.code yX6_lap cX6_lap 8 (some .long) :: wsL_law) ({ frames := 1, cells := 0, slots := 0, locals := 21 } : Room) (va_Pc [jR G l0, jR G l1, jR G l2] (fun U => jRep G M U)) (jQ G (some (vL fin)) M) 0 0 (jA G) := by
  refine Met.ofW (cc := cX6_lap) (maxL := 8) (ret := (some .long)) (by decide) rfl ?_
  intro p e s m args below meth c s₁ B hml hv
  obtain ⟨rfl, hR0⟩ := hv
  have C : jCx p s m ([jR G l0, jR G l1, jR G l2] : List Value).toArray meth c cX6_lap 8 RX6 (Cond.code yX6_lap cX6_lap 8 (some .long)) (some .long) := ⟨B.exec, B.bytes, hml, findClass_of_methodNamed B.named, atoms_spec B.pre, B.returns, B.notSynchronized⟩
  have hO := hR0.ok
  have hl := lv_entry ([jR G l0, jR G l1, jR G l2]) (n := 8) (Nat.le_of_ble_eq_true rfl)
  rw [lg_entry_eq]
  generalize (lg_sl ([jR G l0, jR G l1, jR G l2]) ++ List.replicate (8 - (lg_sl ([jR G l0, jR G l1, jR G l2])).length) Slot.unset).toArray = ls at hl ⊢
  have hl : lv_has ls 8 [(0, jR G l0), (1, jR G l1), (2, jR G l2)] := hl
  exact w_X6_lap C (Nat.le_refl _) (Nat.le_refl _) M l0 l1 l2 h0 h1 h2 h hO hl
set_option maxHeartbeats 4000000 in
theorem w_X8_copy_L2 {p : Program} {l : Launch} {e : Env} {R : Room} {s : State} {m : MethodId} {args : Array Value} {below : List Frame} {meth : Method} {c : Code} {H : Heap} {locs : List Loc} {ls : Array Slot} {G : jG}  (C : jCx p s m args meth c cX8_copy 3 RX8 (Cond.code yX8_copy cX8_copy 3 none) none) (hRf : 1 ≤ R.frames) (hRl : 22 ≤ R.locals)  (M : jM) (l0 l1 : Int) (h0 : jkd l0 = (8, 0)) (h1 : jkd l1 = (8, 0)) {fin : jM} (S : jM × Int) {rr : (jM × Int) ⊕ jM} (hf : f_X8_copy_L2 M l0 l1 S = some rr) (kc : ∀ q : jM × Int, rr = .inl q → ∀ (H : Heap) (locs : List Loc) (ls : Array Slot), jOk G q.1 s H locs → lv_has ls 3 [(0, jR G l0), (1, jR G l1), (2, vI q.2)] → W p l e R s m args below meth c H locs 0 0 (MQ below (jQ G none fin) args s 0 0 (jA G)) (F0 m 2 ls [])) (kx0 : ∀ q : jM, rr = .inr q → ∀ (H : Heap) (locs : List Loc) (ls : Array Slot), jOk G q s H locs → lv_has ls 3 [(0, jR G l0), (1, jR G l1)] → W p l e R s m args below meth c H locs 0 0 (MQ below (jQ G none fin) args s 0 0 (jA G)) (F0 m 28 ls [])) (hO : jOk G S.1 s H locs) (hl : lv_has ls 3 [(0, jR G l0), (1, jR G l1), (2, vI S.2)]) : W p l e R s m args below meth c H locs 0 0 (MQ below (jQ G none fin) args s 0 0 (jA G)) (F0 m 2 ls []) := by
  unfold f_X8_copy_L2 at hf
  refine lv_iload_n C.1 C.2.1 dX8_copy_2 rfl (lv_at hl 2 rfl) ?_
  refine lv_aload_n C.1 C.2.1 dX8_copy_3 rfl (lv_at hl 1 rfl) ?_
  refine j_get C hO (ci := 8) (k := 1) (v := vI (S.1 l1 1)) h1 rfl inlX8 (by decide) kF_6_18 rfl rfl dX8_copy_4 ?_
  refine j_icmp_ge (tgt := 28) C rfl rfl dX8_copy_7 (by decide) (fun c1 => ?_) (fun c1 => ?_)
  · have hf := (if_pos c1).symm.trans hf
    exact kx0 _ (som_e hf).symm _ _ _ hO (lv_sub hl [0, 1] rfl)
  · have hf := (if_neg c1).symm.trans hf
    refine lv_aload_n C.1 C.2.1 dX8_copy_10 rfl (lv_at hl 0 rfl) ?_
    refine j_get C hO (ci := 8) (k := 0) (v := jR G (jpt l0 0)) h0 rfl inlX8 (by decide) kF_3_3 rfl rfl dX8_copy_11 ?_
    refine lv_iload_n C.1 C.2.1 dX8_copy_14 rfl (lv_at hl 2 rfl) ?_
    refine lv_aload_n C.1 C.2.1 dX8_copy_15 rfl (lv_at hl 1 rfl) ?_
    refine j_get C hO (ci := 8) (k := 0) (v := jR G (jpt l1 0)) h1 rfl inlX8 (by decide) kF_3_3 rfl rfl dX8_copy_16 ?_
    refine lv_iload_n C.1 C.2.1 dX8_copy_19 rfl (lv_at hl 2 rfl) ?_
    obtain ⟨g2, hf⟩ := grd_e hf
    refine j_iald C hO (tp_8_0 h1) rfl g2.1 g2.2 dX8_copy_20 ?_
    obtain ⟨g3, hf⟩ := grd_e hf
    obtain ⟨M4, hM4, hf⟩ := lt1_e hf
    refine j_iast C hO (x := S.1 (jpt l1 0) (w32 S.2)) (tp_8_0 h0) rfl g3.1 g3.2 dX8_copy_21 (fun H locs hO => ?_)
    rw [← hM4] at hO
    refine lv_iinc (v := Int32.ofInt (S.2 + 1)) (lv' := [(2, vI (S.2 + 1)), (0, jR G l0), (1, jR G l1)]) C.1 C.2.1 dX8_copy_22 hl (k := 2) rfl (Int32.ofInt_add _ _).symm (by decide) rfl (fun ls hl => ?_)
    refine lv_goto (tgt := 2) C.1 C.2.1 dX8_copy_25 (by decide) ?_
    exact kc _ (som_e hf).symm _ _ _ hO (lv_sub hl [1, 2, 0] rfl)
set_option maxHeartbeats 4000000 in
theorem w_X8_copy_L76 {p : Program} {l : Launch} {e : Env} {R : Room} {s : State} {m : MethodId} {args : Array Value} {below : List Frame} {meth : Method} {c : Code} {H : Heap} {locs : List Loc} {ls : Array Slot} {G : jG}  (C : jCx p s m args meth c cX8_copy 3 RX8 (Cond.code yX8_copy cX8_copy 3 none) none) (hRf : 1 ≤ R.frames) (hRl : 22 ≤ R.locals)  (M : jM) (l0 l1 : Int) (h0 : jkd l0 = (8, 0)) (h1 : jkd l1 = (8, 0)) {fin : jM} (S : jM × Int) {rr : (jM × Int) ⊕ jM} (hf : f_X8_copy_L76 M l0 l1 S = some rr) (kc : ∀ q : jM × Int, rr = .inl q → ∀ (H : Heap) (locs : List Loc) (ls : Array Slot), jOk G q.1 s H locs → lv_has ls 3 [(0, jR G l0), (1, jR G l1), (2, vI q.2)] → W p l e R s m args below meth c H locs 0 0 (MQ below (jQ G none fin) args s 0 0 (jA G)) (F0 m 76 ls [])) (kx0 : ∀ q : jM, rr = .inr q → ∀ (H : Heap) (locs : List Loc) (ls : Array Slot), jOk G q s H locs → lv_has ls 3 [(0, jR G l0), (1, jR G l1)] → W p l e R s m args below meth c H locs 0 0 (MQ below (jQ G none fin) args s 0 0 (jA G)) (F0 m 103 ls [])) (hO : jOk G S.1 s H locs) (hl : lv_has ls 3 [(0, jR G l0), (1, jR G l1), (2, vI S.2)]) : W p l e R s m args below meth c H locs 0 0 (MQ below (jQ G none fin) args s 0 0 (jA G)) (F0 m 76 ls []) := by
  unfold f_X8_copy_L76 at hf
  refine lv_iload_n C.1 C.2.1 dX8_copy_76 rfl (lv_at hl 2 rfl) ?_
  refine lv_bipush (v := Int32.ofInt 6) C.1 C.2.1 dX8_copy_77 (by decide) ?_
  refine j_icmp_ge (tgt := 103) C rfl (w32_id (by decide) (by decide)) dX8_copy_79 (by decide) (fun c11 => ?_) (fun c11 => ?_)
  · have hf := (if_pos c11).symm.trans hf
    exact kx0 _ (som_e hf).symm _ _ _ hO (lv_sub hl [0, 1] rfl)
  · have hf := (if_neg c11).symm.trans hf
    refine lv_aload_n C.1 C.2.1 dX8_copy_82 rfl (lv_at hl 0 rfl) ?_
    refine j_get C hO (ci := 8) (k := 6) (v := jR G (jpt l0 6)) h0 rfl inlX8 (by decide) kF_3_10 rfl rfl dX8_copy_83 ?_
    refine lv_iload_n C.1 C.2.1 dX8_copy_86 rfl (lv_at hl 2 rfl) ?_
    obtain ⟨g12, hf⟩ := grd_e hf
    refine j_aald C hO (tp_8_6 h0) rfl g12.1 g12.2 dX8_copy_87 ?_
    refine lv_aload_n C.1 C.2.1 dX8_copy_88 rfl (lv_at hl 1 rfl) ?_
    refine j_get C hO (ci := 8) (k := 6) (v := jR G (jpt l1 6)) h1 rfl inlX8 (by decide) kF_3_10 rfl rfl dX8_copy_89 ?_
    refine lv_iload_n C.1 C.2.1 dX8_copy_92 rfl (lv_at hl 2 rfl) ?_
    obtain ⟨g13, hf⟩ := grd_e hf
    refine j_aald C hO (tp_8_6 h1) rfl g13.1 g13.2 dX8_copy_93 ?_
    obtain ⟨r14, hr14, hf⟩ := bnd_e hf
    refine j_callV C hO (n := 1) (As := [jR G (jpt (jpt l1 6) (w32 S.2))]) (st1 := []) (c_X3_copy l G S.1 (jpt (jpt l0 6) (w32 S.2)) (jpt (jpt l1 6) (w32 S.2)) (tpo_6 (tp_8_6 h0) g12.1 g12.2) (tpo_6 (tp_8_6 h1) g13.1 g13.2) hr14) (tpo_6 (tp_8_6 h0) g12.1 g12.2) rfl kC_18_10 kM_43_23 kI_18_8 kS_18_9 kN_3_8 ⟨by decide, by decide, by decide⟩ ⟨Nat.le_trans (by decide) hRf, Nat.le_trans (by decide) hRl⟩ rfl rfl rfl hl.1 rfl (Nat.le_of_ble_eq_true rfl) ⟨Nat.zero_le _, Nat.zero_le _⟩ dX8_copy_94 rfl (fun H locs hO => ?_)
    refine lv_iinc (v := Int32.ofInt (S.2 + 1)) (lv' := [(2, vI (S.2 + 1)), (0, jR G l0), (1, jR G l1)]) C.1 C.2.1 dX8_copy_97 hl (k := 2) rfl (Int32.ofInt_add _ _).symm (by decide) rfl (fun ls hl => ?_)
    refine lv_goto (tgt := 76) C.1 C.2.1 dX8_copy_100 (by decide) ?_
    exact kc _ (som_e hf).symm _ _ _ hO (lv_sub hl [1, 2, 0] rfl)
set_option maxHeartbeats 4000000 in
theorem w_X8_copy_L113 {p : Program} {l : Launch} {e : Env} {R : Room} {s : State} {m : MethodId} {args : Array Value} {below : List Frame} {meth : Method} {c : Code} {H : Heap} {locs : List Loc} {ls : Array Slot} {G : jG}  (C : jCx p s m args meth c cX8_copy 3 RX8 (Cond.code yX8_copy cX8_copy 3 none) none) (hRf : 1 ≤ R.frames) (hRl : 22 ≤ R.locals)  (M : jM) (l0 l1 : Int) (h0 : jkd l0 = (8, 0)) (h1 : jkd l1 = (8, 0)) {fin : jM} (S : jM × Int) {rr : (jM × Int) ⊕ jM} (hf : f_X8_copy_L113 M l0 l1 S = some rr) (kc : ∀ q : jM × Int, rr = .inl q → ∀ (H : Heap) (locs : List Loc) (ls : Array Slot), jOk G q.1 s H locs → lv_has ls 3 [(0, jR G l0), (1, jR G l1), (2, vI q.2)] → W p l e R s m args below meth c H locs 0 0 (MQ below (jQ G none fin) args s 0 0 (jA G)) (F0 m 113 ls [])) (kx0 : ∀ q : jM, rr = .inr q → ∀ (H : Heap) (locs : List Loc) (ls : Array Slot), jOk G q s H locs → lv_has ls 3 [(0, jR G l0), (1, jR G l1)] → W p l e R s m args below meth c H locs 0 0 (MQ below (jQ G none fin) args s 0 0 (jA G)) (F0 m 163 ls [])) (hO : jOk G S.1 s H locs) (hl : lv_has ls 3 [(0, jR G l0), (1, jR G l1), (2, vI S.2)]) : W p l e R s m args below meth c H locs 0 0 (MQ below (jQ G none fin) args s 0 0 (jA G)) (F0 m 113 ls []) := by
  unfold f_X8_copy_L113 at hf
  refine lv_iload_n C.1 C.2.1 dX8_copy_113 rfl (lv_at hl 2 rfl) ?_
  refine lv_iconst (v := Int32.ofInt 4) C.1 C.2.1 dX8_copy_114 rfl ?_
  refine j_icmp_ge (tgt := 163) C rfl (w32_id (by decide) (by decide)) dX8_copy_115 (by decide) (fun c17 => ?_) (fun c17 => ?_)
  · have hf := (if_pos c17).symm.trans hf
    exact kx0 _ (som_e hf).symm _ _ _ hO (lv_sub hl [0, 1] rfl)
  · have hf := (if_neg c17).symm.trans hf
    refine lv_aload_n C.1 C.2.1 dX8_copy_118 rfl (lv_at hl 0 rfl) ?_
    refine j_get C hO (ci := 8) (k := 8) (v := jR G (jpt l0 8)) h0 rfl inlX8 (by decide) kF_3_11 rfl rfl dX8_copy_119 ?_
    refine lv_iload_n C.1 C.2.1 dX8_copy_122 rfl (lv_at hl 2 rfl) ?_
    refine lv_aload_n C.1 C.2.1 dX8_copy_123 rfl (lv_at hl 1 rfl) ?_
    refine j_get C hO (ci := 8) (k := 8) (v := jR G (jpt l1 8)) h1 rfl inlX8 (by decide) kF_3_11 rfl rfl dX8_copy_124 ?_
    refine lv_iload_n C.1 C.2.1 dX8_copy_127 rfl (lv_at hl 2 rfl) ?_
    obtain ⟨g18, hf⟩ := grd_e hf
    refine j_iald C hO (tp_8_8 h1) rfl g18.1 g18.2 dX8_copy_128 ?_
    obtain ⟨g19, hf⟩ := grd_e hf
    obtain ⟨M20, hM20, hf⟩ := lt1_e hf
    refine j_iast C hO (x := S.1 (jpt l1 8) (w32 S.2)) (tp_8_8 h0) rfl g19.1 g19.2 dX8_copy_129 (fun H locs hO => ?_)
    rw [← hM20] at hO
    refine lv_aload_n C.1 C.2.1 dX8_copy_130 rfl (lv_at hl 0 rfl) ?_
    refine j_get C hO (ci := 8) (k := 9) (v := jR G (jpt l0 9)) h0 rfl inlX8 (by decide) kF_3_12 rfl rfl dX8_copy_131 ?_
    refine lv_iload_n C.1 C.2.1 dX8_copy_134 rfl (lv_at hl 2 rfl) ?_
    refine lv_aload_n C.1 C.2.1 dX8_copy_135 rfl (lv_at hl 1 rfl) ?_
    refine j_get C hO (ci := 8) (k := 9) (v := jR G (jpt l1 9)) h1 rfl inlX8 (by decide) kF_3_12 rfl rfl dX8_copy_136 ?_
    refine lv_iload_n C.1 C.2.1 dX8_copy_139 rfl (lv_at hl 2 rfl) ?_
    obtain ⟨g21, hf⟩ := grd_e hf
    refine j_iald C hO (tp_8_9 h1) rfl g21.1 g21.2 dX8_copy_140 ?_
    obtain ⟨g22, hf⟩ := grd_e hf
    obtain ⟨M23, hM23, hf⟩ := lt1_e hf
    refine j_iast C hO (x := M20 (jpt l1 9) (w32 S.2)) (tp_8_9 h0) rfl g22.1 g22.2 dX8_copy_141 (fun H locs hO => ?_)
    rw [← hM23] at hO
    refine lv_aload_n C.1 C.2.1 dX8_copy_142 rfl (lv_at hl 0 rfl) ?_
    refine j_get C hO (ci := 8) (k := 10) (v := jR G (jpt l0 10)) h0 rfl inlX8 (by decide) kF_3_13 rfl rfl dX8_copy_143 ?_
    refine lv_iload_n C.1 C.2.1 dX8_copy_146 rfl (lv_at hl 2 rfl) ?_
    obtain ⟨g24, hf⟩ := grd_e hf
    refine j_aald C hO (tp_8_10 h0) rfl g24.1 g24.2 dX8_copy_147 ?_
    refine lv_aload_n C.1 C.2.1 dX8_copy_148 rfl (lv_at hl 1 rfl) ?_
    refine j_get C hO (ci := 8) (k := 10) (v := jR G (jpt l1 10)) h1 rfl inlX8 (by decide) kF_3_13 rfl rfl dX8_copy_149 ?_
    refine lv_iload_n C.1 C.2.1 dX8_copy_152 rfl (lv_at hl 2 rfl) ?_
    obtain ⟨g25, hf⟩ := grd_e hf
    refine j_aald C hO (tp_8_10 h1) rfl g25.1 g25.2 dX8_copy_153 ?_
    obtain ⟨r26, hr26, hf⟩ := bnd_e hf
    refine j_callV C hO (n := 1) (As := [jR G (jpt (jpt l1 10) (w32 S.2))]) (st1 := []) (c_X3_copy l G M23 (jpt (jpt l0 10) (w32 S.2)) (jpt (jpt l1 10) (w32 S.2)) (tpo_4 (tp_8_10 h0) g24.1 g24.2) (tpo_4 (tp_8_10 h1) g25.1 g25.2) hr26) (tpo_4 (tp_8_10 h0) g24.1 g24.2) rfl kC_18_10 kM_43_23 kI_18_8 kS_18_9 kN_3_8 ⟨by decide, by decide, by decide⟩ ⟨Nat.le_trans (by decide) hRf, Nat.le_trans (by decide) hRl⟩ rfl rfl rfl hl.1 rfl (Nat.le_of_ble_eq_true rfl) ⟨Nat.zero_le _, Nat.zero_le _⟩ dX8_copy_154 rfl (fun H locs hO => ?_)
    refine lv_iinc (v := Int32.ofInt (S.2 + 1)) (lv' := [(2, vI (S.2 + 1)), (0, jR G l0), (1, jR G l1)]) C.1 C.2.1 dX8_copy_157 hl (k := 2) rfl (Int32.ofInt_add _ _).symm (by decide) rfl (fun ls hl => ?_)
    refine lv_goto (tgt := 113) C.1 C.2.1 dX8_copy_160 (by decide) ?_
    exact kc _ (som_e hf).symm _ _ _ hO (lv_sub hl [1, 2, 0] rfl)
set_option maxHeartbeats 4000000 in
theorem w_X8_copy {p : Program} {l : Launch} {e : Env} {R : Room} {s : State} {m : MethodId} {args : Array Value} {below : List Frame} {meth : Method} {c : Code} {H : Heap} {locs : List Loc} {ls : Array Slot} {G : jG}  (C : jCx p s m args meth c cX8_copy 3 RX8 (Cond.code yX8_copy cX8_copy 3 none) none) (hRf : 1 ≤ R.frames) (hRl : 22 ≤ R.locals)  (M : jM) (l0 l1 : Int) (h0 : jkd l0 = (8, 0)) (h1 : jkd l1 = (8, 0)) {fin : jM} (hf : f_X8_copy M l0 l1 = some fin) (hO : jOk G M s H locs) (hl : lv_has ls 3 [(0, jR G l0), (1, jR G l1)]) : W p l e R s m args below meth c H locs 0 0 (MQ below (jQ G none fin) args s 0 0 (jA G)) (F0 m 0 ls []) := by
  unfold f_X8_copy at hf
  refine lv_iconst (v := Int32.ofInt 0) C.1 C.2.1 dX8_copy_0 rfl ?_
  refine lv_istore_n (lv' := [(2, vI 0), (0, jR G l0), (1, jR G l1)]) C.1 C.2.1 dX8_copy_1 rfl hl (by decide) rfl (fun ls hl => ?_)
  obtain ⟨x5, hx5, hf⟩ := bnd_e hf
  refine iter_e (P := fun Z => ∀ (H : Heap) (locs : List Loc) (ls : Array Slot), jOk G Z.1 s H locs → lv_has ls 3 [(0, jR G l0), (1, jR G l1), (2, vI Z.2)] → W p l e R s m args below meth c H locs 0 0 (MQ below (jQ G none fin) args s 0 0 (jA G)) (F0 m 2 ls [])) (E := fun q => ∀ (H : Heap) (locs : List Loc) (ls : Array Slot), jOk G q s H locs → lv_has ls 3 [(0, jR G l0), (1, jR G l1)] → W p l e R s m args below meth c H locs 0 0 (MQ below (jQ G none fin) args s 0 0 (jA G)) (F0 m 28 ls [])) (fun Z rr hb kc kx H locs ls hO hl => w_X8_copy_L2 C hRf hRl M l0 l1 h0 h1 Z hb kc (fun q e => kx q e) hO hl) 5000 (M, 0) x5 hx5 ?_ _ _ _ hO (lv_sub hl [1, 2, 0] rfl)
  clear hO hl
  intro H locs ls hO hl
  refine lv_aload_n C.1 C.2.1 dX8_copy_28 rfl (lv_at hl 0 rfl) ?_
  refine lv_aload_n C.1 C.2.1 dX8_copy_29 rfl (lv_at hl 1 rfl) ?_
  refine j_get C hO (ci := 8) (k := 1) (v := vI (x5 l1 1)) h1 rfl inlX8 (by decide) kF_6_18 rfl rfl dX8_copy_30 ?_
  obtain ⟨M6, hM6, hf⟩ := lt1_e hf
  refine j_put C hO (ci := 8) (k := 1) (x := x5 l1 1) h0 rfl inlX8 tyX8_ok nmX8 (by decide) kF_6_18 rfl rfl rfl rfl (by simp [jfl]) (fs_8_1) dX8_copy_33 (fun H locs hO => ?_)
  rw [← hM6] at hO
  refine lv_aload_n C.1 C.2.1 dX8_copy_36 rfl (lv_at hl 0 rfl) ?_
  refine j_get C hO (ci := 8) (k := 2) (v := jR G (jpt l0 2)) h0 rfl inlX8 (by decide) kF_3_5 rfl rfl dX8_copy_37 ?_
  refine lv_aload_n C.1 C.2.1 dX8_copy_40 rfl (lv_at hl 1 rfl) ?_
  refine j_get C hO (ci := 8) (k := 2) (v := jR G (jpt l1 2)) h1 rfl inlX8 (by decide) kF_3_5 rfl rfl dX8_copy_41 ?_
  obtain ⟨r7, hr7, hf⟩ := bnd_e hf
  refine j_callV C hO (n := 1) (As := [jR G (jpt l1 2)]) (st1 := []) (c_X7_copy l G M6 (jpt l0 2) (jpt l1 2) (tp_8_2 h0) (tp_8_2 h1) hr7) (tp_8_2 h0) rfl kC_12_8 kM_43_22 kI_12_6 kS_12_7 kN_1_20 ⟨by decide, by decide, by decide⟩ ⟨Nat.le_trans (by decide) hRf, Nat.le_trans (by decide) hRl⟩ rfl rfl rfl hl.1 rfl (Nat.le_of_ble_eq_true rfl) ⟨Nat.zero_le _, Nat.zero_le _⟩ dX8_copy_44 rfl (fun H locs hO => ?_)
  refine lv_aload_n C.1 C.2.1 dX8_copy_47 rfl (lv_at hl 0 rfl) ?_
  refine lv_aload_n C.1 C.2.1 dX8_copy_48 rfl (lv_at hl 1 rfl) ?_
  refine j_get C hO (ci := 8) (k := 3) (v := vI (r7 l1 3)) h1 rfl inlX8 (by decide) kF_43_20 rfl rfl dX8_copy_49 ?_
  obtain ⟨M8, hM8, hf⟩ := lt1_e hf
  refine j_put C hO (ci := 8) (k := 3) (x := r7 l1 3) h0 rfl inlX8 tyX8_ok nmX8 (by decide) kF_43_20 rfl rfl rfl rfl (by simp [jfl]) (fs_8_3) dX8_copy_52 (fun H locs hO => ?_)
  rw [← hM8] at hO
  refine lv_aload_n C.1 C.2.1 dX8_copy_55 rfl (lv_at hl 0 rfl) ?_
  refine lv_aload_n C.1 C.2.1 dX8_copy_56 rfl (lv_at hl 1 rfl) ?_
  refine j_get C hO (ci := 8) (k := 4) (v := vI (M8 l1 4)) h1 rfl inlX8 (by decide) kF_43_21 rfl rfl dX8_copy_57 ?_
  obtain ⟨M9, hM9, hf⟩ := lt1_e hf
  refine j_put C hO (ci := 8) (k := 4) (x := M8 l1 4) h0 rfl inlX8 tyX8_ok nmX8 (by decide) kF_43_21 rfl rfl rfl rfl (by simp [jfl]) (fs_8_4) dX8_copy_60 (fun H locs hO => ?_)
  rw [← hM9] at hO
  refine lv_aload_n C.1 C.2.1 dX8_copy_63 rfl (lv_at hl 0 rfl) ?_
  refine j_get C hO (ci := 8) (k := 5) (v := jR G (jpt l0 5)) h0 rfl inlX8 (by decide) kF_3_9 rfl rfl dX8_copy_64 ?_
  refine lv_aload_n C.1 C.2.1 dX8_copy_67 rfl (lv_at hl 1 rfl) ?_
  refine j_get C hO (ci := 8) (k := 5) (v := jR G (jpt l1 5)) h1 rfl inlX8 (by decide) kF_3_9 rfl rfl dX8_copy_68 ?_
  obtain ⟨r10, hr10, hf⟩ := bnd_e hf
  refine j_callV C hO (n := 1) (As := [jR G (jpt l1 5)]) (st1 := []) (c_X3_copy l G M9 (jpt l0 5) (jpt l1 5) (tp_8_5 h0) (tp_8_5 h1) hr10) (tp_8_5 h0) rfl kC_18_10 kM_43_23 kI_18_8 kS_18_9 kN_3_8 ⟨by decide, by decide, by decide⟩ ⟨Nat.le_trans (by decide) hRf, Nat.le_trans (by decide) hRl⟩ rfl rfl rfl hl.1 rfl (Nat.le_of_ble_eq_true rfl) ⟨Nat.zero_le _, Nat.zero_le _⟩ dX8_copy_71 rfl (fun H locs hO => ?_)
  refine lv_iconst (v := Int32.ofInt 0) C.1 C.2.1 dX8_copy_74 rfl ?_
  refine lv_istore_n (lv' := [(2, vI 0), (0, jR G l0), (1, jR G l1)]) C.1 C.2.1 dX8_copy_75 rfl hl (by decide) rfl (fun ls hl => ?_)
  obtain ⟨x15, hx15, hf⟩ := bnd_e hf
  refine iter_e (P := fun Z => ∀ (H : Heap) (locs : List Loc) (ls : Array Slot), jOk G Z.1 s H locs → lv_has ls 3 [(0, jR G l0), (1, jR G l1), (2, vI Z.2)] → W p l e R s m args below meth c H locs 0 0 (MQ below (jQ G none fin) args s 0 0 (jA G)) (F0 m 76 ls [])) (E := fun q => ∀ (H : Heap) (locs : List Loc) (ls : Array Slot), jOk G q s H locs → lv_has ls 3 [(0, jR G l0), (1, jR G l1)] → W p l e R s m args below meth c H locs 0 0 (MQ below (jQ G none fin) args s 0 0 (jA G)) (F0 m 103 ls [])) (fun Z rr hb kc kx H locs ls hO hl => w_X8_copy_L76 C hRf hRl r10 l0 l1 h0 h1 Z hb kc (fun q e => kx q e) hO hl) 5000 (r10, 0) x15 hx15 ?_ _ _ _ hO (lv_sub hl [1, 2, 0] rfl)
  clear hO hl
  intro H locs ls hO hl
  refine lv_aload_n C.1 C.2.1 dX8_copy_103 rfl (lv_at hl 0 rfl) ?_
  refine lv_aload_n C.1 C.2.1 dX8_copy_104 rfl (lv_at hl 1 rfl) ?_
  refine j_get C hO (ci := 8) (k := 7) (v := vI (x15 l1 7)) h1 rfl inlX8 (by decide) kF_18_23 rfl rfl dX8_copy_105 ?_
  obtain ⟨M16, hM16, hf⟩ := lt1_e hf
  refine j_put C hO (ci := 8) (k := 7) (x := x15 l1 7) h0 rfl inlX8 tyX8_ok nmX8 (by decide) kF_18_23 rfl rfl rfl rfl (by simp [jfl]) (fs_8_7) dX8_copy_108 (fun H locs hO => ?_)
  rw [← hM16] at hO
  refine lv_iconst (v := Int32.ofInt 0) C.1 C.2.1 dX8_copy_111 rfl ?_
  refine lv_istore_n (lv' := [(2, vI 0), (0, jR G l0), (1, jR G l1)]) C.1 C.2.1 dX8_copy_112 rfl hl (by decide) rfl (fun ls hl => ?_)
  obtain ⟨x27, hx27, hf⟩ := bnd_e hf
  refine iter_e (P := fun Z => ∀ (H : Heap) (locs : List Loc) (ls : Array Slot), jOk G Z.1 s H locs → lv_has ls 3 [(0, jR G l0), (1, jR G l1), (2, vI Z.2)] → W p l e R s m args below meth c H locs 0 0 (MQ below (jQ G none fin) args s 0 0 (jA G)) (F0 m 113 ls [])) (E := fun q => ∀ (H : Heap) (locs : List Loc) (ls : Array Slot), jOk G q s H locs → lv_has ls 3 [(0, jR G l0), (1, jR G l1)] → W p l e R s m args below meth c H locs 0 0 (MQ below (jQ G none fin) args s 0 0 (jA G)) (F0 m 163 ls [])) (fun Z rr hb kc kx H locs ls hO hl => w_X8_copy_L113 C hRf hRl M16 l0 l1 h0 h1 Z hb kc (fun q e => kx q e) hO hl) 5000 (M16, 0) x27 hx27 ?_ _ _ _ hO (lv_sub hl [1, 2, 0] rfl)
  clear hO hl
  intro H locs ls hO hl
  refine lv_aload_n C.1 C.2.1 dX8_copy_163 rfl (lv_at hl 0 rfl) ?_
  refine lv_aload_n C.1 C.2.1 dX8_copy_164 rfl (lv_at hl 1 rfl) ?_
  refine j_get C hO (ci := 8) (k := 11) (v := vI (x27 l1 11)) h1 rfl inlX8 (by decide) kF_20_0 rfl rfl dX8_copy_165 ?_
  obtain ⟨M28, hM28, hf⟩ := lt1_e hf
  refine j_put C hO (ci := 8) (k := 11) (x := x27 l1 11) h0 rfl inlX8 tyX8_ok nmX8 (by decide) kF_20_0 rfl rfl rfl rfl (by simp [jfl]) (fs_8_11) dX8_copy_168 (fun H locs hO => ?_)
  rw [← hM28] at hO
  refine lv_aload_n C.1 C.2.1 dX8_copy_171 rfl (lv_at hl 0 rfl) ?_
  refine j_get C hO (ci := 8) (k := 12) (v := jR G (jpt l0 12)) h0 rfl inlX8 (by decide) kF_3_14 rfl rfl dX8_copy_172 ?_
  refine lv_aload_n C.1 C.2.1 dX8_copy_175 rfl (lv_at hl 1 rfl) ?_
  refine j_get C hO (ci := 8) (k := 12) (v := jR G (jpt l1 12)) h1 rfl inlX8 (by decide) kF_3_14 rfl rfl dX8_copy_176 ?_
  obtain ⟨r29, hr29, hf⟩ := bnd_e hf
  refine j_callV C hO (n := 1) (As := [jR G (jpt l1 12)]) (st1 := []) (c_X3_copy l G M28 (jpt l0 12) (jpt l1 12) (tp_8_12 h0) (tp_8_12 h1) hr29) (tp_8_12 h0) rfl kC_18_10 kM_43_23 kI_18_8 kS_18_9 kN_3_8 ⟨by decide, by decide, by decide⟩ ⟨Nat.le_trans (by decide) hRf, Nat.le_trans (by decide) hRl⟩ rfl rfl rfl hl.1 rfl (Nat.le_of_ble_eq_true rfl) ⟨Nat.zero_le _, Nat.zero_le _⟩ dX8_copy_179 rfl (fun H locs hO => ?_)
  have hf := som_e hf
  subst hf
  exact j_vret C hO dX8_copy_182
set_option maxHeartbeats 1000000 in
theorem c_X8_copy (l : Launch) (G : jG)  (M : jM) (l0 l1 : Int) (h0 : jkd l0 = (8, 0)) (h1 : jkd l1 = (8, 0)) {fin : jM} (h : f_X8_copy M l0 l1 = some fin) : Met l yX8_copy (Cond.code yX8_copy cX8_copy 3 none :: wsL_law) ({ frames := 1, cells := 0, slots := 0, locals := 22 } : Room) (va_Pc [jR G l0, jR G l1] (fun U => jRep G M U)) (jQ G none fin) 0 0 (jA G) := by
  refine Met.ofW (cc := cX8_copy) (maxL := 3) (ret := none) (by decide) rfl ?_
  intro p e s m args below meth c s₁ B hml hv
  obtain ⟨rfl, hR0⟩ := hv
  have C : jCx p s m ([jR G l0, jR G l1] : List Value).toArray meth c cX8_copy 3 RX8 (Cond.code yX8_copy cX8_copy 3 none) none := ⟨B.exec, B.bytes, hml, findClass_of_methodNamed B.named, atoms_spec B.pre, B.returns, B.notSynchronized⟩
  have hO := hR0.ok
  have hl := lv_entry ([jR G l0, jR G l1]) (n := 3) (Nat.le_of_ble_eq_true rfl)
  rw [lg_entry_eq]
  generalize (lg_sl ([jR G l0, jR G l1]) ++ List.replicate (3 - (lg_sl ([jR G l0, jR G l1])).length) Slot.unset).toArray = ls at hl ⊢
  have hl : lv_has ls 3 [(0, jR G l0), (1, jR G l1)] := hl
  exact w_X8_copy C (Nat.le_refl _) (Nat.le_refl _) M l0 l1 h0 h1 h hO hl
set_option maxHeartbeats 4000000 in
theorem w_X8_addByte {p : Program} {l : Launch} {e : Env} {R : Room} {s : State} {m : MethodId} {args : Array Value} {below : List Frame} {meth : Method} {c : Code} {H : Heap} {locs : List Loc} {ls : Array Slot} {G : jG}  (C : jCx p s m args meth c cX8_addByte 2 RX8 (Cond.code yX8_addByte cX8_addByte 2 (some .boolean)) (some .boolean)) (hRf : 0 ≤ R.frames) (hRl : 0 ≤ R.locals)  (M : jM) (l0 l1 : Int) (h0 : jkd l0 = (8, 0)) {fin : Int × jM} (hf : f_X8_addByte M l0 l1 = some fin) (hO : jOk G M s H locs) (hl : lv_has ls 2 [(0, jR G l0), (1, vI l1)]) : W p l e R s m args below meth c H locs 0 0 (MQ below (jQ G (some (vI fin.1)) fin.2) args s 0 0 (jA G)) (F0 m 0 ls []) := by
  unfold f_X8_addByte at hf
  refine lv_aload_n C.1 C.2.1 dX8_addByte_0 rfl (lv_at hl 0 rfl) ?_
  refine j_get C hO (ci := 8) (k := 1) (v := vI (M l0 1)) h0 rfl inlX8 (by decide) kF_6_18 rfl rfl dX8_addByte_1 ?_
  refine lv_bipush (v := Int32.ofInt 100) C.1 C.2.1 dX8_addByte_4 (by decide) ?_
  refine j_icmp_lt (tgt := 11) C rfl (w32_id (by decide) (by decide)) dX8_addByte_6 (by decide) (fun c1 => ?_) (fun c1 => ?_)
  · have hf := (if_pos c1).symm.trans hf
    refine lv_aload_n C.1 C.2.1 dX8_addByte_11 rfl (lv_at hl 0 rfl) ?_
    refine j_get C hO (ci := 8) (k := 0) (v := jR G (jpt l0 0)) h0 rfl inlX8 (by decide) kF_3_3 rfl rfl dX8_addByte_12 ?_
    refine lv_aload_n C.1 C.2.1 dX8_addByte_15 rfl (lv_at hl 0 rfl) ?_
    refine j_get C hO (ci := 8) (k := 1) (v := vI (M l0 1)) h0 rfl inlX8 (by decide) kF_6_18 rfl rfl dX8_addByte_16 ?_
    refine lv_iload_n C.1 C.2.1 dX8_addByte_19 rfl (lv_at hl 1 rfl) ?_
    obtain ⟨g2, hf⟩ := grd_e hf
    obtain ⟨M3, hM3, hf⟩ := lt1_e hf
    refine j_iast C hO (x := l1) (tp_8_0 h0) rfl g2.1 g2.2 dX8_addByte_20 (fun H locs hO => ?_)
    rw [← hM3] at hO
    refine lv_aload_n C.1 C.2.1 dX8_addByte_21 rfl (lv_at hl 0 rfl) ?_
    refine lv_dup C.1 C.2.1 dX8_addByte_22 rfl ?_
    refine j_get C hO (ci := 8) (k := 1) (v := vI (M3 l0 1)) h0 rfl inlX8 (by decide) kF_6_18 rfl rfl dX8_addByte_23 ?_
    refine lv_iconst (v := Int32.ofInt 1) C.1 C.2.1 dX8_addByte_26 rfl ?_
    refine j_iadd C dX8_addByte_27 ?_
    obtain ⟨M4, hM4, hf⟩ := lt1_e hf
    refine j_put C hO (ci := 8) (k := 1) (x := (M3 l0 1) + 1) h0 rfl inlX8 tyX8_ok nmX8 (by decide) kF_6_18 rfl rfl rfl rfl (by simp [jfl]) (fs_8_1) dX8_addByte_28 (fun H locs hO => ?_)
    rw [← hM4] at hO
    refine lv_iconst (v := Int32.ofInt 1) C.1 C.2.1 dX8_addByte_31 rfl ?_
    have hf := som_e hf
    subst hf
    exact j_zret C hO (Or.inr rfl) dX8_addByte_32
  · have hf := (if_neg c1).symm.trans hf
    refine lv_iconst (v := Int32.ofInt 0) C.1 C.2.1 dX8_addByte_9 rfl ?_
    have hf := som_e hf
    subst hf
    exact j_zret C hO (Or.inl rfl) dX8_addByte_10
set_option maxHeartbeats 1000000 in
theorem c_X8_addByte (l : Launch) (G : jG)  (M : jM) (l0 l1 : Int) (h0 : jkd l0 = (8, 0)) {fin : Int × jM} (h : f_X8_addByte M l0 l1 = some fin) : Met l yX8_addByte (Cond.code yX8_addByte cX8_addByte 2 (some .boolean) :: wsL_law) ({ frames := 0, cells := 0, slots := 0, locals := 0 } : Room) (va_Pc [jR G l0, vI l1] (fun U => jRep G M U)) (jQ G (some (vI fin.1)) fin.2) 0 0 (jA G) := by
  refine Met.ofW (cc := cX8_addByte) (maxL := 2) (ret := (some .boolean)) (by decide) rfl ?_
  intro p e s m args below meth c s₁ B hml hv
  obtain ⟨rfl, hR0⟩ := hv
  have C : jCx p s m ([jR G l0, vI l1] : List Value).toArray meth c cX8_addByte 2 RX8 (Cond.code yX8_addByte cX8_addByte 2 (some .boolean)) (some .boolean) := ⟨B.exec, B.bytes, hml, findClass_of_methodNamed B.named, atoms_spec B.pre, B.returns, B.notSynchronized⟩
  have hO := hR0.ok
  have hl := lv_entry ([jR G l0, vI l1]) (n := 2) (Nat.le_of_ble_eq_true rfl)
  rw [lg_entry_eq]
  generalize (lg_sl ([jR G l0, vI l1]) ++ List.replicate (2 - (lg_sl ([jR G l0, vI l1])).length) Slot.unset).toArray = ls at hl ⊢
  have hl : lv_has ls 2 [(0, jR G l0), (1, vI l1)] := hl
  exact w_X8_addByte C (Nat.le_refl _) (Nat.le_refl _) M l0 l1 h0 h hO hl
set_option maxHeartbeats 4000000 in
theorem w_X8_addPlayer {p : Program} {l : Launch} {e : Env} {R : Room} {s : State} {m : MethodId} {args : Array Value} {below : List Frame} {meth : Method} {c : Code} {H : Heap} {locs : List Loc} {ls : Array Slot} {G : jG}  (C : jCx p s m args meth c cX8_addPlayer 3 RX8 (Cond.code yX8_addPlayer cX8_addPlayer 3 (some .boolean)) (some .boolean)) (hRf : 0 ≤ R.frames) (hRl : 0 ≤ R.locals)  (M : jM) (l0 l1 l2 : Int) (h0 : jkd l0 = (8, 0)) {fin : Int × jM} (hf : f_X8_addPlayer M l0 l1 l2 = some fin) (hO : jOk G M s H locs) (hl : lv_has ls 3 [(0, jR G l0), (1, vI l1), (2, vI l2)]) : W p l e R s m args below meth c H locs 0 0 (MQ below (jQ G (some (vI fin.1)) fin.2) args s 0 0 (jA G)) (F0 m 0 ls []) := by
  unfold f_X8_addPlayer at hf
  refine lv_aload_n C.1 C.2.1 dX8_addPlayer_0 rfl (lv_at hl 0 rfl) ?_
  refine j_get C hO (ci := 8) (k := 11) (v := vI (M l0 11)) h0 rfl inlX8 (by decide) kF_20_0 rfl rfl dX8_addPlayer_1 ?_
  refine lv_iconst (v := Int32.ofInt 4) C.1 C.2.1 dX8_addPlayer_4 rfl ?_
  refine j_icmp_lt (tgt := 10) C rfl (w32_id (by decide) (by decide)) dX8_addPlayer_5 (by decide) (fun c1 => ?_) (fun c1 => ?_)
  · have hf := (if_pos c1).symm.trans hf
    refine lv_aload_n C.1 C.2.1 dX8_addPlayer_10 rfl (lv_at hl 0 rfl) ?_
    refine j_get C hO (ci := 8) (k := 8) (v := jR G (jpt l0 8)) h0 rfl inlX8 (by decide) kF_3_11 rfl rfl dX8_addPlayer_11 ?_
    refine lv_aload_n C.1 C.2.1 dX8_addPlayer_14 rfl (lv_at hl 0 rfl) ?_
    refine j_get C hO (ci := 8) (k := 11) (v := vI (M l0 11)) h0 rfl inlX8 (by decide) kF_20_0 rfl rfl dX8_addPlayer_15 ?_
    refine lv_iload_n C.1 C.2.1 dX8_addPlayer_18 rfl (lv_at hl 1 rfl) ?_
    obtain ⟨g2, hf⟩ := grd_e hf
    obtain ⟨M3, hM3, hf⟩ := lt1_e hf
    refine j_iast C hO (x := l1) (tp_8_8 h0) rfl g2.1 g2.2 dX8_addPlayer_19 (fun H locs hO => ?_)
    rw [← hM3] at hO
    refine lv_aload_n C.1 C.2.1 dX8_addPlayer_20 rfl (lv_at hl 0 rfl) ?_
    refine j_get C hO (ci := 8) (k := 9) (v := jR G (jpt l0 9)) h0 rfl inlX8 (by decide) kF_3_12 rfl rfl dX8_addPlayer_21 ?_
    refine lv_aload_n C.1 C.2.1 dX8_addPlayer_24 rfl (lv_at hl 0 rfl) ?_
    refine j_get C hO (ci := 8) (k := 11) (v := vI (M3 l0 11)) h0 rfl inlX8 (by decide) kF_20_0 rfl rfl dX8_addPlayer_25 ?_
    refine lv_iload_n C.1 C.2.1 dX8_addPlayer_28 rfl (lv_at hl 2 rfl) ?_
    obtain ⟨g4, hf⟩ := grd_e hf
    obtain ⟨M5, hM5, hf⟩ := lt1_e hf
    refine j_iast C hO (x := l2) (tp_8_9 h0) rfl g4.1 g4.2 dX8_addPlayer_29 (fun H locs hO => ?_)
    rw [← hM5] at hO
    refine lv_aload_n C.1 C.2.1 dX8_addPlayer_30 rfl (lv_at hl 0 rfl) ?_
    refine lv_dup C.1 C.2.1 dX8_addPlayer_31 rfl ?_
    refine j_get C hO (ci := 8) (k := 11) (v := vI (M5 l0 11)) h0 rfl inlX8 (by decide) kF_20_0 rfl rfl dX8_addPlayer_32 ?_
    refine lv_iconst (v := Int32.ofInt 1) C.1 C.2.1 dX8_addPlayer_35 rfl ?_
    refine j_iadd C dX8_addPlayer_36 ?_
    obtain ⟨M6, hM6, hf⟩ := lt1_e hf
    refine j_put C hO (ci := 8) (k := 11) (x := (M5 l0 11) + 1) h0 rfl inlX8 tyX8_ok nmX8 (by decide) kF_20_0 rfl rfl rfl rfl (by simp [jfl]) (fs_8_11) dX8_addPlayer_37 (fun H locs hO => ?_)
    rw [← hM6] at hO
    refine lv_iconst (v := Int32.ofInt 1) C.1 C.2.1 dX8_addPlayer_40 rfl ?_
    have hf := som_e hf
    subst hf
    exact j_zret C hO (Or.inr rfl) dX8_addPlayer_41
  · have hf := (if_neg c1).symm.trans hf
    refine lv_iconst (v := Int32.ofInt 0) C.1 C.2.1 dX8_addPlayer_8 rfl ?_
    have hf := som_e hf
    subst hf
    exact j_zret C hO (Or.inl rfl) dX8_addPlayer_9
set_option maxHeartbeats 1000000 in
theorem c_X8_addPlayer (l : Launch) (G : jG)  (M : jM) (l0 l1 l2 : Int) (h0 : jkd l0 = (8, 0)) {fin : Int × jM} (h : f_X8_addPlayer M l0 l1 l2 = some fin) : Met l yX8_addPlayer (Cond.code yX8_addPlayer cX8_addPlayer 3 (some .boolean) :: wsL_law) ({ frames := 0, cells := 0, slots := 0, locals := 0 } : Room) (va_Pc [jR G l0, vI l1, vI l2] (fun U => jRep G M U)) (jQ G (some (vI fin.1)) fin.2) 0 0 (jA G) := by
  refine Met.ofW (cc := cX8_addPlayer) (maxL := 3) (ret := (some .boolean)) (by decide) rfl ?_
  intro p e s m args below meth c s₁ B hml hv
  obtain ⟨rfl, hR0⟩ := hv
  have C : jCx p s m ([jR G l0, vI l1, vI l2] : List Value).toArray meth c cX8_addPlayer 3 RX8 (Cond.code yX8_addPlayer cX8_addPlayer 3 (some .boolean)) (some .boolean) := ⟨B.exec, B.bytes, hml, findClass_of_methodNamed B.named, atoms_spec B.pre, B.returns, B.notSynchronized⟩
  have hO := hR0.ok
  have hl := lv_entry ([jR G l0, vI l1, vI l2]) (n := 3) (Nat.le_of_ble_eq_true rfl)
  rw [lg_entry_eq]
  generalize (lg_sl ([jR G l0, vI l1, vI l2]) ++ List.replicate (3 - (lg_sl ([jR G l0, vI l1, vI l2])).length) Slot.unset).toArray = ls at hl ⊢
  have hl : lv_has ls 3 [(0, jR G l0), (1, vI l1), (2, vI l2)] := hl
  exact w_X8_addPlayer C (Nat.le_refl _) (Nat.le_refl _) M l0 l1 l2 h0 h hO hl
set_option maxHeartbeats 4000000 in
theorem w_X8_hasPlayer {p : Program} {l : Launch} {e : Env} {R : Room} {s : State} {m : MethodId} {args : Array Value} {below : List Frame} {meth : Method} {c : Code} {H : Heap} {locs : List Loc} {ls : Array Slot} {G : jG}  (C : jCx p s m args meth c cX8_hasPlayer 2 RX8 (Cond.code yX8_hasPlayer cX8_hasPlayer 2 (some .boolean)) (some .boolean)) (hRf : 0 ≤ R.frames) (hRl : 0 ≤ R.locals)  (M : jM) (l0 l1 : Int) (h0 : jkd l0 = (8, 0)) {fin : Int} (hf : f_X8_hasPlayer M l0 l1 = some fin) (hO : jOk G M s H locs) (hl : lv_has ls 2 [(0, jR G l0), (1, vI l1)]) : W p l e R s m args below meth c H locs 0 0 (MQ below (jQ G (some (vI fin)) M) args s 0 0 (jA G)) (F0 m 0 ls []) := by
  unfold f_X8_hasPlayer at hf
  refine lv_iload_n C.1 C.2.1 dX8_hasPlayer_0 rfl (lv_at hl 1 rfl) ?_
  refine j_if_lt (tgt := 16) C rfl dX8_hasPlayer_1 (by decide) (fun c1 => ?_) (fun c1 => ?_)
  · have hf := (if_pos c1).symm.trans hf
    refine lv_iconst (v := Int32.ofInt 0) C.1 C.2.1 dX8_hasPlayer_16 rfl ?_
    have hf := som_e hf
    subst hf
    exact j_zret C hO (Or.inl rfl) dX8_hasPlayer_17
  · have hf := (if_neg c1).symm.trans hf
    refine lv_iload_n C.1 C.2.1 dX8_hasPlayer_4 rfl (lv_at hl 1 rfl) ?_
    refine lv_aload_n C.1 C.2.1 dX8_hasPlayer_5 rfl (lv_at hl 0 rfl) ?_
    refine j_get C hO (ci := 8) (k := 11) (v := vI (M l0 11)) h0 rfl inlX8 (by decide) kF_20_0 rfl rfl dX8_hasPlayer_6 ?_
    refine j_icmp_ge (tgt := 16) C rfl rfl dX8_hasPlayer_9 (by decide) (fun c2 => ?_) (fun c2 => ?_)
    · have hf := (if_pos c2).symm.trans hf
      refine lv_iconst (v := Int32.ofInt 0) C.1 C.2.1 dX8_hasPlayer_16 rfl ?_
      have hf := som_e hf
      subst hf
      exact j_zret C hO (Or.inl rfl) dX8_hasPlayer_17
    · have hf := (if_neg c2).symm.trans hf
      refine lv_iconst (v := Int32.ofInt 1) C.1 C.2.1 dX8_hasPlayer_12 rfl ?_
      refine lv_goto (tgt := 17) C.1 C.2.1 dX8_hasPlayer_13 (by decide) ?_
      have hf := som_e hf
      subst hf
      exact j_zret C hO (Or.inr rfl) dX8_hasPlayer_17
set_option maxHeartbeats 1000000 in
theorem c_X8_hasPlayer (l : Launch) (G : jG)  (M : jM) (l0 l1 : Int) (h0 : jkd l0 = (8, 0)) {fin : Int} (h : f_X8_hasPlayer M l0 l1 = some fin) : Met l yX8_hasPlayer (Cond.code yX8_hasPlayer cX8_hasPlayer 2 (some .boolean) :: wsL_law) ({ frames := 0, cells := 0, slots := 0, locals := 0 } : Room) (va_Pc [jR G l0, vI l1] (fun U => jRep G M U)) (jQ G (some (vI fin)) M) 0 0 (jA G) := by
  refine Met.ofW (cc := cX8_hasPlayer) (maxL := 2) (ret := (some .boolean)) (by decide) rfl ?_
  intro p e s m args below meth c s₁ B hml hv
  obtain ⟨rfl, hR0⟩ := hv
  have C : jCx p s m ([jR G l0, vI l1] : List Value).toArray meth c cX8_hasPlayer 2 RX8 (Cond.code yX8_hasPlayer cX8_hasPlayer 2 (some .boolean)) (some .boolean) := ⟨B.exec, B.bytes, hml, findClass_of_methodNamed B.named, atoms_spec B.pre, B.returns, B.notSynchronized⟩
  have hO := hR0.ok
  have hl := lv_entry ([jR G l0, vI l1]) (n := 2) (Nat.le_of_ble_eq_true rfl)
  rw [lg_entry_eq]
  generalize (lg_sl ([jR G l0, vI l1]) ++ List.replicate (2 - (lg_sl ([jR G l0, vI l1])).length) Slot.unset).toArray = ls at hl ⊢
  have hl : lv_has ls 2 [(0, jR G l0), (1, vI l1)] := hl
  exact w_X8_hasPlayer C (Nat.le_refl _) (Nat.le_refl _) M l0 l1 h0 h hO hl
set_option maxHeartbeats 4000000 in
theorem w_X8_rowAt_12 {p : Program} {l : Launch} {e : Env} {R : Room} {s : State} {m : MethodId} {args : Array Value} {below : List Frame} {meth : Method} {c : Code} {H : Heap} {locs : List Loc} {ls : Array Slot} {G : jG}  (C : jCx p s m args meth c cX8_rowAt 2 RX8 (Cond.code yX8_rowAt cX8_rowAt 2 (some (.object "RowFirst$Line"))) (some (.object "RowFirst$Line"))) (hRf : 0 ≤ R.frames) (hRl : 0 ≤ R.locals)  (M : jM) {fin : Int} (hf : f_X8_rowAt_12 M  = some fin) (hO : jOk G M s H locs) (hl : lv_has ls 2 []) : W p l e R s m args below meth c H locs 0 0 (MQ below (jQ G (some (jN G fin)) M) args s 0 0 (jA G)) (F0 m 12 ls []) := by
  unfold f_X8_rowAt_12 at hf
  refine j_null (G := G) C dX8_rowAt_12 ?_
  refine lv_goto (tgt := 22) C.1 C.2.1 dX8_rowAt_13 (by decide) ?_
  have hf := som_e hf
  subst hf
  exact j_aret C hO dX8_rowAt_22
set_option maxHeartbeats 4000000 in
theorem w_X8_rowAt {p : Program} {l : Launch} {e : Env} {R : Room} {s : State} {m : MethodId} {args : Array Value} {below : List Frame} {meth : Method} {c : Code} {H : Heap} {locs : List Loc} {ls : Array Slot} {G : jG}  (C : jCx p s m args meth c cX8_rowAt 2 RX8 (Cond.code yX8_rowAt cX8_rowAt 2 (some (.object "RowFirst$Line"))) (some (.object "RowFirst$Line"))) (hRf : 0 ≤ R.frames) (hRl : 0 ≤ R.locals)  (M : jM) (l0 l1 : Int) (h0 : jkd l0 = (8, 0)) {fin : Int} (hf : f_X8_rowAt M l0 l1 = some fin) (hO : jOk G M s H locs) (hl : lv_has ls 2 [(0, jR G l0), (1, vI l1)]) : W p l e R s m args below meth c H locs 0 0 (MQ below (jQ G (some (jN G fin)) M) args s 0 0 (jA G)) (F0 m 0 ls []) := by
  unfold f_X8_rowAt at hf
  refine lv_iload_n C.1 C.2.1 dX8_rowAt_0 rfl (lv_at hl 1 rfl) ?_
  refine j_if_lt (tgt := 12) C rfl dX8_rowAt_1 (by decide) (fun c1 => ?_) (fun c1 => ?_)
  · have hf := (if_pos c1).symm.trans hf
    exact w_X8_rowAt_12 C hRf hRl M   hf hO (lv_sub hl [] rfl)
  · have hf := (if_neg c1).symm.trans hf
    refine lv_iload_n C.1 C.2.1 dX8_rowAt_4 rfl (lv_at hl 1 rfl) ?_
    refine lv_aload_n C.1 C.2.1 dX8_rowAt_5 rfl (lv_at hl 0 rfl) ?_
    refine j_get C hO (ci := 8) (k := 7) (v := vI (M l0 7)) h0 rfl inlX8 (by decide) kF_18_23 rfl rfl dX8_rowAt_6 ?_
    refine j_icmp_lt (tgt := 16) C rfl rfl dX8_rowAt_9 (by decide) (fun c2 => ?_) (fun c2 => ?_)
    · have hf := (if_pos c2).symm.trans hf
      refine lv_aload_n C.1 C.2.1 dX8_rowAt_16 rfl (lv_at hl 0 rfl) ?_
      refine j_get C hO (ci := 8) (k := 6) (v := jR G (jpt l0 6)) h0 rfl inlX8 (by decide) kF_3_10 rfl rfl dX8_rowAt_17 ?_
      refine lv_iload_n C.1 C.2.1 dX8_rowAt_20 rfl (lv_at hl 1 rfl) ?_
      obtain ⟨g3, hf⟩ := grd_e hf
      refine j_aald C hO (tp_8_6 h0) rfl g3.1 g3.2 dX8_rowAt_21 ?_
      have hf := som_e hf
      subst hf
      exact j_aretR C hO (jkd_in (tpo_6 (tp_8_6 h0) g3.1 g3.2) (by decide)).1 dX8_rowAt_22
    · have hf := (if_neg c2).symm.trans hf
      exact w_X8_rowAt_12 C hRf hRl M   hf hO (lv_sub hl [] rfl)
set_option maxHeartbeats 1000000 in
theorem c_X8_rowAt (l : Launch) (G : jG)  (M : jM) (l0 l1 : Int) (h0 : jkd l0 = (8, 0)) {fin : Int} (h : f_X8_rowAt M l0 l1 = some fin) : Met l yX8_rowAt (Cond.code yX8_rowAt cX8_rowAt 2 (some (.object "RowFirst$Line")) :: wsL_law) ({ frames := 0, cells := 0, slots := 0, locals := 0 } : Room) (va_Pc [jR G l0, vI l1] (fun U => jRep G M U)) (jQ G (some (jN G fin)) M) 0 0 (jA G) := by
  refine Met.ofW (cc := cX8_rowAt) (maxL := 2) (ret := (some (.object "RowFirst$Line"))) (by decide) rfl ?_
  intro p e s m args below meth c s₁ B hml hv
  obtain ⟨rfl, hR0⟩ := hv
  have C : jCx p s m ([jR G l0, vI l1] : List Value).toArray meth c cX8_rowAt 2 RX8 (Cond.code yX8_rowAt cX8_rowAt 2 (some (.object "RowFirst$Line"))) (some (.object "RowFirst$Line")) := ⟨B.exec, B.bytes, hml, findClass_of_methodNamed B.named, atoms_spec B.pre, B.returns, B.notSynchronized⟩
  have hO := hR0.ok
  have hl := lv_entry ([jR G l0, vI l1]) (n := 2) (Nat.le_of_ble_eq_true rfl)
  rw [lg_entry_eq]
  generalize (lg_sl ([jR G l0, vI l1]) ++ List.replicate (2 - (lg_sl ([jR G l0, vI l1])).length) Slot.unset).toArray = ls at hl ⊢
  have hl : lv_has ls 2 [(0, jR G l0), (1, vI l1)] := hl
  exact w_X8_rowAt C (Nat.le_refl _) (Nat.le_refl _) M l0 l1 h0 h hO hl
