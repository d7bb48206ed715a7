set_option maxHeartbeats 4000000 in
theorem w_X4_link_112 {p : Program} {l : Launch} {e : Env} {R : Room} {s : State} {m : MethodId} {args : Array Value} {below : List Frame} {meth : Method} {c : Code} {H : Heap} {locs : List Loc} {ls : Array Slot} {G : jG}  (C : jCx p s m args meth c cX4_link 6 RX4 (Cond.code yX4_link cX4_link 6 none) none) (hRf : 1 ≤ R.frames) (hRl : 21 ≤ R.locals)  (M : jM) (l0 l1 l2 : Int) (h0 : jkd l0 = (4, 0)) {fin : jM} {rr : (jM × Int) ⊕ jM} (hf : f_X4_link_112 M l0 l1 l2 = some rr) (kc : ∀ q : jM × Int, rr = .inl q → ∀ (H : Heap) (locs : List Loc) (ls : Array Slot), jOk G q.1 s H locs → lv_has ls 6 [(0, jR G l0), (1, vI l1), (2, vI q.2)] → W p l e R s m args below meth c H locs 0 0 (MQ below (jQ G none fin) args s 0 0 (jA G)) (F0 m 12 ls [])) (kx0 : ∀ q : jM, rr = .inr q → ∀ (H : Heap) (locs : List Loc) (ls : Array Slot), jOk G q s H locs → lv_has ls 6 [(0, jR G l0), (1, vI l1)] → W p l e R s m args below meth c H locs 0 0 (MQ below (jQ G none fin) args s 0 0 (jA G)) (F0 m 118 ls [])) (hO : jOk G M s H locs) (hl : lv_has ls 6 [(0, jR G l0), (1, vI l1), (2, vI l2)]) : W p l e R s m args below meth c H locs 0 0 (MQ below (jQ G none fin) args s 0 0 (jA G)) (F0 m 112 ls []) := by
  unfold f_X4_link_112 at hf
  refine lv_iinc (v := Int32.ofInt (l2 + 1)) (lv' := [(2, vI (l2 + 1)), (0, jR G l0), (1, vI l1)]) C.1 C.2.1 dX4_link_112 hl (k := 2) rfl (Int32.ofInt_add _ _).symm (by decide) rfl (fun ls hl => ?_)
  refine lv_goto (tgt := 12) C.1 C.2.1 dX4_link_115 (by decide) ?_
  exact kc _ (som_e hf).symm _ _ _ hO (lv_sub hl [1, 2, 0] rfl)
set_option maxHeartbeats 4000000 in
theorem w_X4_link_49 {p : Program} {l : Launch} {e : Env} {R : Room} {s : State} {m : MethodId} {args : Array Value} {below : List Frame} {meth : Method} {c : Code} {H : Heap} {locs : List Loc} {ls : Array Slot} {G : jG}  (C : jCx p s m args meth c cX4_link 6 RX4 (Cond.code yX4_link cX4_link 6 none) none) (hRf : 1 ≤ R.frames) (hRl : 21 ≤ R.locals)  (M : jM) (l0 l1 l2 l3 s0 : Int) (h0 : jkd l0 = (4, 0)) {fin : jM} {rr : (jM × Int) ⊕ jM} (hf : f_X4_link_49 M l0 l1 l2 l3 s0 = some rr) (kc : ∀ q : jM × Int, rr = .inl q → ∀ (H : Heap) (locs : List Loc) (ls : Array Slot), jOk G q.1 s H locs → lv_has ls 6 [(0, jR G l0), (1, vI l1), (2, vI q.2)] → W p l e R s m args below meth c H locs 0 0 (MQ below (jQ G none fin) args s 0 0 (jA G)) (F0 m 12 ls [])) (kx0 : ∀ q : jM, rr = .inr q → ∀ (H : Heap) (locs : List Loc) (ls : Array Slot), jOk G q s H locs → lv_has ls 6 [(0, jR G l0), (1, vI l1)] → W p l e R s m args below meth c H locs 0 0 (MQ below (jQ G none fin) args s 0 0 (jA G)) (F0 m 118 ls [])) (hO : jOk G M s H locs) (hl : lv_has ls 6 [(0, jR G l0), (1, vI l1), (2, vI l2), (3, vI l3)]) : W p l e R s m args below meth c H locs 0 0 (MQ below (jQ G none fin) args s 0 0 (jA G)) (F0 m 49 ls [vI s0]) := by
  unfold f_X4_link_49 at hf
  refine lv_istore (lv' := [(4, vI s0), (0, jR G l0), (1, vI l1), (2, vI l2), (3, vI l3)]) C.1 C.2.1 dX4_link_49 hl (by decide) rfl (fun ls hl => ?_)
  refine lv_aload_n C.1 C.2.1 dX4_link_51 rfl (lv_at hl 1 rfl) ?_
  refine j_get C hO (ci := 4) (k := 0) (v := jR G (jpt l0 0)) h0 rfl inlX4 (by decide) kF_5_8 rfl rfl dX4_link_52 ?_
  refine lv_iload_n C.1 C.2.1 dX4_link_55 rfl (lv_at hl 4 rfl) ?_
  obtain ⟨g6, hf⟩ := grd_e hf
  refine j_iald C hO (tp_4_0 h0) rfl g6.1 g6.2 dX4_link_56 ?_
  refine j_if_ge (tgt := 71) C rfl dX4_link_57 (by decide) (fun c7 => ?_) (fun c7 => ?_)
  · have hf := (if_pos c7).symm.trans hf
    refine lv_aload_n C.1 C.2.1 dX4_link_71 rfl (lv_at hl 1 rfl) ?_
    refine j_get C hO (ci := 4) (k := 0) (v := jR G (jpt l0 0)) h0 rfl inlX4 (by decide) kF_5_8 rfl rfl dX4_link_72 ?_
    refine lv_iload_n C.1 C.2.1 dX4_link_75 rfl (lv_at hl 4 rfl) ?_
    obtain ⟨g8, hf⟩ := grd_e hf
    refine j_iald C hO (tp_4_0 h0) rfl g8.1 g8.2 dX4_link_76 ?_
    refine lv_istore (lv' := [(5, vI (M (jpt l0 0) (w32 l3))), (4, vI s0), (0, jR G l0), (1, vI l1), (2, vI l2), (3, vI l3)]) C.1 C.2.1 dX4_link_77 hl (by decide) rfl (fun ls hl => ?_)
    refine lv_aload_n C.1 C.2.1 dX4_link_79 rfl (lv_at hl 2 rfl) ?_
    refine j_get C hO (ci := 4) (k := 1) (v := jR G (jpt l0 1)) h0 rfl inlX4 (by decide) kF_5_9 rfl rfl dX4_link_80 ?_
    refine lv_iload C.1 C.2.1 dX4_link_83 (lv_at hl 0 rfl) ?_
    refine lv_iload C.1 C.2.1 dX4_link_85 (lv_at hl 1 rfl) ?_
    obtain ⟨g9, hf⟩ := grd_e hf
    obtain ⟨M10, hM10, hf⟩ := lt1_e hf
    refine j_iast C hO (x := s0) (tp_4_1 h0) rfl g9.1 g9.2 dX4_link_87 (fun H locs hO => ?_)
    rw [← hM10] at hO
    refine lv_aload_n C.1 C.2.1 dX4_link_88 rfl (lv_at hl 2 rfl) ?_
    refine j_get C hO (ci := 4) (k := 2) (v := jR G (jpt l0 2)) h0 rfl inlX4 (by decide) kF_5_10 rfl rfl dX4_link_89 ?_
    refine lv_iload C.1 C.2.1 dX4_link_92 (lv_at hl 0 rfl) ?_
    refine lv_aload_n C.1 C.2.1 dX4_link_94 rfl (lv_at hl 2 rfl) ?_
    refine j_get C hO (ci := 4) (k := 2) (v := jR G (jpt l0 2)) h0 rfl inlX4 (by decide) kF_5_10 rfl rfl dX4_link_95 ?_
    refine lv_iload C.1 C.2.1 dX4_link_98 (lv_at hl 0 rfl) ?_
    obtain ⟨g11, hf⟩ := grd_e hf
    refine j_iald C hO (tp_4_2 h0) rfl g11.1 g11.2 dX4_link_100 ?_
    refine lv_aload_n C.1 C.2.1 dX4_link_101 rfl (lv_at hl 2 rfl) ?_
    refine j_get C hO (ci := 4) (k := 2) (v := jR G (jpt l0 2)) h0 rfl inlX4 (by decide) kF_5_10 rfl rfl dX4_link_102 ?_
    refine lv_iload C.1 C.2.1 dX4_link_105 (lv_at hl 1 rfl) ?_
    obtain ⟨g12, hf⟩ := grd_e hf
    refine j_iald C hO (tp_4_2 h0) rfl g12.1 g12.2 dX4_link_107 ?_
    refine j_mmin C kM_35_1 kT_7_15 kN_7_16 kC_7_17 hl.1 (Nat.le_trans (by decide) hRf) (Nat.le_trans (by decide) hRl) ⟨Nat.zero_le _, Nat.zero_le _⟩ (Nat.le_of_ble_eq_true rfl) dX4_link_108 ?_
    obtain ⟨g13, hf⟩ := grd_e hf
    obtain ⟨M14, hM14, hf⟩ := lt1_e hf
    refine j_iast C hO (x := (min (w32 (M10 (jpt l0 2) (w32 (M (jpt l0 0) (w32 l3))))) (w32 (M10 (jpt l0 2) (w32 s0))))) (tp_4_2 h0) rfl g13.1 g13.2 dX4_link_111 (fun H locs hO => ?_)
    rw [← hM14] at hO
    exact w_X4_link_112 C hRf hRl M14 l0 l1 l2 h0 hf kc kx0 hO (lv_sub hl [2, 3, 4] rfl)
  · have hf := (if_neg c7).symm.trans hf
    refine lv_aload_n C.1 C.2.1 dX4_link_60 rfl (lv_at hl 1 rfl) ?_
    refine j_get C hO (ci := 4) (k := 0) (v := jR G (jpt l0 0)) h0 rfl inlX4 (by decide) kF_5_8 rfl rfl dX4_link_61 ?_
    refine lv_iload_n C.1 C.2.1 dX4_link_64 rfl (lv_at hl 4 rfl) ?_
    refine lv_iload C.1 C.2.1 dX4_link_65 (lv_at hl 0 rfl) ?_
    obtain ⟨g15, hf⟩ := grd_e hf
    obtain ⟨M16, hM16, hf⟩ := lt1_e hf
    refine j_iast C hO (x := s0) (tp_4_0 h0) rfl g15.1 g15.2 dX4_link_67 (fun H locs hO => ?_)
    rw [← hM16] at hO
    refine lv_goto (tgt := 112) C.1 C.2.1 dX4_link_68 (by decide) ?_
    exact w_X4_link_112 C hRf hRl M16 l0 l1 l2 h0 hf kc kx0 hO (lv_sub hl [1, 2, 3] rfl)
set_option maxHeartbeats 4000000 in
theorem w_X4_link_L12 {p : Program} {l : Launch} {e : Env} {R : Room} {s : State} {m : MethodId} {args : Array Value} {below : List Frame} {meth : Method} {c : Code} {H : Heap} {locs : List Loc} {ls : Array Slot} {G : jG}  (C : jCx p s m args meth c cX4_link 6 RX4 (Cond.code yX4_link cX4_link 6 none) none) (hRf : 1 ≤ R.frames) (hRl : 21 ≤ R.locals)  (M : jM) (l0 l1 : Int) (h0 : jkd l0 = (4, 0)) {fin : jM} (S : jM × Int) {rr : (jM × Int) ⊕ jM} (hf : f_X4_link_L12 M l0 l1 S = some rr) (kc : ∀ q : jM × Int, rr = .inl q → ∀ (H : Heap) (locs : List Loc) (ls : Array Slot), jOk G q.1 s H locs → lv_has ls 6 [(0, jR G l0), (1, vI l1), (2, vI q.2)] → W p l e R s m args below meth c H locs 0 0 (MQ below (jQ G none fin) args s 0 0 (jA G)) (F0 m 12 ls [])) (kx0 : ∀ q : jM, rr = .inr q → ∀ (H : Heap) (locs : List Loc) (ls : Array Slot), jOk G q s H locs → lv_has ls 6 [(0, jR G l0), (1, vI l1)] → W p l e R s m args below meth c H locs 0 0 (MQ below (jQ G none fin) args s 0 0 (jA G)) (F0 m 118 ls [])) (hO : jOk G S.1 s H locs) (hl : lv_has ls 6 [(0, jR G l0), (1, vI l1), (2, vI S.2)]) : W p l e R s m args below meth c H locs 0 0 (MQ below (jQ G none fin) args s 0 0 (jA G)) (F0 m 12 ls []) := by
  unfold f_X4_link_L12 at hf
  refine lv_iload_n C.1 C.2.1 dX4_link_12 rfl (lv_at hl 2 rfl) ?_
  refine lv_aload_n C.1 C.2.1 dX4_link_13 rfl (lv_at hl 0 rfl) ?_
  refine j_get C hO (ci := 4) (k := 7) (v := vI (S.1 l0 7)) h0 rfl inlX4 (by decide) kF_34_11 rfl rfl dX4_link_14 ?_
  refine j_icmp_ge (tgt := 118) C rfl rfl dX4_link_17 (by decide) (fun c2 => ?_) (fun c2 => ?_)
  · have hf := (if_pos c2).symm.trans hf
    exact kx0 _ (som_e hf).symm _ _ _ hO (lv_sub hl [0, 1] rfl)
  · have hf := (if_neg c2).symm.trans hf
    refine lv_iload_n C.1 C.2.1 dX4_link_20 rfl (lv_at hl 1 rfl) ?_
    refine lv_iconst (v := Int32.ofInt 3) C.1 C.2.1 dX4_link_21 rfl ?_
    refine j_imul C dX4_link_22 ?_
    refine lv_iload_n C.1 C.2.1 dX4_link_23 rfl (lv_at hl 2 rfl) ?_
    refine j_iadd C dX4_link_24 ?_
    refine lv_istore_n (lv' := [(3, vI ((l1 * 3) + S.2)), (0, jR G l0), (1, vI l1), (2, vI S.2)]) C.1 C.2.1 dX4_link_25 rfl hl (by decide) rfl (fun ls hl => ?_)
    refine lv_iload_n C.1 C.2.1 dX4_link_26 rfl (lv_at hl 2 rfl) ?_
    refine j_if_ne (tgt := 34) C rfl dX4_link_27 (by decide) (fun c3 => ?_) (fun c3 => ?_)
    · have hf := (if_neg c3).symm.trans hf
      refine lv_aload_n C.1 C.2.1 dX4_link_34 rfl (lv_at hl 1 rfl) ?_
      refine j_get C hO (ci := 4) (k := 0) (v := jR G (jpt l0 0)) h0 rfl inlX4 (by decide) kF_5_8 rfl rfl dX4_link_35 ?_
      refine lv_aload_n C.1 C.2.1 dX4_link_38 rfl (lv_at hl 1 rfl) ?_
      refine j_get C hO (ci := 4) (k := 1) (v := jR G (jpt l0 1)) h0 rfl inlX4 (by decide) kF_5_9 rfl rfl dX4_link_39 ?_
      refine lv_iload_n C.1 C.2.1 dX4_link_42 rfl (lv_at hl 2 rfl) ?_
      obtain ⟨g4, hf⟩ := grd_e hf
      refine j_iald C hO (tp_4_1 h0) rfl g4.1 g4.2 dX4_link_43 ?_
      refine lv_iconst (v := Int32.ofInt 3) C.1 C.2.1 dX4_link_44 rfl ?_
      refine j_imul C dX4_link_45 ?_
      refine lv_iload_n C.1 C.2.1 dX4_link_46 rfl (lv_at hl 3 rfl) ?_
      refine j_iadd C dX4_link_47 ?_
      obtain ⟨g5, hf⟩ := grd_e hf
      refine j_iald C hO (tp_4_0 h0) rfl g5.1 g5.2 dX4_link_48 ?_
      exact w_X4_link_49 C hRf hRl S.1 l0 l1 S.2 ((l1 * 3) + S.2) (S.1 (jpt l0 0) (w32 (((S.1 (jpt l0 1) (w32 l1)) * 3) + S.2))) h0 hf kc kx0 hO (lv_sub hl [1, 2, 3, 0] rfl)
    · have hf := (if_pos c3).symm.trans hf
      refine lv_iconst (v := Int32.ofInt 0) C.1 C.2.1 dX4_link_30 rfl ?_
      refine lv_goto (tgt := 49) C.1 C.2.1 dX4_link_31 (by decide) ?_
      exact w_X4_link_49 C hRf hRl S.1 l0 l1 S.2 ((l1 * 3) + S.2) 0 h0 hf kc kx0 hO (lv_sub hl [1, 2, 3, 0] rfl)
set_option maxHeartbeats 4000000 in
theorem w_X4_link_L2 {p : Program} {l : Launch} {e : Env} {R : Room} {s : State} {m : MethodId} {args : Array Value} {below : List Frame} {meth : Method} {c : Code} {H : Heap} {locs : List Loc} {ls : Array Slot} {G : jG}  (C : jCx p s m args meth c cX4_link 6 RX4 (Cond.code yX4_link cX4_link 6 none) none) (hRf : 1 ≤ R.frames) (hRl : 21 ≤ R.locals)  (M : jM) (l0 : Int) (h0 : jkd l0 = (4, 0)) {fin : jM} (S : jM × Int) {rr : (jM × Int) ⊕ jM} (hf : f_X4_link_L2 M l0 S = some rr) (kc : ∀ q : jM × Int, rr = .inl q → ∀ (H : Heap) (locs : List Loc) (ls : Array Slot), jOk G q.1 s H locs → lv_has ls 6 [(0, jR G l0), (1, vI q.2)] → W p l e R s m args below meth c H locs 0 0 (MQ below (jQ G none fin) args s 0 0 (jA G)) (F0 m 2 ls [])) (kx0 : ∀ q : jM, rr = .inr q → ∀ (H : Heap) (locs : List Loc) (ls : Array Slot), jOk G q s H locs → lv_has ls 6 [] → W p l e R s m args below meth c H locs 0 0 (MQ below (jQ G none fin) args s 0 0 (jA G)) (F0 m 124 ls [])) (hO : jOk G S.1 s H locs) (hl : lv_has ls 6 [(0, jR G l0), (1, vI S.2)]) : W p l e R s m args below meth c H locs 0 0 (MQ below (jQ G none fin) args s 0 0 (jA G)) (F0 m 2 ls []) := by
  unfold f_X4_link_L2 at hf
  refine lv_iload_n C.1 C.2.1 dX4_link_2 rfl (lv_at hl 1 rfl) ?_
  refine lv_aload_n C.1 C.2.1 dX4_link_3 rfl (lv_at hl 0 rfl) ?_
  refine j_get C hO (ci := 4) (k := 6) (v := vI (S.1 l0 6)) h0 rfl inlX4 (by decide) kF_34_12 rfl rfl dX4_link_4 ?_
  refine j_icmp_ge (tgt := 124) C rfl rfl dX4_link_7 (by decide) (fun c1 => ?_) (fun c1 => ?_)
  · have hf := (if_pos c1).symm.trans hf
    exact kx0 _ (som_e hf).symm _ _ _ hO (lv_sub hl [] rfl)
  · have hf := (if_neg c1).symm.trans hf
    refine lv_iconst (v := Int32.ofInt 0) C.1 C.2.1 dX4_link_10 rfl ?_
    refine lv_istore_n (lv' := [(2, vI 0), (0, jR G l0), (1, vI S.2)]) C.1 C.2.1 dX4_link_11 rfl hl (by decide) rfl (fun ls hl => ?_)
    obtain ⟨x17, hx17, hf⟩ := bnd_e hf
    refine iter_e (P := fun Z => ∀ (H : Heap) (locs : List Loc) (ls : Array Slot), jOk G Z.1 s H locs → lv_has ls 6 [(0, jR G l0), (1, vI S.2), (2, vI Z.2)] → W p l e R s m args below meth c H locs 0 0 (MQ below (jQ G none fin) args s 0 0 (jA G)) (F0 m 12 ls [])) (E := fun q => ∀ (H : Heap) (locs : List Loc) (ls : Array Slot), jOk G q s H locs → lv_has ls 6 [(0, jR G l0), (1, vI S.2)] → W p l e R s m args below meth c H locs 0 0 (MQ below (jQ G none fin) args s 0 0 (jA G)) (F0 m 118 ls [])) (fun Z rr hb kc kx H locs ls hO hl => w_X4_link_L12 C hRf hRl S.1 l0 S.2 h0 Z hb kc (fun q e => kx q e) hO hl) 5000 (S.1, 0) x17 hx17 ?_ _ _ _ hO (lv_sub hl [1, 2, 0] rfl)
    clear hO hl
    intro H locs ls hO hl
    refine lv_iinc (v := Int32.ofInt (S.2 + 1)) (lv' := [(1, vI (S.2 + 1)), (0, jR G l0)]) C.1 C.2.1 dX4_link_118 hl (k := 1) rfl (Int32.ofInt_add _ _).symm (by decide) rfl (fun ls hl => ?_)
    refine lv_goto (tgt := 2) C.1 C.2.1 dX4_link_121 (by decide) ?_
    exact kc _ (som_e hf).symm _ _ _ hO (lv_sub hl [1, 0] rfl)
set_option maxHeartbeats 4000000 in
theorem w_X4_link {p : Program} {l : Launch} {e : Env} {R : Room} {s : State} {m : MethodId} {args : Array Value} {below : List Frame} {meth : Method} {c : Code} {H : Heap} {locs : List Loc} {ls : Array Slot} {G : jG}  (C : jCx p s m args meth c cX4_link 6 RX4 (Cond.code yX4_link cX4_link 6 none) none) (hRf : 1 ≤ R.frames) (hRl : 21 ≤ R.locals)  (M : jM) (l0 : Int) (h0 : jkd l0 = (4, 0)) {fin : jM} (hf : f_X4_link M l0 = some fin) (hO : jOk G M s H locs) (hl : lv_has ls 6 [(0, jR G l0)]) : W p l e R s m args below meth c H locs 0 0 (MQ below (jQ G none fin) args s 0 0 (jA G)) (F0 m 0 ls []) := by
  unfold f_X4_link at hf
  refine lv_iconst (v := Int32.ofInt 0) C.1 C.2.1 dX4_link_0 rfl ?_
  refine lv_istore_n (lv' := [(1, vI 0), (0, jR G l0)]) C.1 C.2.1 dX4_link_1 rfl hl (by decide) rfl (fun ls hl => ?_)
  obtain ⟨x18, hx18, hf⟩ := bnd_e hf
  refine iter_e (P := fun Z => ∀ (H : Heap) (locs : List Loc) (ls : Array Slot), jOk G Z.1 s H locs → lv_has ls 6 [(0, jR G l0), (1, vI Z.2)] → W p l e R s m args below meth c H locs 0 0 (MQ below (jQ G none fin) args s 0 0 (jA G)) (F0 m 2 ls [])) (E := fun q => ∀ (H : Heap) (locs : List Loc) (ls : Array Slot), jOk G q s H locs → lv_has ls 6 [] → W p l e R s m args below meth c H locs 0 0 (MQ below (jQ G none fin) args s 0 0 (jA G)) (F0 m 124 ls [])) (fun Z rr hb kc kx H locs ls hO hl => w_X4_link_L2 C hRf hRl M l0 h0 Z hb kc (fun q e => kx q e) hO hl) 5000 (M, 0) x18 hx18 ?_ _ _ _ hO (lv_sub hl [1, 0] rfl)
  clear hO hl
  intro H locs ls hO hl
  have hf := som_e hf
  subst hf
  exact j_vret C hO dX4_link_124
set_option maxHeartbeats 1000000 in
theorem c_X4_link (l : Launch) (G : jG)  (M : jM) (l0 : Int) (h0 : jkd l0 = (4, 0)) {fin : jM} (h : f_X4_link M l0 = some fin) : Met l yX4_link (Cond.code yX4_link cX4_link 6 none :: wsL_law) ({ frames := 1, cells := 0, slots := 0, locals := 21 } : Room) (va_Pc [jR G l0] (fun U => jRep G M U)) (jQ G none fin) 0 0 (jA G) := by
  refine Met.ofW (cc := cX4_link) (maxL := 6) (ret := none) (by decide) rfl ?_
  intro p e s m args below meth c s₁ B hml hv
  obtain ⟨rfl, hR0⟩ := hv
  have C : jCx p s m ([jR G l0] : List Value).toArray meth c cX4_link 6 RX4 (Cond.code yX4_link cX4_link 6 none) none := ⟨B.exec, B.bytes, hml, findClass_of_methodNamed B.named, atoms_spec B.pre, B.returns, B.notSynchronized⟩
  have hO := hR0.ok
  have hl := lv_entry ([jR G l0]) (n := 6) (Nat.le_of_ble_eq_true rfl)
  rw [lg_entry_eq]
  generalize (lg_sl ([jR G l0]) ++ List.replicate (6 - (lg_sl ([jR G l0])).length) Slot.unset).toArray = ls at hl ⊢
  have hl : lv_has ls 6 [(0, jR G l0)] := hl
  exact w_X4_link C (Nat.le_refl _) (Nat.le_refl _) M l0 h0 h hO hl
set_option maxHeartbeats 4000000 in
theorem w_X4_build_L25 {p : Program} {l : Launch} {e : Env} {R : Room} {s : State} {m : MethodId} {args : Array Value} {below : List Frame} {meth : Method} {c : Code} {H : Heap} {locs : List Loc} {ls : Array Slot} {G : jG}  (C : jCx p s m args meth c cX4_build 5 RX4 (Cond.code yX4_build cX4_build 5 none) none) (hRf : 2 ≤ R.frames) (hRl : 46 ≤ R.locals)  (M : jM) (l0 l1 l2 : Int) (h0 : jkd l0 = (4, 0)) (h1 : jkd l1 = (8, 0)) (h2 : jkd l2 = (6, 0)) {fin : jM} (S : jM × Int) {rr : (jM × Int) ⊕ jM} (hf : f_X4_build_L25 M l0 l1 l2 S = some rr) (kc : ∀ q : jM × Int, rr = .inl q → ∀ (H : Heap) (locs : List Loc) (ls : Array Slot), jOk G q.1 s H locs → lv_has ls 5 [(0, jR G l0), (1, jR G l1), (2, jR G l2), (3, vI q.2)] → W p l e R s m args below meth c H locs 0 0 (MQ below (jQ G none fin) args s 0 0 (jA G)) (F0 m 25 ls [])) (kx0 : ∀ q : jM, rr = .inr q → ∀ (H : Heap) (locs : List Loc) (ls : Array Slot), jOk G q s H locs → lv_has ls 5 [(0, jR G l0), (1, jR G l1), (2, jR G l2)] → W p l e R s m args below meth c H locs 0 0 (MQ below (jQ G none fin) args s 0 0 (jA G)) (F0 m 44 ls [])) (hO : jOk G S.1 s H locs) (hl : lv_has ls 5 [(0, jR G l0), (1, jR G l1), (2, jR G l2), (3, vI S.2)]) : W p l e R s m args below meth c H locs 0 0 (MQ below (jQ G none fin) args s 0 0 (jA G)) (F0 m 25 ls []) := by
  unfold f_X4_build_L25 at hf
  refine lv_iload_n C.1 C.2.1 dX4_build_25 rfl (lv_at hl 3 rfl) ?_
  refine lv_bipush (v := Int32.ofInt 6) C.1 C.2.1 dX4_build_26 (by decide) ?_
  refine j_icmp_ge (tgt := 44) C rfl (w32_id (by decide) (by decide)) dX4_build_28 (by decide) (fun c5 => ?_) (fun c5 => ?_)
  · have hf := (if_pos c5).symm.trans hf
    exact kx0 _ (som_e hf).symm _ _ _ hO (lv_sub hl [0, 1, 2] rfl)
  · have hf := (if_neg c5).symm.trans hf
    refine lv_aload_n C.1 C.2.1 dX4_build_31 rfl (lv_at hl 0 rfl) ?_
    refine j_get C hO (ci := 4) (k := 3) (v := jR G (jpt l0 3)) h0 rfl inlX4 (by decide) kF_5_11 rfl rfl dX4_build_32 ?_
    refine lv_iload_n C.1 C.2.1 dX4_build_35 rfl (lv_at hl 3 rfl) ?_
    refine lv_iconst (v := Int32.ofInt 0) C.1 C.2.1 dX4_build_36 rfl ?_
    obtain ⟨g6, hf⟩ := grd_e hf
    obtain ⟨M7, hM7, hf⟩ := lt1_e hf
    refine j_iast C hO (x := 0) (tp_4_3 h0) rfl g6.1 g6.2 dX4_build_37 (fun H locs hO => ?_)
    rw [← hM7] at hO
    refine lv_iinc (v := Int32.ofInt (S.2 + 1)) (lv' := [(3, vI (S.2 + 1)), (0, jR G l0), (1, jR G l1), (2, jR G l2)]) C.1 C.2.1 dX4_build_38 hl (k := 3) rfl (Int32.ofInt_add _ _).symm (by decide) rfl (fun ls hl => ?_)
    refine lv_goto (tgt := 25) C.1 C.2.1 dX4_build_41 (by decide) ?_
    exact kc _ (som_e hf).symm _ _ _ hO (lv_sub hl [1, 2, 3, 0] rfl)
set_option maxHeartbeats 4000000 in
theorem w_X4_build_92 {p : Program} {l : Launch} {e : Env} {R : Room} {s : State} {m : MethodId} {args : Array Value} {below : List Frame} {meth : Method} {c : Code} {H : Heap} {locs : List Loc} {ls : Array Slot} {G : jG}  (C : jCx p s m args meth c cX4_build 5 RX4 (Cond.code yX4_build cX4_build 5 none) none) (hRf : 2 ≤ R.frames) (hRl : 46 ≤ R.locals)  (M : jM) (l0 l1 l2 l3 l4 : Int) (h0 : jkd l0 = (4, 0)) (h1 : jkd l1 = (8, 0)) (h2 : jkd l2 = (6, 0)) {fin : jM} {rr : (jM × Int) ⊕ jM} (hf : f_X4_build_92 M l0 l1 l2 l3 l4 = some rr) (kc : ∀ q : jM × Int, rr = .inl q → ∀ (H : Heap) (locs : List Loc) (ls : Array Slot), jOk G q.1 s H locs → lv_has ls 5 [(0, jR G l0), (1, jR G l1), (2, jR G l2), (3, vI l3), (4, vI q.2)] → W p l e R s m args below meth c H locs 0 0 (MQ below (jQ G none fin) args s 0 0 (jA G)) (F0 m 55 ls [])) (kx0 : ∀ q : jM, rr = .inr q → ∀ (H : Heap) (locs : List Loc) (ls : Array Slot), jOk G q s H locs → lv_has ls 5 [(0, jR G l0), (1, jR G l1), (2, jR G l2), (3, vI l3)] → W p l e R s m args below meth c H locs 0 0 (MQ below (jQ G none fin) args s 0 0 (jA G)) (F0 m 98 ls [])) (hO : jOk G M s H locs) (hl : lv_has ls 5 [(0, jR G l0), (1, jR G l1), (2, jR G l2), (3, vI l3), (4, vI l4)]) : W p l e R s m args below meth c H locs 0 0 (MQ below (jQ G none fin) args s 0 0 (jA G)) (F0 m 92 ls []) := by
  unfold f_X4_build_92 at hf
  refine lv_iinc (v := Int32.ofInt (l4 + 1)) (lv' := [(4, vI (l4 + 1)), (0, jR G l0), (1, jR G l1), (2, jR G l2), (3, vI l3)]) C.1 C.2.1 dX4_build_92 hl (k := 4) rfl (Int32.ofInt_add _ _).symm (by decide) rfl (fun ls hl => ?_)
  refine lv_goto (tgt := 55) C.1 C.2.1 dX4_build_95 (by decide) ?_
  exact kc _ (som_e hf).symm _ _ _ hO (lv_sub hl [1, 2, 3, 4, 0] rfl)
set_option maxHeartbeats 4000000 in
theorem w_X4_build_L55 {p : Program} {l : Launch} {e : Env} {R : Room} {s : State} {m : MethodId} {args : Array Value} {below : List Frame} {meth : Method} {c : Code} {H : Heap} {locs : List Loc} {ls : Array Slot} {G : jG}  (C : jCx p s m args meth c cX4_build 5 RX4 (Cond.code yX4_build cX4_build 5 none) none) (hRf : 2 ≤ R.frames) (hRl : 46 ≤ R.locals)  (M : jM) (l0 l1 l2 l3 : Int) (h0 : jkd l0 = (4, 0)) (h1 : jkd l1 = (8, 0)) (h2 : jkd l2 = (6, 0)) {fin : jM} (S : jM × Int) {rr : (jM × Int) ⊕ jM} (hf : f_X4_build_L55 M l0 l1 l2 l3 S = some rr) (kc : ∀ q : jM × Int, rr = .inl q → ∀ (H : Heap) (locs : List Loc) (ls : Array Slot), jOk G q.1 s H locs → lv_has ls 5 [(0, jR G l0), (1, jR G l1), (2, jR G l2), (3, vI l3), (4, vI q.2)] → W p l e R s m args below meth c H locs 0 0 (MQ below (jQ G none fin) args s 0 0 (jA G)) (F0 m 55 ls [])) (kx0 : ∀ q : jM, rr = .inr q → ∀ (H : Heap) (locs : List Loc) (ls : Array Slot), jOk G q s H locs → lv_has ls 5 [(0, jR G l0), (1, jR G l1), (2, jR G l2), (3, vI l3)] → W p l e R s m args below meth c H locs 0 0 (MQ below (jQ G none fin) args s 0 0 (jA G)) (F0 m 98 ls [])) (hO : jOk G S.1 s H locs) (hl : lv_has ls 5 [(0, jR G l0), (1, jR G l1), (2, jR G l2), (3, vI l3), (4, vI S.2)]) : W p l e R s m args below meth c H locs 0 0 (MQ below (jQ G none fin) args s 0 0 (jA G)) (F0 m 55 ls []) := by
  unfold f_X4_build_L55 at hf
  refine lv_iload C.1 C.2.1 dX4_build_55 (lv_at hl 4 rfl) ?_
  refine lv_aload_n C.1 C.2.1 dX4_build_57 rfl (lv_at hl 1 rfl) ?_
  refine j_get C hO (ci := 8) (k := 7) (v := vI (S.1 l1 7)) h1 rfl inlX8 (by decide) kF_34_13 rfl rfl dX4_build_58 ?_
  refine j_icmp_ge (tgt := 98) C rfl rfl dX4_build_61 (by decide) (fun c10 => ?_) (fun c10 => ?_)
  · have hf := (if_pos c10).symm.trans hf
    exact kx0 _ (som_e hf).symm _ _ _ hO (lv_sub hl [0, 1, 2, 3] rfl)
  · have hf := (if_neg c10).symm.trans hf
    refine lv_aload_n C.1 C.2.1 dX4_build_64 rfl (lv_at hl 2 rfl) ?_
    refine lv_aload_n C.1 C.2.1 dX4_build_65 rfl (lv_at hl 1 rfl) ?_
    refine j_get C hO (ci := 8) (k := 6) (v := jR G (jpt l1 6)) h1 rfl inlX8 (by decide) kF_34_14 rfl rfl dX4_build_66 ?_
    refine lv_iload C.1 C.2.1 dX4_build_69 (lv_at hl 4 rfl) ?_
    obtain ⟨g11, hf⟩ := grd_e hf
    refine j_aald C hO (tp_8_6 h1) rfl g11.1 g11.2 dX4_build_71 ?_
    obtain ⟨r12, hr12, hf⟩ := bnd_e hf
    refine j_callV C hO (n := 1) (As := [jR G (jpt (jpt l1 6) (w32 S.2))]) (st1 := [vI r12]) (c_X6_isLawful l G S.1 l2 (jpt (jpt l1 6) (w32 S.2)) h2 (tpo_6 (tp_8_6 h1) g11.1 g11.2) hr12) h2 rfl kC_21_11 kM_34_19 kI_21_9 kS_21_10 kN_2_4 ⟨by decide, by decide, by decide⟩ ⟨Nat.le_trans (by decide) hRf, Nat.le_trans (by decide) hRl⟩ rfl rfl rfl hl.1 rfl (Nat.le_of_ble_eq_true rfl) ⟨Nat.zero_le _, Nat.zero_le _⟩ dX4_build_72 rfl (fun H locs hO => ?_)
    refine j_if_eq (tgt := 92) C rfl dX4_build_75 (by decide) (fun c13 => ?_) (fun c13 => ?_)
    · have hf := (if_pos c13).symm.trans hf
      exact w_X4_build_92 C hRf hRl S.1 l0 l1 l2 l3 S.2 h0 h1 h2 hf kc kx0 hO (lv_sub hl [0, 1, 2, 3, 4] rfl)
    · have hf := (if_neg c13).symm.trans hf
      refine lv_aload_n C.1 C.2.1 dX4_build_78 rfl (lv_at hl 0 rfl) ?_
      refine lv_aload_n C.1 C.2.1 dX4_build_79 rfl (lv_at hl 1 rfl) ?_
      refine j_get C hO (ci := 8) (k := 6) (v := jR G (jpt l1 6)) h1 rfl inlX8 (by decide) kF_34_14 rfl rfl dX4_build_80 ?_
      refine lv_iload C.1 C.2.1 dX4_build_83 (lv_at hl 4 rfl) ?_
      obtain ⟨g14, hf⟩ := grd_e hf
      refine j_aald C hO (tp_8_6 h1) rfl g14.1 g14.2 dX4_build_85 ?_
      refine lv_iload C.1 C.2.1 dX4_build_86 (lv_at hl 4 rfl) ?_
      refine lv_iload_n C.1 C.2.1 dX4_build_88 rfl (lv_at hl 3 rfl) ?_
      obtain ⟨r15, hr15, hf⟩ := bnd_e hf
      refine j_callV C hO (n := 3) (As := [jR G (jpt (jpt l1 6) (w32 S.2)), vI S.2, vI l3]) (st1 := []) (c_X4_grow l G S.1 l0 (jpt (jpt l1 6) (w32 S.2)) S.2 l3 h0 (tpo_6 (tp_8_6 h1) g14.1 g14.2) hr15) h0 rfl kC_34_23 kM_34_20 kI_34_21 kS_34_22 kN_2_16 ⟨by decide, by decide, by decide⟩ ⟨Nat.le_trans (by decide) hRf, Nat.le_trans (by decide) hRl⟩ rfl rfl rfl hl.1 rfl (Nat.le_of_ble_eq_true rfl) ⟨Nat.zero_le _, Nat.zero_le _⟩ dX4_build_89 rfl (fun H locs hO => ?_)
      exact w_X4_build_92 C hRf hRl r15 l0 l1 l2 l3 S.2 h0 h1 h2 hf kc kx0 hO (lv_sub hl [0, 1, 2, 3, 4] rfl)
set_option maxHeartbeats 4000000 in
theorem w_X4_build_L46 {p : Program} {l : Launch} {e : Env} {R : Room} {s : State} {m : MethodId} {args : Array Value} {below : List Frame} {meth : Method} {c : Code} {H : Heap} {locs : List Loc} {ls : Array Slot} {G : jG}  (C : jCx p s m args meth c cX4_build 5 RX4 (Cond.code yX4_build cX4_build 5 none) none) (hRf : 2 ≤ R.frames) (hRl : 46 ≤ R.locals)  (M : jM) (l0 l1 l2 : Int) (h0 : jkd l0 = (4, 0)) (h1 : jkd l1 = (8, 0)) (h2 : jkd l2 = (6, 0)) {fin : jM} (S : jM × Int) {rr : (jM × Int) ⊕ jM} (hf : f_X4_build_L46 M l0 l1 l2 S = some rr) (kc : ∀ q : jM × Int, rr = .inl q → ∀ (H : Heap) (locs : List Loc) (ls : Array Slot), jOk G q.1 s H locs → lv_has ls 5 [(0, jR G l0), (1, jR G l1), (2, jR G l2), (3, vI q.2)] → W p l e R s m args below meth c H locs 0 0 (MQ below (jQ G none fin) args s 0 0 (jA G)) (F0 m 46 ls [])) (kx0 : ∀ q : jM, rr = .inr q → ∀ (H : Heap) (locs : List Loc) (ls : Array Slot), jOk G q s H locs → lv_has ls 5 [(0, jR G l0)] → W p l e R s m args below meth c H locs 0 0 (MQ below (jQ G none fin) args s 0 0 (jA G)) (F0 m 104 ls [])) (hO : jOk G S.1 s H locs) (hl : lv_has ls 5 [(0, jR G l0), (1, jR G l1), (2, jR G l2), (3, vI S.2)]) : W p l e R s m args below meth c H locs 0 0 (MQ below (jQ G none fin) args s 0 0 (jA G)) (F0 m 46 ls []) := by
  unfold f_X4_build_L46 at hf
  refine lv_iload_n C.1 C.2.1 dX4_build_46 rfl (lv_at hl 3 rfl) ?_
  refine lv_bipush (v := Int32.ofInt 6) C.1 C.2.1 dX4_build_47 (by decide) ?_
  refine j_icmp_ge (tgt := 104) C rfl (w32_id (by decide) (by decide)) dX4_build_49 (by decide) (fun c9 => ?_) (fun c9 => ?_)
  · have hf := (if_pos c9).symm.trans hf
    exact kx0 _ (som_e hf).symm _ _ _ hO (lv_sub hl [0] rfl)
  · have hf := (if_neg c9).symm.trans hf
    refine lv_iconst (v := Int32.ofInt 0) C.1 C.2.1 dX4_build_52 rfl ?_
    refine lv_istore (lv' := [(4, vI 0), (0, jR G l0), (1, jR G l1), (2, jR G l2), (3, vI S.2)]) C.1 C.2.1 dX4_build_53 hl (by decide) rfl (fun ls hl => ?_)
    obtain ⟨x16, hx16, hf⟩ := bnd_e hf
    refine iter_e (P := fun Z => ∀ (H : Heap) (locs : List Loc) (ls : Array Slot), jOk G Z.1 s H locs → lv_has ls 5 [(0, jR G l0), (1, jR G l1), (2, jR G l2), (3, vI S.2), (4, vI Z.2)] → W p l e R s m args below meth c H locs 0 0 (MQ below (jQ G none fin) args s 0 0 (jA G)) (F0 m 55 ls [])) (E := fun q => ∀ (H : Heap) (locs : List Loc) (ls : Array Slot), jOk G q s H locs → lv_has ls 5 [(0, jR G l0), (1, jR G l1), (2, jR G l2), (3, vI S.2)] → W p l e R s m args below meth c H locs 0 0 (MQ below (jQ G none fin) args s 0 0 (jA G)) (F0 m 98 ls [])) (fun Z rr hb kc kx H locs ls hO hl => w_X4_build_L55 C hRf hRl S.1 l0 l1 l2 S.2 h0 h1 h2 Z hb kc (fun q e => kx q e) hO hl) 5000 (S.1, 0) x16 hx16 ?_ _ _ _ hO (lv_sub hl [1, 2, 3, 4, 0] rfl)
    clear hO hl
    intro H locs ls hO hl
    refine lv_iinc (v := Int32.ofInt (S.2 + 1)) (lv' := [(3, vI (S.2 + 1)), (0, jR G l0), (1, jR G l1), (2, jR G l2)]) C.1 C.2.1 dX4_build_98 hl (k := 3) rfl (Int32.ofInt_add _ _).symm (by decide) rfl (fun ls hl => ?_)
    refine lv_goto (tgt := 46) C.1 C.2.1 dX4_build_101 (by decide) ?_
    exact kc _ (som_e hf).symm _ _ _ hO (lv_sub hl [1, 2, 3, 0] rfl)
set_option maxHeartbeats 4000000 in
theorem w_X4_build {p : Program} {l : Launch} {e : Env} {R : Room} {s : State} {m : MethodId} {args : Array Value} {below : List Frame} {meth : Method} {c : Code} {H : Heap} {locs : List Loc} {ls : Array Slot} {G : jG}  (C : jCx p s m args meth c cX4_build 5 RX4 (Cond.code yX4_build cX4_build 5 none) none) (hRf : 2 ≤ R.frames) (hRl : 46 ≤ R.locals)  (M : jM) (l0 l1 l2 : Int) (h0 : jkd l0 = (4, 0)) (h1 : jkd l1 = (8, 0)) (h2 : jkd l2 = (6, 0)) {fin : jM} (hf : f_X4_build M l0 l1 l2 = some fin) (hO : jOk G M s H locs) (hl : lv_has ls 5 [(0, jR G l0), (1, jR G l1), (2, jR G l2)]) : W p l e R s m args below meth c H locs 0 0 (MQ below (jQ G none fin) args s 0 0 (jA G)) (F0 m 0 ls []) := by
  unfold f_X4_build at hf
  refine lv_aload_n C.1 C.2.1 dX4_build_0 rfl (lv_at hl 0 rfl) ?_
  refine lv_aload_n C.1 C.2.1 dX4_build_1 rfl (lv_at hl 2 rfl) ?_
  obtain ⟨M1, hM1, hf⟩ := lt1_e hf
  refine j_put C hO (ci := 4) (k := 8) (x := l2) h0 rfl inlX4 tyX4_ok nmX4 (by decide) kF_34_9 rfl rfl rfl rfl (by simp [jfl]) (fs_4_8 (jkd_in h2 (by decide)).1) dX4_build_2 (fun H locs hO => ?_)
  rw [← hM1] at hO
  refine lv_aload_n C.1 C.2.1 dX4_build_5 rfl (lv_at hl 0 rfl) ?_
  refine lv_aload_n C.1 C.2.1 dX4_build_6 rfl (lv_at hl 2 rfl) ?_
  refine j_get C hO (ci := 6) (k := 0) (v := vI (M1 l2 0)) h2 rfl inlX6 (by decide) kF_34_10 rfl rfl dX4_build_7 ?_
  obtain ⟨M2, hM2, hf⟩ := lt1_e hf
  refine j_put C hO (ci := 4) (k := 7) (x := M1 l2 0) h0 rfl inlX4 tyX4_ok nmX4 (by decide) kF_34_11 rfl rfl rfl rfl (by simp [jfl]) (fs_4_7) dX4_build_10 (fun H locs hO => ?_)
  rw [← hM2] at hO
  refine lv_aload_n C.1 C.2.1 dX4_build_13 rfl (lv_at hl 0 rfl) ?_
  refine lv_iconst (v := Int32.ofInt 0) C.1 C.2.1 dX4_build_14 rfl ?_
  obtain ⟨M3, hM3, hf⟩ := lt1_e hf
  refine j_put C hO (ci := 4) (k := 6) (x := 0) h0 rfl inlX4 tyX4_ok nmX4 (by decide) kF_34_12 rfl rfl rfl rfl (by simp [jfl]) (fs_4_6) dX4_build_15 (fun H locs hO => ?_)
  rw [← hM3] at hO
  refine lv_aload_n C.1 C.2.1 dX4_build_18 rfl (lv_at hl 0 rfl) ?_
  obtain ⟨r4, hr4, hf⟩ := bnd_e hf
  refine j_callV C hO (n := 0) (As := []) (st1 := [vI r4.1]) (c_X4_addNode l G M3 l0 h0 hr4) h0 rfl kC_34_18 kM_34_15 kI_34_16 kS_34_17 kN_2_16 ⟨by decide, by decide, by decide⟩ ⟨Nat.le_trans (by decide) hRf, Nat.le_trans (by decide) hRl⟩ rfl rfl rfl hl.1 rfl (Nat.le_of_ble_eq_true rfl) ⟨Nat.zero_le _, Nat.zero_le _⟩ dX4_build_19 rfl (fun H locs hO => ?_)
  refine lv_pop C.1 C.2.1 dX4_build_22 rfl ?_
  refine lv_iconst (v := Int32.ofInt 0) C.1 C.2.1 dX4_build_23 rfl ?_
  refine lv_istore_n (lv' := [(3, vI 0), (0, jR G l0), (1, jR G l1), (2, jR G l2)]) C.1 C.2.1 dX4_build_24 rfl hl (by decide) rfl (fun ls hl => ?_)
  obtain ⟨x8, hx8, hf⟩ := bnd_e hf
  refine iter_e (P := fun Z => ∀ (H : Heap) (locs : List Loc) (ls : Array Slot), jOk G Z.1 s H locs → lv_has ls 5 [(0, jR G l0), (1, jR G l1), (2, jR G l2), (3, vI Z.2)] → W p l e R s m args below meth c H locs 0 0 (MQ below (jQ G none fin) args s 0 0 (jA G)) (F0 m 25 ls [])) (E := fun q => ∀ (H : Heap) (locs : List Loc) (ls : Array Slot), jOk G q s H locs → lv_has ls 5 [(0, jR G l0), (1, jR G l1), (2, jR G l2)] → W p l e R s m args below meth c H locs 0 0 (MQ below (jQ G none fin) args s 0 0 (jA G)) (F0 m 44 ls [])) (fun Z rr hb kc kx H locs ls hO hl => w_X4_build_L25 C hRf hRl r4.2 l0 l1 l2 h0 h1 h2 Z hb kc (fun q e => kx q e) hO hl) 5000 (r4.2, 0) x8 hx8 ?_ _ _ _ hO (lv_sub hl [1, 2, 3, 0] rfl)
  clear hO hl
  intro H locs ls hO hl
  refine lv_iconst (v := Int32.ofInt 0) C.1 C.2.1 dX4_build_44 rfl ?_
  refine lv_istore_n (lv' := [(3, vI 0), (0, jR G l0), (1, jR G l1), (2, jR G l2)]) C.1 C.2.1 dX4_build_45 rfl hl (by decide) rfl (fun ls hl => ?_)
  obtain ⟨x17, hx17, hf⟩ := bnd_e hf
  refine iter_e (P := fun Z => ∀ (H : Heap) (locs : List Loc) (ls : Array Slot), jOk G Z.1 s H locs → lv_has ls 5 [(0, jR G l0), (1, jR G l1), (2, jR G l2), (3, vI Z.2)] → W p l e R s m args below meth c H locs 0 0 (MQ below (jQ G none fin) args s 0 0 (jA G)) (F0 m 46 ls [])) (E := fun q => ∀ (H : Heap) (locs : List Loc) (ls : Array Slot), jOk G q s H locs → lv_has ls 5 [(0, jR G l0)] → W p l e R s m args below meth c H locs 0 0 (MQ below (jQ G none fin) args s 0 0 (jA G)) (F0 m 104 ls [])) (fun Z rr hb kc kx H locs ls hO hl => w_X4_build_L46 C hRf hRl x8 l0 l1 l2 h0 h1 h2 Z hb kc (fun q e => kx q e) hO hl) 5000 (x8, 0) x17 hx17 ?_ _ _ _ hO (lv_sub hl [1, 2, 3, 0] rfl)
  clear hO hl
  intro H locs ls hO hl
  refine lv_aload_n C.1 C.2.1 dX4_build_104 rfl (lv_at hl 0 rfl) ?_
  obtain ⟨r18, hr18, hf⟩ := bnd_e hf
  refine j_callV C hO (n := 0) (As := []) (st1 := []) (c_X4_link l G x17 l0 h0 hr18) h0 rfl kC_35_6 kM_35_3 kI_35_4 kS_35_5 kN_2_16 ⟨by decide, by decide, by decide⟩ ⟨Nat.le_trans (by decide) hRf, Nat.le_trans (by decide) hRl⟩ rfl rfl rfl hl.1 rfl (Nat.le_of_ble_eq_true rfl) ⟨Nat.zero_le _, Nat.zero_le _⟩ dX4_build_105 rfl (fun H locs hO => ?_)
  have hf := som_e hf
  subst hf
  exact j_vret C hO dX4_build_108
set_option maxHeartbeats 1000000 in
theorem c_X4_build (l : Launch) (G : jG)  (M : jM) (l0 l1 l2 : Int) (h0 : jkd l0 = (4, 0)) (h1 : jkd l1 = (8, 0)) (h2 : jkd l2 = (6, 0)) {fin : jM} (h : f_X4_build M l0 l1 l2 = some fin) : Met l yX4_build (Cond.code yX4_build cX4_build 5 none :: wsL_law) ({ frames := 2, cells := 0, slots := 0, locals := 46 } : Room) (va_Pc [jR G l0, jR G l1, jR G l2] (fun U => jRep G M U)) (jQ G none fin) 0 0 (jA G) := by
  refine Met.ofW (cc := cX4_build) (maxL := 5) (ret := none) (by decide) rfl ?_
  intro p e s m args below meth c s₁ B hml hv
  obtain ⟨rfl, hR0⟩ := hv
  have C : jCx p s m ([jR G l0, jR G l1, jR G l2] : List Value).toArray meth c cX4_build 5 RX4 (Cond.code yX4_build cX4_build 5 none) none := ⟨B.exec, B.bytes, hml, findClass_of_methodNamed B.named, atoms_spec B.pre, B.returns, B.notSynchronized⟩
  have hO := hR0.ok
  have hl := lv_entry ([jR G l0, jR G l1, jR G l2]) (n := 5) (Nat.le_of_ble_eq_true rfl)
  rw [lg_entry_eq]
  generalize (lg_sl ([jR G l0, jR G l1, jR G l2]) ++ List.replicate (5 - (lg_sl ([jR G l0, jR G l1, jR G l2])).length) Slot.unset).toArray = ls at hl ⊢
  have hl : lv_has ls 5 [(0, jR G l0), (1, jR G l1), (2, jR G l2)] := hl
  exact w_X4_build C (Nat.le_refl _) (Nat.le_refl _) M l0 l1 l2 h0 h1 h2 h hO hl
set_option maxHeartbeats 4000000 in
theorem w_X4_begin_L2 {p : Program} {l : Launch} {e : Env} {R : Room} {s : State} {m : MethodId} {args : Array Value} {below : List Frame} {meth : Method} {c : Code} {H : Heap} {locs : List Loc} {ls : Array Slot} {G : jG}  (C : jCx p s m args meth c cX4_begin 2 RX4 (Cond.code yX4_begin cX4_begin 2 none) none) (hRf : 0 ≤ R.frames) (hRl : 0 ≤ R.locals)  (M : jM) (l0 : Int) (h0 : jkd l0 = (4, 0)) {fin : jM} (S : jM × Int) {rr : (jM × Int) ⊕ jM} (hf : f_X4_begin_L2 M l0 S = some rr) (kc : ∀ q : jM × Int, rr = .inl q → ∀ (H : Heap) (locs : List Loc) (ls : Array Slot), jOk G q.1 s H locs → lv_has ls 2 [(0, jR G l0), (1, vI q.2)] → W p l e R s m args below meth c H locs 0 0 (MQ below (jQ G none fin) args s 0 0 (jA G)) (F0 m 2 ls [])) (kx0 : ∀ q : jM, rr = .inr q → ∀ (H : Heap) (locs : List Loc) (ls : Array Slot), jOk G q s H locs → lv_has ls 2 [(0, jR G l0)] → W p l e R s m args below meth c H locs 0 0 (MQ below (jQ G none fin) args s 0 0 (jA G)) (F0 m 23 ls [])) (hO : jOk G S.1 s H locs) (hl : lv_has ls 2 [(0, jR G l0), (1, vI S.2)]) : W p l e R s m args below meth c H locs 0 0 (MQ below (jQ G none fin) args s 0 0 (jA G)) (F0 m 2 ls []) := by
  unfold f_X4_begin_L2 at hf
  refine lv_iload_n C.1 C.2.1 dX4_begin_2 rfl (lv_at hl 1 rfl) ?_
  refine lv_aload_n C.1 C.2.1 dX4_begin_3 rfl (lv_at hl 0 rfl) ?_
  refine j_get C hO (ci := 4) (k := 6) (v := vI (S.1 l0 6)) h0 rfl inlX4 (by decide) kF_34_12 rfl rfl dX4_begin_4 ?_
  refine j_icmp_ge (tgt := 23) C rfl rfl dX4_begin_7 (by decide) (fun c1 => ?_) (fun c1 => ?_)
  · have hf := (if_pos c1).symm.trans hf
    exact kx0 _ (som_e hf).symm _ _ _ hO (lv_sub hl [0] rfl)
  · have hf := (if_neg c1).symm.trans hf
    refine lv_aload_n C.1 C.2.1 dX4_begin_10 rfl (lv_at hl 0 rfl) ?_
    obtain ⟨g2, hf⟩ := grd_e hf
    refine j_get C hO (ci := 4) (k := 4) (v := jN G (S.1 l0 4)) h0 rfl inlX4 (by decide) kF_5_12 rfl rfl dX4_begin_11 ?_
    rw [jN_p (jkd_in g2 (by decide)).1]
    refine lv_iload_n C.1 C.2.1 dX4_begin_14 rfl (lv_at hl 1 rfl) ?_
    refine lv_lconst (v := Int64.ofInt 0) C.1 C.2.1 dX4_begin_15 (by decide) ?_
    obtain ⟨g3, hf⟩ := grd_e hf
    obtain ⟨M4, hM4, hf⟩ := lt1_e hf
    refine j_last C hO (x := 0) g2 rfl g3.1 g3.2 dX4_begin_16 (fun H locs hO => ?_)
    rw [← hM4] at hO
    refine lv_iinc (v := Int32.ofInt (S.2 + 1)) (lv' := [(1, vI (S.2 + 1)), (0, jR G l0)]) C.1 C.2.1 dX4_begin_17 hl (k := 1) rfl (Int32.ofInt_add _ _).symm (by decide) rfl (fun ls hl => ?_)
    refine lv_goto (tgt := 2) C.1 C.2.1 dX4_begin_20 (by decide) ?_
    exact kc _ (som_e hf).symm _ _ _ hO (lv_sub hl [1, 0] rfl)
set_option maxHeartbeats 4000000 in
theorem w_X4_begin {p : Program} {l : Launch} {e : Env} {R : Room} {s : State} {m : MethodId} {args : Array Value} {below : List Frame} {meth : Method} {c : Code} {H : Heap} {locs : List Loc} {ls : Array Slot} {G : jG}  (C : jCx p s m args meth c cX4_begin 2 RX4 (Cond.code yX4_begin cX4_begin 2 none) none) (hRf : 0 ≤ R.frames) (hRl : 0 ≤ R.locals)  (M : jM) (l0 : Int) (h0 : jkd l0 = (4, 0)) {fin : jM} (hf : f_X4_begin M l0 = some fin) (hO : jOk G M s H locs) (hl : lv_has ls 2 [(0, jR G l0)]) : W p l e R s m args below meth c H locs 0 0 (MQ below (jQ G none fin) args s 0 0 (jA G)) (F0 m 0 ls []) := by
  unfold f_X4_begin at hf
  refine lv_iconst (v := Int32.ofInt 0) C.1 C.2.1 dX4_begin_0 rfl ?_
  refine lv_istore_n (lv' := [(1, vI 0), (0, jR G l0)]) C.1 C.2.1 dX4_begin_1 rfl hl (by decide) rfl (fun ls hl => ?_)
  obtain ⟨x5, hx5, hf⟩ := bnd_e hf
  refine iter_e (P := fun Z => ∀ (H : Heap) (locs : List Loc) (ls : Array Slot), jOk G Z.1 s H locs → lv_has ls 2 [(0, jR G l0), (1, vI Z.2)] → W p l e R s m args below meth c H locs 0 0 (MQ below (jQ G none fin) args s 0 0 (jA G)) (F0 m 2 ls [])) (E := fun q => ∀ (H : Heap) (locs : List Loc) (ls : Array Slot), jOk G q s H locs → lv_has ls 2 [(0, jR G l0)] → W p l e R s m args below meth c H locs 0 0 (MQ below (jQ G none fin) args s 0 0 (jA G)) (F0 m 23 ls [])) (fun Z rr hb kc kx H locs ls hO hl => w_X4_begin_L2 C hRf hRl M l0 h0 Z hb kc (fun q e => kx q e) hO hl) 5000 (M, 0) x5 hx5 ?_ _ _ _ hO (lv_sub hl [1, 0] rfl)
  clear hO hl
  intro H locs ls hO hl
  refine lv_aload_n C.1 C.2.1 dX4_begin_23 rfl (lv_at hl 0 rfl) ?_
  obtain ⟨g6, hf⟩ := grd_e hf
  refine j_get C hO (ci := 4) (k := 4) (v := jN G (x5 l0 4)) h0 rfl inlX4 (by decide) kF_5_12 rfl rfl dX4_begin_24 ?_
  rw [jN_p (jkd_in g6 (by decide)).1]
  refine lv_iconst (v := Int32.ofInt 0) C.1 C.2.1 dX4_begin_27 rfl ?_
  refine lv_lconst (v := Int64.ofInt 1) C.1 C.2.1 dX4_begin_28 (by decide) ?_
  obtain ⟨M7, hM7, hf⟩ := lt1_e hf
  refine j_last C hO (x := 1) g6 (w32_id (by decide) (by decide)) (by decide) (by decide) dX4_begin_29 (fun H locs hO => ?_)
  rw [← hM7] at hO
  have hf := som_e hf
  subst hf
  exact j_vret C hO dX4_begin_30
set_option maxHeartbeats 1000000 in
theorem c_X4_begin (l : Launch) (G : jG)  (M : jM) (l0 : Int) (h0 : jkd l0 = (4, 0)) {fin : jM} (h : f_X4_begin M l0 = some fin) : Met l yX4_begin (Cond.code yX4_begin cX4_begin 2 none :: wsL_law) ({ frames := 0, cells := 0, slots := 0, locals := 0 } : Room) (va_Pc [jR G l0] (fun U => jRep G M U)) (jQ G none fin) 0 0 (jA G) := by
  refine Met.ofW (cc := cX4_begin) (maxL := 2) (ret := none) (by decide) rfl ?_
  intro p e s m args below meth c s₁ B hml hv
  obtain ⟨rfl, hR0⟩ := hv
  have C : jCx p s m ([jR G l0] : List Value).toArray meth c cX4_begin 2 RX4 (Cond.code yX4_begin cX4_begin 2 none) none := ⟨B.exec, B.bytes, hml, findClass_of_methodNamed B.named, atoms_spec B.pre, B.returns, B.notSynchronized⟩
  have hO := hR0.ok
  have hl := lv_entry ([jR G l0]) (n := 2) (Nat.le_of_ble_eq_true rfl)
  rw [lg_entry_eq]
  generalize (lg_sl ([jR G l0]) ++ List.replicate (2 - (lg_sl ([jR G l0])).length) Slot.unset).toArray = ls at hl ⊢
  have hl : lv_has ls 2 [(0, jR G l0)] := hl
  exact w_X4_begin C (Nat.le_refl _) (Nat.le_refl _) M l0 h0 h hO hl
set_option maxHeartbeats 4000000 in
theorem w_X4_throwOnce_L5 {p : Program} {l : Launch} {e : Env} {R : Room} {s : State} {m : MethodId} {args : Array Value} {below : List Frame} {meth : Method} {c : Code} {H : Heap} {locs : List Loc} {ls : Array Slot} {G : jG}  (C : jCx p s m args meth c cX4_throwOnce 10 RX4 (Cond.code yX4_throwOnce cX4_throwOnce 10 (some .long)) (some .long)) (hRf : 1 ≤ R.frames) (hRl : 21 ≤ R.locals)  (M : jM) (l0 l1 l2 l3 : Int) (h0 : jkd l0 = (4, 0)) {fin : Int × jM} (S : jM × Int) {rr : (jM × Int) ⊕ jM} (hf : f_X4_throwOnce_L5 M l0 l1 l2 l3 S = some rr) (kc : ∀ q : jM × Int, rr = .inl q → ∀ (H : Heap) (locs : List Loc) (ls : Array Slot), jOk G q.1 s H locs → lv_has ls 10 [(0, jR G l0), (1, vI l1), (2, vI l2), (3, vL l3), (5, vI q.2)] → W p l e R s m args below meth c H locs 0 0 (MQ below (jQ G (some (vL fin.1)) fin.2) args s 0 0 (jA G)) (F0 m 5 ls [])) (kx0 : ∀ q : jM, rr = .inr q → ∀ (H : Heap) (locs : List Loc) (ls : Array Slot), jOk G q s H locs → lv_has ls 10 [(0, jR G l0), (1, vI l1), (2, vI l2), (3, vL l3)] → W p l e R s m args below meth c H locs 0 0 (MQ below (jQ G (some (vL fin.1)) fin.2) args s 0 0 (jA G)) (F0 m 28 ls [])) (hO : jOk G S.1 s H locs) (hl : lv_has ls 10 [(0, jR G l0), (1, vI l1), (2, vI l2), (3, vL l3), (5, vI S.2)]) : W p l e R s m args below meth c H locs 0 0 (MQ below (jQ G (some (vL fin.1)) fin.2) args s 0 0 (jA G)) (F0 m 5 ls []) := by
  unfold f_X4_throwOnce_L5 at hf
  refine lv_iload C.1 C.2.1 dX4_throwOnce_5 (lv_at hl 4 rfl) ?_
  refine lv_aload_n C.1 C.2.1 dX4_throwOnce_7 rfl (lv_at hl 0 rfl) ?_
  refine j_get C hO (ci := 4) (k := 6) (v := vI (S.1 l0 6)) h0 rfl inlX4 (by decide) kF_34_12 rfl rfl dX4_throwOnce_8 ?_
  refine j_icmp_ge (tgt := 28) C rfl rfl dX4_throwOnce_11 (by decide) (fun c1 => ?_) (fun c1 => ?_)
  · have hf := (if_pos c1).symm.trans hf
    exact kx0 _ (som_e hf).symm _ _ _ hO (lv_sub hl [0, 1, 2, 3] rfl)
  · have hf := (if_neg c1).symm.trans hf
    refine lv_aload_n C.1 C.2.1 dX4_throwOnce_14 rfl (lv_at hl 0 rfl) ?_
    obtain ⟨g2, hf⟩ := grd_e hf
    refine j_get C hO (ci := 4) (k := 5) (v := jN G (S.1 l0 5)) h0 rfl inlX4 (by decide) kF_5_13 rfl rfl dX4_throwOnce_15 ?_
    rw [jN_p (jkd_in g2 (by decide)).1]
    refine lv_iload C.1 C.2.1 dX4_throwOnce_18 (lv_at hl 4 rfl) ?_
    refine lv_lconst (v := Int64.ofInt 0) C.1 C.2.1 dX4_throwOnce_20 (by decide) ?_
    obtain ⟨g3, hf⟩ := grd_e hf
    obtain ⟨M4, hM4, hf⟩ := lt1_e hf
    refine j_last C hO (x := 0) g2 rfl g3.1 g3.2 dX4_throwOnce_21 (fun H locs hO => ?_)
    rw [← hM4] at hO
    refine lv_iinc (v := Int32.ofInt (S.2 + 1)) (lv' := [(5, vI (S.2 + 1)), (0, jR G l0), (1, vI l1), (2, vI l2), (3, vL l3)]) C.1 C.2.1 dX4_throwOnce_22 hl (k := 4) rfl (Int32.ofInt_add _ _).symm (by decide) rfl (fun ls hl => ?_)
    refine lv_goto (tgt := 5) C.1 C.2.1 dX4_throwOnce_25 (by decide) ?_
    exact kc _ (som_e hf).symm _ _ _ hO (lv_sub hl [1, 2, 3, 4, 0] rfl)
set_option maxHeartbeats 4000000 in
theorem w_X4_throwOnce_149 {p : Program} {l : Launch} {e : Env} {R : Room} {s : State} {m : MethodId} {args : Array Value} {below : List Frame} {meth : Method} {c : Code} {H : Heap} {locs : List Loc} {ls : Array Slot} {G : jG}  (C : jCx p s m args meth c cX4_throwOnce 10 RX4 (Cond.code yX4_throwOnce cX4_throwOnce 10 (some .long)) (some .long)) (hRf : 1 ≤ R.frames) (hRl : 21 ≤ R.locals)  (M : jM) (l0 l1 l2 l3 l5 l6 : Int) (h0 : jkd l0 = (4, 0)) {fin : Int × jM} {rr : (jM × Int × Int) ⊕ ((jM × Int))} (hf : f_X4_throwOnce_149 M l0 l1 l2 l3 l5 l6 = some rr) (kc : ∀ q : jM × Int × Int, rr = .inl q → ∀ (H : Heap) (locs : List Loc) (ls : Array Slot), jOk G q.1 s H locs → lv_has ls 10 [(0, jR G l0), (1, vI l1), (2, vI l2), (3, vL q.2.1), (5, vI l5), (6, vI q.2.2)] → W p l e R s m args below meth c H locs 0 0 (MQ below (jQ G (some (vL fin.1)) fin.2) args s 0 0 (jA G)) (F0 m 43 ls [])) (kx0 : ∀ q : jM × Int, rr = .inr q → ∀ (H : Heap) (locs : List Loc) (ls : Array Slot), jOk G q.1 s H locs → lv_has ls 10 [(0, jR G l0), (1, vI l1), (2, vI l2), (3, vL q.2), (5, vI l5)] → W p l e R s m args below meth c H locs 0 0 (MQ below (jQ G (some (vL fin.1)) fin.2) args s 0 0 (jA G)) (F0 m 155 ls [])) (hO : jOk G M s H locs) (hl : lv_has ls 10 [(0, jR G l0), (1, vI l1), (2, vI l2), (3, vL l3), (5, vI l5), (6, vI l6)]) : W p l e R s m args below meth c H locs 0 0 (MQ below (jQ G (some (vL fin.1)) fin.2) args s 0 0 (jA G)) (F0 m 149 ls []) := by
  unfold f_X4_throwOnce_149 at hf
  refine lv_iinc (v := Int32.ofInt (l6 + 1)) (lv' := [(6, vI (l6 + 1)), (0, jR G l0), (1, vI l1), (2, vI l2), (3, vL l3), (5, vI l5)]) C.1 C.2.1 dX4_throwOnce_149 hl (k := 5) rfl (Int32.ofInt_add _ _).symm (by decide) rfl (fun ls hl => ?_)
  refine lv_goto (tgt := 43) C.1 C.2.1 dX4_throwOnce_152 (by decide) ?_
  exact kc _ (som_e hf).symm _ _ _ hO (lv_sub hl [1, 2, 3, 4, 5, 0] rfl)
set_option maxHeartbeats 4000000 in
theorem w_X4_throwOnce_102 {p : Program} {l : Launch} {e : Env} {R : Room} {s : State} {m : MethodId} {args : Array Value} {below : List Frame} {meth : Method} {c : Code} {H : Heap} {locs : List Loc} {ls : Array Slot} {G : jG}  (C : jCx p s m args meth c cX4_throwOnce 10 RX4 (Cond.code yX4_throwOnce cX4_throwOnce 10 (some .long)) (some .long)) (hRf : 1 ≤ R.frames) (hRl : 21 ≤ R.locals)  (M : jM) (l0 l1 l2 l3 l5 l6 l7 s0 s1 : Int) (h0 : jkd l0 = (4, 0)) {fin : Int × jM} {rr : (jM × Int × Int) ⊕ ((jM × Int))} (hf : f_X4_throwOnce_102 M l0 l1 l2 l3 l5 l6 l7 s0 s1 = some rr) (kc : ∀ q : jM × Int × Int, rr = .inl q → ∀ (H : Heap) (locs : List Loc) (ls : Array Slot), jOk G q.1 s H locs → lv_has ls 10 [(0, jR G l0), (1, vI l1), (2, vI l2), (3, vL q.2.1), (5, vI l5), (6, vI q.2.2)] → W p l e R s m args below meth c H locs 0 0 (MQ below (jQ G (some (vL fin.1)) fin.2) args s 0 0 (jA G)) (F0 m 43 ls [])) (kx0 : ∀ q : jM × Int, rr = .inr q → ∀ (H : Heap) (locs : List Loc) (ls : Array Slot), jOk G q.1 s H locs → lv_has ls 10 [(0, jR G l0), (1, vI l1), (2, vI l2), (3, vL q.2), (5, vI l5)] → W p l e R s m args below meth c H locs 0 0 (MQ below (jQ G (some (vL fin.1)) fin.2) args s 0 0 (jA G)) (F0 m 155 ls [])) (hO : jOk G M s H locs) (hl : lv_has ls 10 [(0, jR G l0), (1, vI l1), (2, vI l2), (3, vL l3), (5, vI l5), (6, vI l6), (7, vI l7)]) : W p l e R s m args below meth c H locs 0 0 (MQ below (jQ G (some (vL fin.1)) fin.2) args s 0 0 (jA G)) (F0 m 102 ls [vI s1, vL s0]) := by
  unfold f_X4_throwOnce_102 at hf
  refine j_i2l C dX4_throwOnce_102 ?_
  refine j_lmul C dX4_throwOnce_103 ?_
  refine lv_lstore (lv' := [(8, vL (s0 * (w32 s1))), (0, jR G l0), (1, vI l1), (2, vI l2), (3, vL l3), (5, vI l5), (6, vI l6), (7, vI l7)]) C.1 C.2.1 dX4_throwOnce_104 hl (by decide) rfl (fun ls hl => ?_)
  refine lv_aload_n C.1 C.2.1 dX4_throwOnce_106 rfl (lv_at hl 1 rfl) ?_
  refine j_get C hO (ci := 4) (k := 2) (v := jR G (jpt l0 2)) h0 rfl inlX4 (by decide) kF_5_10 rfl rfl dX4_throwOnce_107 ?_
  refine lv_iload C.1 C.2.1 dX4_throwOnce_110 (lv_at hl 7 rfl) ?_
  obtain ⟨g15, hf⟩ := grd_e hf
  refine j_iald C hO (tp_4_2 h0) rfl g15.1 g15.2 dX4_throwOnce_112 ?_
  refine lv_bipush (v := Int32.ofInt 6) C.1 C.2.1 dX4_throwOnce_113 (by decide) ?_
  refine j_icmp_ne (tgt := 133) C rfl (w32_id (by decide) (by decide)) dX4_throwOnce_115 (by decide) (fun c16 => ?_) (fun c16 => ?_)
  · have hf := (if_neg c16).symm.trans hf
    refine lv_aload_n C.1 C.2.1 dX4_throwOnce_133 rfl (lv_at hl 1 rfl) ?_
    refine j_get C hO (ci := 4) (k := 2) (v := jR G (jpt l0 2)) h0 rfl inlX4 (by decide) kF_5_10 rfl rfl dX4_throwOnce_134 ?_
    refine lv_iload C.1 C.2.1 dX4_throwOnce_137 (lv_at hl 7 rfl) ?_
    obtain ⟨g17, hf⟩ := grd_e hf
    refine j_iald C hO (tp_4_2 h0) rfl g17.1 g17.2 dX4_throwOnce_139 ?_
    refine lv_iload_n C.1 C.2.1 dX4_throwOnce_140 rfl (lv_at hl 2 rfl) ?_
    refine j_icmp_ne (tgt := 149) C rfl rfl dX4_throwOnce_141 (by decide) (fun c18 => ?_) (fun c18 => ?_)
    · have hf := (if_neg c18).symm.trans hf
      exact w_X4_throwOnce_149 C hRf hRl M l0 l1 l2 l3 l5 l6 h0 hf kc kx0 hO (lv_sub hl [1, 2, 3, 4, 5, 6] rfl)
    · have hf := (if_pos c18).symm.trans hf
      refine lv_lload_n C.1 C.2.1 dX4_throwOnce_144 rfl (lv_at hl 4 rfl) ?_
      refine lv_lload C.1 C.2.1 dX4_throwOnce_145 (lv_at hl 0 rfl) ?_
      refine j_ladd C dX4_throwOnce_147 ?_
      refine lv_lstore_n (lv' := [(3, vL (l3 + (s0 * (w32 s1)))), (8, vL (s0 * (w32 s1))), (0, jR G l0), (1, vI l1), (2, vI l2), (5, vI l5), (6, vI l6), (7, vI l7)]) C.1 C.2.1 dX4_throwOnce_148 rfl hl (by decide) rfl (fun ls hl => ?_)
      exact w_X4_throwOnce_149 C hRf hRl M l0 l1 l2 (l3 + (s0 * (w32 s1))) l5 l6 h0 hf kc kx0 hO (lv_sub hl [2, 3, 4, 0, 5, 6] rfl)
  · have hf := (if_pos c16).symm.trans hf
    refine lv_aload_n C.1 C.2.1 dX4_throwOnce_118 rfl (lv_at hl 1 rfl) ?_
    obtain ⟨g19, hf⟩ := grd_e hf
    refine j_get C hO (ci := 4) (k := 5) (v := jN G (M l0 5)) h0 rfl inlX4 (by decide) kF_5_13 rfl rfl dX4_throwOnce_119 ?_
    rw [jN_p (jkd_in g19 (by decide)).1]
    refine lv_iload C.1 C.2.1 dX4_throwOnce_122 (lv_at hl 7 rfl) ?_
    refine lv_dup2_11 C.1 C.2.1 dX4_throwOnce_124 rfl rfl ?_
    obtain ⟨g20, hf⟩ := grd_e hf
    refine j_lald C hO g19 rfl g20.1 g20.2 dX4_throwOnce_125 ?_
    refine lv_lload C.1 C.2.1 dX4_throwOnce_126 (lv_at hl 0 rfl) ?_
    refine j_ladd C dX4_throwOnce_128 ?_
    obtain ⟨g21, hf⟩ := grd_e hf
    obtain ⟨M22, hM22, hf⟩ := lt1_e hf
    refine j_last C hO (x := (M (M l0 5) (w32 l7)) + (s0 * (w32 s1))) g19 rfl g21.1 g21.2 dX4_throwOnce_129 (fun H locs hO => ?_)
    rw [← hM22] at hO
    refine lv_goto (tgt := 149) C.1 C.2.1 dX4_throwOnce_130 (by decide) ?_
    exact w_X4_throwOnce_149 C hRf hRl M22 l0 l1 l2 l3 l5 l6 h0 hf kc kx0 hO (lv_sub hl [1, 2, 3, 4, 5, 6] rfl)
set_option maxHeartbeats 4000000 in
theorem w_X4_throwOnce_L43 {p : Program} {l : Launch} {e : Env} {R : Room} {s : State} {m : MethodId} {args : Array Value} {below : List Frame} {meth : Method} {c : Code} {H : Heap} {locs : List Loc} {ls : Array Slot} {G : jG}  (C : jCx p s m args meth c cX4_throwOnce 10 RX4 (Cond.code yX4_throwOnce cX4_throwOnce 10 (some .long)) (some .long)) (hRf : 1 ≤ R.frames) (hRl : 21 ≤ R.locals)  (M : jM) (l0 l1 l2 l5 : Int) (h0 : jkd l0 = (4, 0)) {fin : Int × jM} (S : jM × Int × Int) {rr : (jM × Int × Int) ⊕ ((jM × Int))} (hf : f_X4_throwOnce_L43 M l0 l1 l2 l5 S = some rr) (kc : ∀ q : jM × Int × Int, rr = .inl q → ∀ (H : Heap) (locs : List Loc) (ls : Array Slot), jOk G q.1 s H locs → lv_has ls 10 [(0, jR G l0), (1, vI l1), (2, vI l2), (3, vL q.2.1), (5, vI l5), (6, vI q.2.2)] → W p l e R s m args below meth c H locs 0 0 (MQ below (jQ G (some (vL fin.1)) fin.2) args s 0 0 (jA G)) (F0 m 43 ls [])) (kx0 : ∀ q : jM × Int, rr = .inr q → ∀ (H : Heap) (locs : List Loc) (ls : Array Slot), jOk G q.1 s H locs → lv_has ls 10 [(0, jR G l0), (1, vI l1), (2, vI l2), (3, vL q.2), (5, vI l5)] → W p l e R s m args below meth c H locs 0 0 (MQ below (jQ G (some (vL fin.1)) fin.2) args s 0 0 (jA G)) (F0 m 155 ls [])) (hO : jOk G S.1 s H locs) (hl : lv_has ls 10 [(0, jR G l0), (1, vI l1), (2, vI l2), (3, vL S.2.1), (5, vI l5), (6, vI S.2.2)]) : W p l e R s m args below meth c H locs 0 0 (MQ below (jQ G (some (vL fin.1)) fin.2) args s 0 0 (jA G)) (F0 m 43 ls []) := by
  unfold f_X4_throwOnce_L43 at hf
  refine lv_iload C.1 C.2.1 dX4_throwOnce_43 (lv_at hl 5 rfl) ?_
  refine lv_aload_n C.1 C.2.1 dX4_throwOnce_45 rfl (lv_at hl 0 rfl) ?_
  refine j_get C hO (ci := 4) (k := 7) (v := vI (S.1 l0 7)) h0 rfl inlX4 (by decide) kF_34_11 rfl rfl dX4_throwOnce_46 ?_
  refine j_icmp_ge (tgt := 155) C rfl rfl dX4_throwOnce_49 (by decide) (fun c7 => ?_) (fun c7 => ?_)
  · have hf := (if_pos c7).symm.trans hf
    exact kx0 _ (som_e hf).symm _ _ _ hO (lv_sub hl [0, 1, 2, 3, 4] rfl)
  · have hf := (if_neg c7).symm.trans hf
    refine lv_aload_n C.1 C.2.1 dX4_throwOnce_52 rfl (lv_at hl 0 rfl) ?_
    obtain ⟨g8, hf⟩ := grd_e hf
    refine j_get C hO (ci := 4) (k := 4) (v := jN G (S.1 l0 4)) h0 rfl inlX4 (by decide) kF_5_12 rfl rfl dX4_throwOnce_53 ?_
    rw [jN_p (jkd_in g8 (by decide)).1]
    refine lv_iload C.1 C.2.1 dX4_throwOnce_56 (lv_at hl 4 rfl) ?_
    obtain ⟨g9, hf⟩ := grd_e hf
    refine j_lald C hO g8 rfl g9.1 g9.2 dX4_throwOnce_58 ?_
    refine lv_lconst (v := Int64.ofInt 0) C.1 C.2.1 dX4_throwOnce_59 (by decide) ?_
    refine j_lcmp_eq (tgt := 155) C rfl (w64_id (by decide) (by decide)) dX4_throwOnce_60 dX4_throwOnce_61 (by decide) (fun c10 => ?_) (fun c10 => ?_)
    · have hf := (if_pos c10).symm.trans hf
      exact kx0 _ (som_e hf).symm _ _ _ hO (lv_sub hl [0, 1, 2, 3, 4] rfl)
    · have hf := (if_neg c10).symm.trans hf
      refine lv_aload_n C.1 C.2.1 dX4_throwOnce_64 rfl (lv_at hl 0 rfl) ?_
      refine j_get C hO (ci := 4) (k := 0) (v := jR G (jpt l0 0)) h0 rfl inlX4 (by decide) kF_5_8 rfl rfl dX4_throwOnce_65 ?_
      refine lv_iload C.1 C.2.1 dX4_throwOnce_68 (lv_at hl 4 rfl) ?_
      refine lv_iconst (v := Int32.ofInt 3) C.1 C.2.1 dX4_throwOnce_70 rfl ?_
      refine j_imul C dX4_throwOnce_71 ?_
      refine lv_iload C.1 C.2.1 dX4_throwOnce_72 (lv_at hl 5 rfl) ?_
      refine j_iadd C dX4_throwOnce_74 ?_
      obtain ⟨g11, hf⟩ := grd_e hf
      refine j_iald C hO (tp_4_0 h0) rfl g11.1 g11.2 dX4_throwOnce_75 ?_
      refine lv_istore (lv' := [(7, vI (S.1 (jpt l0 0) (w32 ((l5 * 3) + S.2.2)))), (0, jR G l0), (1, vI l1), (2, vI l2), (3, vL S.2.1), (5, vI l5), (6, vI S.2.2)]) C.1 C.2.1 dX4_throwOnce_76 hl (by decide) rfl (fun ls hl => ?_)
      refine lv_aload_n C.1 C.2.1 dX4_throwOnce_78 rfl (lv_at hl 1 rfl) ?_
      obtain ⟨g12, hf⟩ := grd_e hf
      refine j_get C hO (ci := 4) (k := 4) (v := jN G (S.1 l0 4)) h0 rfl inlX4 (by decide) kF_5_12 rfl rfl dX4_throwOnce_79 ?_
      rw [jN_p (jkd_in g12 (by decide)).1]
      refine lv_iload C.1 C.2.1 dX4_throwOnce_82 (lv_at hl 5 rfl) ?_
      obtain ⟨g13, hf⟩ := grd_e hf
      refine j_lald C hO g12 rfl g13.1 g13.2 dX4_throwOnce_84 ?_
      refine lv_iload_n C.1 C.2.1 dX4_throwOnce_85 rfl (lv_at hl 3 rfl) ?_
      refine j_if_eq (tgt := 101) C rfl dX4_throwOnce_86 (by decide) (fun c14 => ?_) (fun c14 => ?_)
      · have hf := (if_pos c14).symm.trans hf
        refine lv_iconst (v := Int32.ofInt 1) C.1 C.2.1 dX4_throwOnce_101 rfl ?_
        exact w_X4_throwOnce_102 C hRf hRl S.1 l0 l1 l2 S.2.1 l5 S.2.2 (S.1 (jpt l0 0) (w32 ((l5 * 3) + S.2.2))) (S.1 (S.1 l0 4) (w32 l5)) 1 h0 hf kc kx0 hO (lv_sub hl [1, 2, 3, 4, 5, 6, 0] rfl)
      · have hf := (if_neg c14).symm.trans hf
        refine lv_aload_n C.1 C.2.1 dX4_throwOnce_89 rfl (lv_at hl 1 rfl) ?_
        obtain ⟨g23, hf⟩ := grd_e hf
        refine j_get C hO (ci := 4) (k := 8) (v := jN G (S.1 l0 8)) h0 rfl inlX4 (by decide) kF_34_9 rfl rfl dX4_throwOnce_90 ?_
        rw [jN_p (jkd_in g23 (by decide)).1]
        refine lv_iload C.1 C.2.1 dX4_throwOnce_93 (lv_at hl 6 rfl) ?_
        obtain ⟨r24, hr24, hf⟩ := bnd_e hf
        refine j_callV C hO (n := 1) (As := [vI S.2.2]) (st1 := [vI r24, vL (S.1 (S.1 l0 4) (w32 l5))]) (c_X6_weightOf l G S.1 (S.1 l0 8) S.2.2 g23 hr24) g23 rfl kC_16_4 kM_35_20 kI_16_2 kS_16_3 kN_2_4 ⟨by decide, by decide, by decide⟩ ⟨Nat.le_trans (by decide) hRf, Nat.le_trans (by decide) hRl⟩ rfl rfl rfl hl.1 rfl (Nat.le_of_ble_eq_true rfl) ⟨Nat.zero_le _, Nat.zero_le _⟩ dX4_throwOnce_95 rfl (fun H locs hO => ?_)
        refine lv_goto (tgt := 102) C.1 C.2.1 dX4_throwOnce_98 (by decide) ?_
        exact w_X4_throwOnce_102 C hRf hRl S.1 l0 l1 l2 S.2.1 l5 S.2.2 (S.1 (jpt l0 0) (w32 ((l5 * 3) + S.2.2))) (S.1 (S.1 l0 4) (w32 l5)) r24 h0 hf kc kx0 hO (lv_sub hl [1, 2, 3, 4, 5, 6, 0] rfl)
set_option maxHeartbeats 4000000 in
theorem w_X4_throwOnce_L31 {p : Program} {l : Launch} {e : Env} {R : Room} {s : State} {m : MethodId} {args : Array Value} {below : List Frame} {meth : Method} {c : Code} {H : Heap} {locs : List Loc} {ls : Array Slot} {G : jG}  (C : jCx p s m args meth c cX4_throwOnce 10 RX4 (Cond.code yX4_throwOnce cX4_throwOnce 10 (some .long)) (some .long)) (hRf : 1 ≤ R.frames) (hRl : 21 ≤ R.locals)  (M : jM) (l0 l1 l2 : Int) (h0 : jkd l0 = (4, 0)) {fin : Int × jM} (S : jM × Int × Int) {rr : (jM × Int × Int) ⊕ ((jM × Int))} (hf : f_X4_throwOnce_L31 M l0 l1 l2 S = some rr) (kc : ∀ q : jM × Int × Int, rr = .inl q → ∀ (H : Heap) (locs : List Loc) (ls : Array Slot), jOk G q.1 s H locs → lv_has ls 10 [(0, jR G l0), (1, vI l1), (2, vI l2), (3, vL q.2.1), (5, vI q.2.2)] → W p l e R s m args below meth c H locs 0 0 (MQ below (jQ G (some (vL fin.1)) fin.2) args s 0 0 (jA G)) (F0 m 31 ls [])) (kx0 : ∀ q : jM × Int, rr = .inr q → ∀ (H : Heap) (locs : List Loc) (ls : Array Slot), jOk G q.1 s H locs → lv_has ls 10 [(0, jR G l0), (3, vL q.2)] → W p l e R s m args below meth c H locs 0 0 (MQ below (jQ G (some (vL fin.1)) fin.2) args s 0 0 (jA G)) (F0 m 161 ls [])) (hO : jOk G S.1 s H locs) (hl : lv_has ls 10 [(0, jR G l0), (1, vI l1), (2, vI l2), (3, vL S.2.1), (5, vI S.2.2)]) : W p l e R s m args below meth c H locs 0 0 (MQ below (jQ G (some (vL fin.1)) fin.2) args s 0 0 (jA G)) (F0 m 31 ls []) := by
  unfold f_X4_throwOnce_L31 at hf
  refine lv_iload C.1 C.2.1 dX4_throwOnce_31 (lv_at hl 4 rfl) ?_
  refine lv_aload_n C.1 C.2.1 dX4_throwOnce_33 rfl (lv_at hl 0 rfl) ?_
  refine j_get C hO (ci := 4) (k := 6) (v := vI (S.1 l0 6)) h0 rfl inlX4 (by decide) kF_34_12 rfl rfl dX4_throwOnce_34 ?_
  refine j_icmp_ge (tgt := 161) C rfl rfl dX4_throwOnce_37 (by decide) (fun c6 => ?_) (fun c6 => ?_)
  · have hf := (if_pos c6).symm.trans hf
    exact kx0 _ (som_e hf).symm _ _ _ hO (lv_sub hl [0, 3] rfl)
  · have hf := (if_neg c6).symm.trans hf
    refine lv_iconst (v := Int32.ofInt 0) C.1 C.2.1 dX4_throwOnce_40 rfl ?_
    refine lv_istore (lv' := [(6, vI 0), (0, jR G l0), (1, vI l1), (2, vI l2), (3, vL S.2.1), (5, vI S.2.2)]) C.1 C.2.1 dX4_throwOnce_41 hl (by decide) rfl (fun ls hl => ?_)
    obtain ⟨x25, hx25, hf⟩ := bnd_e hf
    refine iter_e (P := fun Z => ∀ (H : Heap) (locs : List Loc) (ls : Array Slot), jOk G Z.1 s H locs → lv_has ls 10 [(0, jR G l0), (1, vI l1), (2, vI l2), (3, vL Z.2.1), (5, vI S.2.2), (6, vI Z.2.2)] → W p l e R s m args below meth c H locs 0 0 (MQ below (jQ G (some (vL fin.1)) fin.2) args s 0 0 (jA G)) (F0 m 43 ls [])) (E := fun q => ∀ (H : Heap) (locs : List Loc) (ls : Array Slot), jOk G q.1 s H locs → lv_has ls 10 [(0, jR G l0), (1, vI l1), (2, vI l2), (3, vL q.2), (5, vI S.2.2)] → W p l e R s m args below meth c H locs 0 0 (MQ below (jQ G (some (vL fin.1)) fin.2) args s 0 0 (jA G)) (F0 m 155 ls [])) (fun Z rr hb kc kx H locs ls hO hl => w_X4_throwOnce_L43 C hRf hRl S.1 l0 l1 l2 S.2.2 h0 Z hb kc (fun q e => kx q e) hO hl) 5000 (S.1, S.2.1, 0) x25 hx25 ?_ _ _ _ hO (lv_sub hl [1, 2, 3, 4, 5, 0] rfl)
    clear hO hl
    intro H locs ls hO hl
    refine lv_iinc (v := Int32.ofInt (S.2.2 + 1)) (lv' := [(5, vI (S.2.2 + 1)), (0, jR G l0), (1, vI l1), (2, vI l2), (3, vL x25.2)]) C.1 C.2.1 dX4_throwOnce_155 hl (k := 4) rfl (Int32.ofInt_add _ _).symm (by decide) rfl (fun ls hl => ?_)
    refine lv_goto (tgt := 31) C.1 C.2.1 dX4_throwOnce_158 (by decide) ?_
    exact kc _ (som_e hf).symm _ _ _ hO (lv_sub hl [1, 2, 3, 4, 0] rfl)
set_option maxHeartbeats 4000000 in
theorem w_X4_throwOnce {p : Program} {l : Launch} {e : Env} {R : Room} {s : State} {m : MethodId} {args : Array Value} {below : List Frame} {meth : Method} {c : Code} {H : Heap} {locs : List Loc} {ls : Array Slot} {G : jG}  (C : jCx p s m args meth c cX4_throwOnce 10 RX4 (Cond.code yX4_throwOnce cX4_throwOnce 10 (some .long)) (some .long)) (hRf : 1 ≤ R.frames) (hRl : 21 ≤ R.locals)  (M : jM) (l0 l1 l2 : Int) (h0 : jkd l0 = (4, 0)) {fin : Int × jM} (hf : f_X4_throwOnce M l0 l1 l2 = some fin) (hO : jOk G M s H locs) (hl : lv_has ls 10 [(0, jR G l0), (1, vI l1), (2, vI l2)]) : W p l e R s m args below meth c H locs 0 0 (MQ below (jQ G (some (vL fin.1)) fin.2) args s 0 0 (jA G)) (F0 m 0 ls []) := by
  unfold f_X4_throwOnce at hf
  refine lv_lconst (v := Int64.ofInt 0) C.1 C.2.1 dX4_throwOnce_0 (by decide) ?_
  refine lv_lstore_n (lv' := [(3, vL 0), (0, jR G l0), (1, vI l1), (2, vI l2)]) C.1 C.2.1 dX4_throwOnce_1 rfl hl (by decide) rfl (fun ls hl => ?_)
  refine lv_iconst (v := Int32.ofInt 0) C.1 C.2.1 dX4_throwOnce_2 rfl ?_
  refine lv_istore (lv' := [(5, vI 0), (3, vL 0), (0, jR G l0), (1, vI l1), (2, vI l2)]) C.1 C.2.1 dX4_throwOnce_3 hl (by decide) rfl (fun ls hl => ?_)
  obtain ⟨x5, hx5, hf⟩ := bnd_e hf
  refine iter_e (P := fun Z => ∀ (H : Heap) (locs : List Loc) (ls : Array Slot), jOk G Z.1 s H locs → lv_has ls 10 [(0, jR G l0), (1, vI l1), (2, vI l2), (3, vL 0), (5, vI Z.2)] → W p l e R s m args below meth c H locs 0 0 (MQ below (jQ G (some (vL fin.1)) fin.2) args s 0 0 (jA G)) (F0 m 5 ls [])) (E := fun q => ∀ (H : Heap) (locs : List Loc) (ls : Array Slot), jOk G q s H locs → lv_has ls 10 [(0, jR G l0), (1, vI l1), (2, vI l2), (3, vL 0)] → W p l e R s m args below meth c H locs 0 0 (MQ below (jQ G (some (vL fin.1)) fin.2) args s 0 0 (jA G)) (F0 m 28 ls [])) (fun Z rr hb kc kx H locs ls hO hl => w_X4_throwOnce_L5 C hRf hRl M l0 l1 l2 0 h0 Z hb kc (fun q e => kx q e) hO hl) 5000 (M, 0) x5 hx5 ?_ _ _ _ hO (lv_sub hl [2, 3, 4, 1, 0] rfl)
  clear hO hl
  intro H locs ls hO hl
  refine lv_iconst (v := Int32.ofInt 0) C.1 C.2.1 dX4_throwOnce_28 rfl ?_
  refine lv_istore (lv' := [(5, vI 0), (0, jR G l0), (1, vI l1), (2, vI l2), (3, vL 0)]) C.1 C.2.1 dX4_throwOnce_29 hl (by decide) rfl (fun ls hl => ?_)
  obtain ⟨x26, hx26, hf⟩ := bnd_e hf
  refine iter_e (P := fun Z => ∀ (H : Heap) (locs : List Loc) (ls : Array Slot), jOk G Z.1 s H locs → lv_has ls 10 [(0, jR G l0), (1, vI l1), (2, vI l2), (3, vL Z.2.1), (5, vI Z.2.2)] → W p l e R s m args below meth c H locs 0 0 (MQ below (jQ G (some (vL fin.1)) fin.2) args s 0 0 (jA G)) (F0 m 31 ls [])) (E := fun q => ∀ (H : Heap) (locs : List Loc) (ls : Array Slot), jOk G q.1 s H locs → lv_has ls 10 [(0, jR G l0), (3, vL q.2)] → W p l e R s m args below meth c H locs 0 0 (MQ below (jQ G (some (vL fin.1)) fin.2) args s 0 0 (jA G)) (F0 m 161 ls [])) (fun Z rr hb kc kx H locs ls hO hl => w_X4_throwOnce_L31 C hRf hRl x5 l0 l1 l2 h0 Z hb kc (fun q e => kx q e) hO hl) 5000 (x5, 0, 0) x26 hx26 ?_ _ _ _ hO (lv_sub hl [1, 2, 3, 4, 0] rfl)
  clear hO hl
  intro H locs ls hO hl
  refine lv_aload_n C.1 C.2.1 dX4_throwOnce_161 rfl (lv_at hl 0 rfl) ?_
  obtain ⟨g27, hf⟩ := grd_e hf
  refine j_get C hO (ci := 4) (k := 4) (v := jN G (x26.1 l0 4)) h0 rfl inlX4 (by decide) kF_5_12 rfl rfl dX4_throwOnce_162 ?_
  rw [jN_p (jkd_in g27 (by decide)).1]
  refine lv_astore (lv' := [(5, jR G (x26.1 l0 4)), (0, jR G l0), (3, vL x26.2)]) C.1 C.2.1 dX4_throwOnce_165 hl (by decide) rfl (fun ls hl => ?_)
  refine lv_aload_n C.1 C.2.1 dX4_throwOnce_167 rfl (lv_at hl 1 rfl) ?_
  refine lv_aload_n C.1 C.2.1 dX4_throwOnce_168 rfl (lv_at hl 1 rfl) ?_
  obtain ⟨g28, hf⟩ := grd_e hf
  refine j_get C hO (ci := 4) (k := 5) (v := jN G (x26.1 l0 5)) h0 rfl inlX4 (by decide) kF_5_13 rfl rfl dX4_throwOnce_169 ?_
  rw [jN_p (jkd_in g28 (by decide)).1]
  obtain ⟨M29, hM29, hf⟩ := lt1_e hf
  refine j_put C hO (ci := 4) (k := 4) (x := x26.1 l0 5) h0 rfl inlX4 tyX4_ok nmX4 (by decide) kF_5_12 rfl rfl rfl rfl (by simp [jfl]) (fs_4_4 (jkd_in g28 (by decide)).1) dX4_throwOnce_172 (fun H locs hO => ?_)
  rw [← hM29] at hO
  refine lv_aload_n C.1 C.2.1 dX4_throwOnce_175 rfl (lv_at hl 1 rfl) ?_
  refine lv_aload C.1 C.2.1 dX4_throwOnce_176 (lv_at hl 0 rfl) ?_
  obtain ⟨M30, hM30, hf⟩ := lt1_e hf
  refine j_put C hO (ci := 4) (k := 5) (x := x26.1 l0 4) h0 rfl inlX4 tyX4_ok nmX4 (by decide) kF_5_13 rfl rfl rfl rfl (by simp [jfl]) (fs_4_5 (jkd_in g27 (by decide)).1) dX4_throwOnce_178 (fun H locs hO => ?_)
  rw [← hM30] at hO
  refine lv_lload_n C.1 C.2.1 dX4_throwOnce_181 rfl (lv_at hl 2 rfl) ?_
  have hf := som_e hf
  subst hf
  exact j_lret C hO dX4_throwOnce_182
set_option maxHeartbeats 1000000 in
theorem c_X4_throwOnce (l : Launch) (G : jG)  (M : jM) (l0 l1 l2 : Int) (h0 : jkd l0 = (4, 0)) {fin : Int × jM} (h : f_X4_throwOnce M l0 l1 l2 = some fin) : Met l yX4_throwOnce (Cond.code yX4_throwOnce cX4_throwOnce 10 (some .long) :: wsL_law) ({ frames := 1, cells := 0, slots := 0, locals := 21 } : Room) (va_Pc [jR G l0, vI l1, vI l2] (fun U => jRep G M U)) (jQ G (some (vL fin.1)) fin.2) 0 0 (jA G) := by
  refine Met.ofW (cc := cX4_throwOnce) (maxL := 10) (ret := (some .long)) (by decide) rfl ?_
  intro p e s m args below meth c s₁ B hml hv
  obtain ⟨rfl, hR0⟩ := hv
  have C : jCx p s m ([jR G l0, vI l1, vI l2] : List Value).toArray meth c cX4_throwOnce 10 RX4 (Cond.code yX4_throwOnce cX4_throwOnce 10 (some .long)) (some .long) := ⟨B.exec, B.bytes, hml, findClass_of_methodNamed B.named, atoms_spec B.pre, B.returns, B.notSynchronized⟩
  have hO := hR0.ok
  have hl := lv_entry ([jR G l0, vI l1, vI l2]) (n := 10) (Nat.le_of_ble_eq_true rfl)
  rw [lg_entry_eq]
  generalize (lg_sl ([jR G l0, vI l1, vI l2]) ++ List.replicate (10 - (lg_sl ([jR G l0, vI l1, vI l2])).length) Slot.unset).toArray = ls at hl ⊢
  have hl : lv_has ls 10 [(0, jR G l0), (1, vI l1), (2, vI l2)] := hl
  exact w_X4_throwOnce C (Nat.le_refl _) (Nat.le_refl _) M l0 l1 l2 h0 h hO hl
set_option maxHeartbeats 4000000 in
theorem w_X4_winsOf_L9 {p : Program} {l : Launch} {e : Env} {R : Room} {s : State} {m : MethodId} {args : Array Value} {below : List Frame} {meth : Method} {c : Code} {H : Heap} {locs : List Loc} {ls : Array Slot} {G : jG}  (C : jCx p s m args meth c cX4_winsOf 6 RX4 (Cond.code yX4_winsOf cX4_winsOf 6 (some .long)) (some .long)) (hRf : 2 ≤ R.frames) (hRl : 50 ≤ R.locals)  (M : jM) (l0 l1 l2 : Int) (h0 : jkd l0 = (4, 0)) {fin : Int × jM} (S : jM × Int × Int) {rr : (jM × Int × Int) ⊕ ((jM × Int))} (hf : f_X4_winsOf_L9 M l0 l1 l2 S = some rr) (kc : ∀ q : jM × Int × Int, rr = .inl q → ∀ (H : Heap) (locs : List Loc) (ls : Array Slot), jOk G q.1 s H locs → lv_has ls 6 [(0, jR G l0), (1, vI l1), (2, vI l2), (3, vL q.2.1), (5, vI q.2.2)] → W p l e R s m args below meth c H locs 0 0 (MQ below (jQ G (some (vL fin.1)) fin.2) args s 0 0 (jA G)) (F0 m 9 ls [])) (kx0 : ∀ q : jM × Int, rr = .inr q → ∀ (H : Heap) (locs : List Loc) (ls : Array Slot), jOk G q.1 s H locs → lv_has ls 6 [(3, vL q.2)] → W p l e R s m args below meth c H locs 0 0 (MQ below (jQ G (some (vL fin.1)) fin.2) args s 0 0 (jA G)) (F0 m 39 ls [])) (hO : jOk G S.1 s H locs) (hl : lv_has ls 6 [(0, jR G l0), (1, vI l1), (2, vI l2), (3, vL S.2.1), (5, vI S.2.2)]) : W p l e R s m args below meth c H locs 0 0 (MQ below (jQ G (some (vL fin.1)) fin.2) args s 0 0 (jA G)) (F0 m 9 ls []) := by
  unfold f_X4_winsOf_L9 at hf
  refine lv_iload C.1 C.2.1 dX4_winsOf_9 (lv_at hl 4 rfl) ?_
  refine lv_iload_n C.1 C.2.1 dX4_winsOf_11 rfl (lv_at hl 2 rfl) ?_
  refine j_icmp_ge (tgt := 39) C rfl rfl dX4_winsOf_12 (by decide) (fun c2 => ?_) (fun c2 => ?_)
  · have hf := (if_pos c2).symm.trans hf
    exact kx0 _ (som_e hf).symm _ _ _ hO (lv_sub hl [3] rfl)
  · have hf := (if_neg c2).symm.trans hf
    refine lv_lload_n C.1 C.2.1 dX4_winsOf_15 rfl (lv_at hl 3 rfl) ?_
    refine lv_aload_n C.1 C.2.1 dX4_winsOf_16 rfl (lv_at hl 0 rfl) ?_
    obtain ⟨g3, hf⟩ := grd_e hf
    refine j_get C hO (ci := 4) (k := 8) (v := jN G (S.1 l0 8)) h0 rfl inlX4 (by decide) kF_34_9 rfl rfl dX4_winsOf_17 ?_
    rw [jN_p (jkd_in g3 (by decide)).1]
    refine j_get C hO (ci := 6) (k := 1) (v := vI (S.1 (S.1 l0 8) 1)) g3 rfl inlX6 (by decide) kF_35_11 rfl rfl dX4_winsOf_20 ?_
    refine j_i2l C dX4_winsOf_23 ?_
    refine j_lmul C dX4_winsOf_24 ?_
    refine lv_aload_n C.1 C.2.1 dX4_winsOf_25 rfl (lv_at hl 0 rfl) ?_
    refine lv_iload_n C.1 C.2.1 dX4_winsOf_26 rfl (lv_at hl 1 rfl) ?_
    refine lv_iconst (v := Int32.ofInt 1) C.1 C.2.1 dX4_winsOf_27 rfl ?_
    obtain ⟨r4, hr4, hf⟩ := bnd_e hf
    refine j_callV C hO (n := 2) (As := [vI l1, vI 1]) (st1 := [vL r4.1, vL (S.2.1 * (w32 (S.1 (S.1 l0 8) 1)))]) (c_X4_throwOnce l G S.1 l0 l1 1 h0 hr4) h0 rfl kC_35_19 kM_35_16 kI_35_17 kS_35_18 kN_2_16 ⟨by decide, by decide, by decide⟩ ⟨Nat.le_trans (by decide) hRf, Nat.le_trans (by decide) hRl⟩ rfl rfl rfl hl.1 rfl (Nat.le_of_ble_eq_true rfl) ⟨Nat.zero_le _, Nat.zero_le _⟩ dX4_winsOf_28 rfl (fun H locs hO => ?_)
    refine j_ladd C dX4_winsOf_31 ?_
    refine lv_lstore_n (lv' := [(3, vL ((S.2.1 * (w32 (S.1 (S.1 l0 8) 1))) + r4.1)), (0, jR G l0), (1, vI l1), (2, vI l2), (5, vI S.2.2)]) C.1 C.2.1 dX4_winsOf_32 rfl hl (by decide) rfl (fun ls hl => ?_)
    refine lv_iinc (v := Int32.ofInt (S.2.2 + 1)) (lv' := [(5, vI (S.2.2 + 1)), (3, vL ((S.2.1 * (w32 (S.1 (S.1 l0 8) 1))) + r4.1)), (0, jR G l0), (1, vI l1), (2, vI l2)]) C.1 C.2.1 dX4_winsOf_33 hl (k := 4) rfl (Int32.ofInt_add _ _).symm (by decide) rfl (fun ls hl => ?_)
    refine lv_goto (tgt := 9) C.1 C.2.1 dX4_winsOf_36 (by decide) ?_
    exact kc _ (som_e hf).symm _ _ _ hO (lv_sub hl [2, 3, 4, 1, 0] rfl)
set_option maxHeartbeats 4000000 in
theorem w_X4_winsOf {p : Program} {l : Launch} {e : Env} {R : Room} {s : State} {m : MethodId} {args : Array Value} {below : List Frame} {meth : Method} {c : Code} {H : Heap} {locs : List Loc} {ls : Array Slot} {G : jG}  (C : jCx p s m args meth c cX4_winsOf 6 RX4 (Cond.code yX4_winsOf cX4_winsOf 6 (some .long)) (some .long)) (hRf : 2 ≤ R.frames) (hRl : 50 ≤ R.locals)  (M : jM) (l0 l1 l2 : Int) (h0 : jkd l0 = (4, 0)) {fin : Int × jM} (hf : f_X4_winsOf M l0 l1 l2 = some fin) (hO : jOk G M s H locs) (hl : lv_has ls 6 [(0, jR G l0), (1, vI l1), (2, vI l2)]) : W p l e R s m args below meth c H locs 0 0 (MQ below (jQ G (some (vL fin.1)) fin.2) args s 0 0 (jA G)) (F0 m 0 ls []) := by
  unfold f_X4_winsOf at hf
  refine lv_aload_n C.1 C.2.1 dX4_winsOf_0 rfl (lv_at hl 0 rfl) ?_
  obtain ⟨r1, hr1, hf⟩ := bnd_e hf
  refine j_callV C hO (n := 0) (As := []) (st1 := []) (c_X4_begin l G M l0 h0 hr1) h0 rfl kC_35_15 kM_35_12 kI_35_13 kS_35_14 kN_2_16 ⟨by decide, by decide, by decide⟩ ⟨Nat.le_trans (by decide) hRf, Nat.le_trans (by decide) hRl⟩ rfl rfl rfl hl.1 rfl (Nat.le_of_ble_eq_true rfl) ⟨Nat.zero_le _, Nat.zero_le _⟩ dX4_winsOf_1 rfl (fun H locs hO => ?_)
  refine lv_lconst (v := Int64.ofInt 0) C.1 C.2.1 dX4_winsOf_4 (by decide) ?_
  refine lv_lstore_n (lv' := [(3, vL 0), (0, jR G l0), (1, vI l1), (2, vI l2)]) C.1 C.2.1 dX4_winsOf_5 rfl hl (by decide) rfl (fun ls hl => ?_)
  refine lv_iconst (v := Int32.ofInt 0) C.1 C.2.1 dX4_winsOf_6 rfl ?_
  refine lv_istore (lv' := [(5, vI 0), (3, vL 0), (0, jR G l0), (1, vI l1), (2, vI l2)]) C.1 C.2.1 dX4_winsOf_7 hl (by decide) rfl (fun ls hl => ?_)
  obtain ⟨x5, hx5, hf⟩ := bnd_e hf
  refine iter_e (P := fun Z => ∀ (H : Heap) (locs : List Loc) (ls : Array Slot), jOk G Z.1 s H locs → lv_has ls 6 [(0, jR G l0), (1, vI l1), (2, vI l2), (3, vL Z.2.1), (5, vI Z.2.2)] → W p l e R s m args below meth c H locs 0 0 (MQ below (jQ G (some (vL fin.1)) fin.2) args s 0 0 (jA G)) (F0 m 9 ls [])) (E := fun q => ∀ (H : Heap) (locs : List Loc) (ls : Array Slot), jOk G q.1 s H locs → lv_has ls 6 [(3, vL q.2)] → W p l e R s m args below meth c H locs 0 0 (MQ below (jQ G (some (vL fin.1)) fin.2) args s 0 0 (jA G)) (F0 m 39 ls [])) (fun Z rr hb kc kx H locs ls hO hl => w_X4_winsOf_L9 C hRf hRl r1 l0 l1 l2 h0 Z hb kc (fun q e => kx q e) hO hl) 5000 (r1, 0, 0) x5 hx5 ?_ _ _ _ hO (lv_sub hl [2, 3, 4, 1, 0] rfl)
  clear hO hl
  intro H locs ls hO hl
  refine lv_lload_n C.1 C.2.1 dX4_winsOf_39 rfl (lv_at hl 0 rfl) ?_
  have hf := som_e hf
  subst hf
  exact j_lret C hO dX4_winsOf_40
set_option maxHeartbeats 1000000 in
theorem c_X4_winsOf (l : Launch) (G : jG)  (M : jM) (l0 l1 l2 : Int) (h0 : jkd l0 = (4, 0)) {fin : Int × jM} (h : f_X4_winsOf M l0 l1 l2 = some fin) : Met l yX4_winsOf (Cond.code yX4_winsOf cX4_winsOf 6 (some .long) :: wsL_law) ({ frames := 2, cells := 0, slots := 0, locals := 50 } : Room) (va_Pc [jR G l0, vI l1, vI l2] (fun U => jRep G M U)) (jQ G (some (vL fin.1)) fin.2) 0 0 (jA G) := by
  refine Met.ofW (cc := cX4_winsOf) (maxL := 6) (ret := (some .long)) (by decide) rfl ?_
  intro p e s m args below meth c s₁ B hml hv
  obtain ⟨rfl, hR0⟩ := hv
  have C : jCx p s m ([jR G l0, vI l1, vI l2] : List Value).toArray meth c cX4_winsOf 6 RX4 (Cond.code yX4_winsOf cX4_winsOf 6 (some .long)) (some .long) := ⟨B.exec, B.bytes, hml, findClass_of_methodNamed B.named, atoms_spec B.pre, B.returns, B.notSynchronized⟩
  have hO := hR0.ok
  have hl := lv_entry ([jR G l0, vI l1, vI l2]) (n := 6) (Nat.le_of_ble_eq_true rfl)
  rw [lg_entry_eq]
  generalize (lg_sl ([jR G l0, vI l1, vI l2]) ++ List.replicate (6 - (lg_sl ([jR G l0, vI l1, vI l2])).length) Slot.unset).toArray = ls at hl ⊢
  have hl : lv_has ls 6 [(0, jR G l0), (1, vI l1), (2, vI l2)] := hl
  exact w_X4_winsOf C (Nat.le_refl _) (Nat.le_refl _) M l0 l1 l2 h0 h hO hl
set_option maxHeartbeats 4000000 in
theorem w_X4_rowsWithNone_L6 {p : Program} {l : Launch} {e : Env} {R : Room} {s : State} {m : MethodId} {args : Array Value} {below : List Frame} {meth : Method} {c : Code} {H : Heap} {locs : List Loc} {ls : Array Slot} {G : jG}  (C : jCx p s m args meth c cX4_rowsWithNone 5 RX4 (Cond.code yX4_rowsWithNone cX4_rowsWithNone 5 (some .long)) (some .long)) (hRf : 2 ≤ R.frames) (hRl : 50 ≤ R.locals)  (M : jM) (l0 l1 : Int) (h0 : jkd l0 = (4, 0)) {fin : Int × jM} (S : jM × Int) {rr : (jM × Int) ⊕ jM} (hf : f_X4_rowsWithNone_L6 M l0 l1 S = some rr) (kc : ∀ q : jM × Int, rr = .inl q → ∀ (H : Heap) (locs : List Loc) (ls : Array Slot), jOk G q.1 s H locs → lv_has ls 5 [(0, jR G l0), (1, vI l1), (2, vI q.2)] → W p l e R s m args below meth c H locs 0 0 (MQ below (jQ G (some (vL fin.1)) fin.2) args s 0 0 (jA G)) (F0 m 6 ls [])) (kx0 : ∀ q : jM, rr = .inr q → ∀ (H : Heap) (locs : List Loc) (ls : Array Slot), jOk G q s H locs → lv_has ls 5 [(0, jR G l0)] → W p l e R s m args below meth c H locs 0 0 (MQ below (jQ G (some (vL fin.1)) fin.2) args s 0 0 (jA G)) (F0 m 25 ls [])) (hO : jOk G S.1 s H locs) (hl : lv_has ls 5 [(0, jR G l0), (1, vI l1), (2, vI S.2)]) : W p l e R s m args below meth c H locs 0 0 (MQ below (jQ G (some (vL fin.1)) fin.2) args s 0 0 (jA G)) (F0 m 6 ls []) := by
  unfold f_X4_rowsWithNone_L6 at hf
  refine lv_iload_n C.1 C.2.1 dX4_rowsWithNone_6 rfl (lv_at hl 2 rfl) ?_
  refine lv_iload_n C.1 C.2.1 dX4_rowsWithNone_7 rfl (lv_at hl 1 rfl) ?_
  refine j_icmp_ge (tgt := 25) C rfl rfl dX4_rowsWithNone_8 (by decide) (fun c2 => ?_) (fun c2 => ?_)
  · have hf := (if_pos c2).symm.trans hf
    exact kx0 _ (som_e hf).symm _ _ _ hO (lv_sub hl [0] rfl)
  · have hf := (if_neg c2).symm.trans hf
    refine lv_aload_n C.1 C.2.1 dX4_rowsWithNone_11 rfl (lv_at hl 0 rfl) ?_
    refine lv_bipush (v := Int32.ofInt 6) C.1 C.2.1 dX4_rowsWithNone_12 (by decide) ?_
    refine lv_iconst (v := Int32.ofInt 0) C.1 C.2.1 dX4_rowsWithNone_14 rfl ?_
    obtain ⟨r3, hr3, hf⟩ := bnd_e hf
    refine j_callV C hO (n := 2) (As := [vI 6, vI 0]) (st1 := [vL r3.1]) (c_X4_throwOnce l G S.1 l0 6 0 h0 hr3) h0 rfl kC_35_19 kM_35_16 kI_35_17 kS_35_18 kN_2_16 ⟨by decide, by decide, by decide⟩ ⟨Nat.le_trans (by decide) hRf, Nat.le_trans (by decide) hRl⟩ rfl rfl rfl hl.1 rfl (Nat.le_of_ble_eq_true rfl) ⟨Nat.zero_le _, Nat.zero_le _⟩ dX4_rowsWithNone_15 rfl (fun H locs hO => ?_)
    refine lv_pop2_2 C.1 C.2.1 dX4_rowsWithNone_18 rfl ?_
    refine lv_iinc (v := Int32.ofInt (S.2 + 1)) (lv' := [(2, vI (S.2 + 1)), (0, jR G l0), (1, vI l1)]) C.1 C.2.1 dX4_rowsWithNone_19 hl (k := 2) rfl (Int32.ofInt_add _ _).symm (by decide) rfl (fun ls hl => ?_)
    refine lv_goto (tgt := 6) C.1 C.2.1 dX4_rowsWithNone_22 (by decide) ?_
    exact kc _ (som_e hf).symm _ _ _ hO (lv_sub hl [1, 2, 0] rfl)
set_option maxHeartbeats 4000000 in
theorem w_X4_rowsWithNone_L30 {p : Program} {l : Launch} {e : Env} {R : Room} {s : State} {m : MethodId} {args : Array Value} {below : List Frame} {meth : Method} {c : Code} {H : Heap} {locs : List Loc} {ls : Array Slot} {G : jG}  (C : jCx p s m args meth c cX4_rowsWithNone 5 RX4 (Cond.code yX4_rowsWithNone cX4_rowsWithNone 5 (some .long)) (some .long)) (hRf : 2 ≤ R.frames) (hRl : 50 ≤ R.locals)  (M : jM) (l0 : Int) (h0 : jkd l0 = (4, 0)) {fin : Int × jM} (S : Int × Int) {rr : (Int × Int) ⊕ Int} (hf : f_X4_rowsWithNone_L30 M l0 S = some rr) (kc : ∀ q : Int × Int, rr = .inl q → ∀ (H : Heap) (locs : List Loc) (ls : Array Slot), jOk G M s H locs → lv_has ls 5 [(0, jR G l0), (2, vL q.1), (4, vI q.2)] → W p l e R s m args below meth c H locs 0 0 (MQ below (jQ G (some (vL fin.1)) fin.2) args s 0 0 (jA G)) (F0 m 30 ls [])) (kx0 : ∀ q : Int, rr = .inr q → ∀ (H : Heap) (locs : List Loc) (ls : Array Slot), jOk G M s H locs → lv_has ls 5 [(2, vL q)] → W p l e R s m args below meth c H locs 0 0 (MQ below (jQ G (some (vL fin.1)) fin.2) args s 0 0 (jA G)) (F0 m 55 ls [])) (hO : jOk G M s H locs) (hl : lv_has ls 5 [(0, jR G l0), (2, vL S.1), (4, vI S.2)]) : W p l e R s m args below meth c H locs 0 0 (MQ below (jQ G (some (vL fin.1)) fin.2) args s 0 0 (jA G)) (F0 m 30 ls []) := by
  unfold f_X4_rowsWithNone_L30 at hf
  refine lv_iload C.1 C.2.1 dX4_rowsWithNone_30 (lv_at hl 2 rfl) ?_
  refine lv_aload_n C.1 C.2.1 dX4_rowsWithNone_32 rfl (lv_at hl 0 rfl) ?_
  refine j_get C hO (ci := 4) (k := 6) (v := vI (M l0 6)) h0 rfl inlX4 (by decide) kF_34_12 rfl rfl dX4_rowsWithNone_33 ?_
  refine j_icmp_ge (tgt := 55) C rfl rfl dX4_rowsWithNone_36 (by decide) (fun c5 => ?_) (fun c5 => ?_)
  · have hf := (if_pos c5).symm.trans hf
    exact kx0 _ (som_e hf).symm _ _ _ hO (lv_sub hl [1] rfl)
  · have hf := (if_neg c5).symm.trans hf
    refine lv_lload_n C.1 C.2.1 dX4_rowsWithNone_39 rfl (lv_at hl 1 rfl) ?_
    refine lv_aload_n C.1 C.2.1 dX4_rowsWithNone_40 rfl (lv_at hl 0 rfl) ?_
    obtain ⟨g6, hf⟩ := grd_e hf
    refine j_get C hO (ci := 4) (k := 4) (v := jN G (M l0 4)) h0 rfl inlX4 (by decide) kF_5_12 rfl rfl dX4_rowsWithNone_41 ?_
    rw [jN_p (jkd_in g6 (by decide)).1]
    refine lv_iload C.1 C.2.1 dX4_rowsWithNone_44 (lv_at hl 2 rfl) ?_
    obtain ⟨g7, hf⟩ := grd_e hf
    refine j_lald C hO g6 rfl g7.1 g7.2 dX4_rowsWithNone_46 ?_
    refine j_ladd C dX4_rowsWithNone_47 ?_
    refine lv_lstore_n (lv' := [(2, vL (S.1 + (M (M l0 4) (w32 S.2)))), (0, jR G l0), (4, vI S.2)]) C.1 C.2.1 dX4_rowsWithNone_48 rfl hl (by decide) rfl (fun ls hl => ?_)
    refine lv_iinc (v := Int32.ofInt (S.2 + 1)) (lv' := [(4, vI (S.2 + 1)), (2, vL (S.1 + (M (M l0 4) (w32 S.2)))), (0, jR G l0)]) C.1 C.2.1 dX4_rowsWithNone_49 hl (k := 2) rfl (Int32.ofInt_add _ _).symm (by decide) rfl (fun ls hl => ?_)
    refine lv_goto (tgt := 30) C.1 C.2.1 dX4_rowsWithNone_52 (by decide) ?_
    exact kc _ (som_e hf).symm _ _ _ hO (lv_sub hl [2, 1, 0] rfl)
set_option maxHeartbeats 4000000 in
theorem w_X4_rowsWithNone {p : Program} {l : Launch} {e : Env} {R : Room} {s : State} {m : MethodId} {args : Array Value} {below : List Frame} {meth : Method} {c : Code} {H : Heap} {locs : List Loc} {ls : Array Slot} {G : jG}  (C : jCx p s m args meth c cX4_rowsWithNone 5 RX4 (Cond.code yX4_rowsWithNone cX4_rowsWithNone 5 (some .long)) (some .long)) (hRf : 2 ≤ R.frames) (hRl : 50 ≤ R.locals)  (M : jM) (l0 l1 : Int) (h0 : jkd l0 = (4, 0)) {fin : Int × jM} (hf : f_X4_rowsWithNone M l0 l1 = some fin) (hO : jOk G M s H locs) (hl : lv_has ls 5 [(0, jR G l0), (1, vI l1)]) : W p l e R s m args below meth c H locs 0 0 (MQ below (jQ G (some (vL fin.1)) fin.2) args s 0 0 (jA G)) (F0 m 0 ls []) := by
  unfold f_X4_rowsWithNone at hf
  refine lv_aload_n C.1 C.2.1 dX4_rowsWithNone_0 rfl (lv_at hl 0 rfl) ?_
  obtain ⟨r1, hr1, hf⟩ := bnd_e hf
  refine j_callV C hO (n := 0) (As := []) (st1 := []) (c_X4_begin l G M l0 h0 hr1) h0 rfl kC_35_15 kM_35_12 kI_35_13 kS_35_14 kN_2_16 ⟨by decide, by decide, by decide⟩ ⟨Nat.le_trans (by decide) hRf, Nat.le_trans (by decide) hRl⟩ rfl rfl rfl hl.1 rfl (Nat.le_of_ble_eq_true rfl) ⟨Nat.zero_le _, Nat.zero_le _⟩ dX4_rowsWithNone_1 rfl (fun H locs hO => ?_)
  refine lv_iconst (v := Int32.ofInt 0) C.1 C.2.1 dX4_rowsWithNone_4 rfl ?_
  refine lv_istore_n (lv' := [(2, vI 0), (0, jR G l0), (1, vI l1)]) C.1 C.2.1 dX4_rowsWithNone_5 rfl hl (by decide) rfl (fun ls hl => ?_)
  obtain ⟨x4, hx4, hf⟩ := bnd_e hf
  refine iter_e (P := fun Z => ∀ (H : Heap) (locs : List Loc) (ls : Array Slot), jOk G Z.1 s H locs → lv_has ls 5 [(0, jR G l0), (1, vI l1), (2, vI Z.2)] → W p l e R s m args below meth c H locs 0 0 (MQ below (jQ G (some (vL fin.1)) fin.2) args s 0 0 (jA G)) (F0 m 6 ls [])) (E := fun q => ∀ (H : Heap) (locs : List Loc) (ls : Array Slot), jOk G q s H locs → lv_has ls 5 [(0, jR G l0)] → W p l e R s m args below meth c H locs 0 0 (MQ below (jQ G (some (vL fin.1)) fin.2) args s 0 0 (jA G)) (F0 m 25 ls [])) (fun Z rr hb kc kx H locs ls hO hl => w_X4_rowsWithNone_L6 C hRf hRl r1 l0 l1 h0 Z hb kc (fun q e => kx q e) hO hl) 5000 (r1, 0) x4 hx4 ?_ _ _ _ hO (lv_sub hl [1, 2, 0] rfl)
  clear hO hl
  intro H locs ls hO hl
  refine lv_lconst (v := Int64.ofInt 0) C.1 C.2.1 dX4_rowsWithNone_25 (by decide) ?_
  refine lv_lstore_n (lv' := [(2, vL 0), (0, jR G l0)]) C.1 C.2.1 dX4_rowsWithNone_26 rfl hl (by decide) rfl (fun ls hl => ?_)
  refine lv_iconst (v := Int32.ofInt 0) C.1 C.2.1 dX4_rowsWithNone_27 rfl ?_
  refine lv_istore (lv' := [(4, vI 0), (2, vL 0), (0, jR G l0)]) C.1 C.2.1 dX4_rowsWithNone_28 hl (by decide) rfl (fun ls hl => ?_)
  obtain ⟨x8, hx8, hf⟩ := bnd_e hf
  refine iter_e (P := fun Z => ∀ (H : Heap) (locs : List Loc) (ls : Array Slot), jOk G x4 s H locs → lv_has ls 5 [(0, jR G l0), (2, vL Z.1), (4, vI Z.2)] → W p l e R s m args below meth c H locs 0 0 (MQ below (jQ G (some (vL fin.1)) fin.2) args s 0 0 (jA G)) (F0 m 30 ls [])) (E := fun q => ∀ (H : Heap) (locs : List Loc) (ls : Array Slot), jOk G x4 s H locs → lv_has ls 5 [(2, vL q)] → W p l e R s m args below meth c H locs 0 0 (MQ below (jQ G (some (vL fin.1)) fin.2) args s 0 0 (jA G)) (F0 m 55 ls [])) (fun Z rr hb kc kx H locs ls hO hl => w_X4_rowsWithNone_L30 C hRf hRl x4 l0 h0 Z hb kc (fun q e => kx q e) hO hl) 5000 (0, 0) x8 hx8 ?_ _ _ _ hO (lv_sub hl [2, 1, 0] rfl)
  clear hO hl
  intro H locs ls hO hl
  refine lv_lload_n C.1 C.2.1 dX4_rowsWithNone_55 rfl (lv_at hl 0 rfl) ?_
  have hf := som_e hf
  subst hf
  exact j_lret C hO dX4_rowsWithNone_56
set_option maxHeartbeats 1000000 in
theorem c_X4_rowsWithNone (l : Launch) (G : jG)  (M : jM) (l0 l1 : Int) (h0 : jkd l0 = (4, 0)) {fin : Int × jM} (h : f_X4_rowsWithNone M l0 l1 = some fin) : Met l yX4_rowsWithNone (Cond.code yX4_rowsWithNone cX4_rowsWithNone 5 (some .long) :: wsL_law) ({ frames := 2, cells := 0, slots := 0, locals := 50 } : Room) (va_Pc [jR G l0, vI l1] (fun U => jRep G M U)) (jQ G (some (vL fin.1)) fin.2) 0 0 (jA G) := by
  refine Met.ofW (cc := cX4_rowsWithNone) (maxL := 5) (ret := (some .long)) (by decide) rfl ?_
  intro p e s m args below meth c s₁ B hml hv
  obtain ⟨rfl, hR0⟩ := hv
  have C : jCx p s m ([jR G l0, vI l1] : List Value).toArray meth c cX4_rowsWithNone 5 RX4 (Cond.code yX4_rowsWithNone cX4_rowsWithNone 5 (some .long)) (some .long) := ⟨B.exec, B.bytes, hml, findClass_of_methodNamed B.named, atoms_spec B.pre, B.returns, B.notSynchronized⟩
  have hO := hR0.ok
  have hl := lv_entry ([jR G l0, vI l1]) (n := 5) (Nat.le_of_ble_eq_true rfl)
  rw [lg_entry_eq]
  generalize (lg_sl ([jR G l0, vI l1]) ++ List.replicate (5 - (lg_sl ([jR G l0, vI l1])).length) Slot.unset).toArray = ls at hl ⊢
  have hl : lv_has ls 5 [(0, jR G l0), (1, vI l1)] := hl
  exact w_X4_rowsWithNone C (Nat.le_refl _) (Nat.le_refl _) M l0 l1 h0 h hO hl
set_option maxHeartbeats 4000000 in
theorem w_X0_forget {p : Program} {l : Launch} {e : Env} {R : Room} {s : State} {m : MethodId} {args : Array Value} {below : List Frame} {meth : Method} {c : Code} {H : Heap} {locs : List Loc} {ls : Array Slot} {G : jG}  (C : jCx p s m args meth c cX0_forget 1 RX0 (Cond.code yX0_forget cX0_forget 1 none) none) (hRf : 0 ≤ R.frames) (hRl : 0 ≤ R.locals)  (M : jM) (l0 : Int) (h0 : jkd l0 = (0, 0)) {fin : jM} (hf : f_X0_forget M l0 = some fin) (hO : jOk G M s H locs) (hl : lv_has ls 1 [(0, jR G l0)]) : W p l e R s m args below meth c H locs 0 0 (MQ below (jQ G none fin) args s 0 0 (jA G)) (F0 m 0 ls []) := by
  unfold f_X0_forget at hf
  refine lv_aload_n C.1 C.2.1 dX0_forget_0 rfl (lv_at hl 0 rfl) ?_
  refine lv_iconst (v := Int32.ofInt 0) C.1 C.2.1 dX0_forget_1 rfl ?_
  obtain ⟨M1, hM1, hf⟩ := lt1_e hf
  refine j_put C hO (ci := 0) (k := 1) (x := 0) h0 rfl inlX0 tyX0_ok nmX0 (by decide) kF_40_0 rfl rfl rfl rfl (by simp [jfl]) (fs_0_1) dX0_forget_2 (fun H locs hO => ?_)
  rw [← hM1] at hO
  have hf := som_e hf
  subst hf
  exact j_vret C hO dX0_forget_5
set_option maxHeartbeats 1000000 in
theorem c_X0_forget (l : Launch) (G : jG)  (M : jM) (l0 : Int) (h0 : jkd l0 = (0, 0)) {fin : jM} (h : f_X0_forget M l0 = some fin) : Met l yX0_forget (Cond.code yX0_forget cX0_forget 1 none :: wsL_law) ({ frames := 0, cells := 0, slots := 0, locals := 0 } : Room) (va_Pc [jR G l0] (fun U => jRep G M U)) (jQ G none fin) 0 0 (jA G) := by
  refine Met.ofW (cc := cX0_forget) (maxL := 1) (ret := none) (by decide) rfl ?_
  intro p e s m args below meth c s₁ B hml hv
  obtain ⟨rfl, hR0⟩ := hv
  have C : jCx p s m ([jR G l0] : List Value).toArray meth c cX0_forget 1 RX0 (Cond.code yX0_forget cX0_forget 1 none) none := ⟨B.exec, B.bytes, hml, findClass_of_methodNamed B.named, atoms_spec B.pre, B.returns, B.notSynchronized⟩
  have hO := hR0.ok
  have hl := lv_entry ([jR G l0]) (n := 1) (Nat.le_of_ble_eq_true rfl)
  rw [lg_entry_eq]
  generalize (lg_sl ([jR G l0]) ++ List.replicate (1 - (lg_sl ([jR G l0])).length) Slot.unset).toArray = ls at hl ⊢
  have hl : lv_has ls 1 [(0, jR G l0)] := hl
  exact w_X0_forget C (Nat.le_refl _) (Nat.le_refl _) M l0 h0 h hO hl
set_option maxHeartbeats 4000000 in
theorem w_X0_bodyOf_19 {p : Program} {l : Launch} {e : Env} {R : Room} {s : State} {m : MethodId} {args : Array Value} {below : List Frame} {meth : Method} {c : Code} {H : Heap} {locs : List Loc} {ls : Array Slot} {G : jG}  (C : jCx p s m args meth c cX0_bodyOf 2 RX0 (Cond.code yX0_bodyOf cX0_bodyOf 2 (some .int)) (some .int)) (hRf : 0 ≤ R.frames) (hRl : 0 ≤ R.locals)  (M : jM) {fin : Int} (hf : f_X0_bodyOf_19 M  = some fin) (hO : jOk G M s H locs) (hl : lv_has ls 2 []) : W p l e R s m args below meth c H locs 0 0 (MQ below (jQ G (some (vI fin)) M) args s 0 0 (jA G)) (F0 m 19 ls []) := by
  unfold f_X0_bodyOf_19 at hf
  refine lv_iconst (v := Int32.ofInt 0) C.1 C.2.1 dX0_bodyOf_19 rfl ?_
  refine lv_goto (tgt := 32) C.1 C.2.1 dX0_bodyOf_20 (by decide) ?_
  have hf := som_e hf
  subst hf
  exact j_iret C hO dX0_bodyOf_32
set_option maxHeartbeats 4000000 in
theorem w_X0_bodyOf {p : Program} {l : Launch} {e : Env} {R : Room} {s : State} {m : MethodId} {args : Array Value} {below : List Frame} {meth : Method} {c : Code} {H : Heap} {locs : List Loc} {ls : Array Slot} {G : jG}  (C : jCx p s m args meth c cX0_bodyOf 2 RX0 (Cond.code yX0_bodyOf cX0_bodyOf 2 (some .int)) (some .int)) (hRf : 0 ≤ R.frames) (hRl : 0 ≤ R.locals)  (M : jM) (l0 l1 : Int) {fin : Int} (hf : f_X0_bodyOf M l0 l1 = some fin) (hO : jOk G M s H locs) (hl : lv_has ls 2 [(0, vI l0), (1, vI l1)]) : W p l e R s m args below meth c H locs 0 0 (MQ below (jQ G (some (vI fin)) M) args s 0 0 (jA G)) (F0 m 0 ls []) := by
  unfold f_X0_bodyOf at hf
  refine lv_iload_n C.1 C.2.1 dX0_bodyOf_0 rfl (lv_at hl 0 rfl) ?_
  refine j_if_lt (tgt := 19) C rfl dX0_bodyOf_1 (by decide) (fun c1 => ?_) (fun c1 => ?_)
  · have hf := (if_pos c1).symm.trans hf
    exact w_X0_bodyOf_19 C hRf hRl M   hf hO (lv_sub hl [] rfl)
  · have hf := (if_neg c1).symm.trans hf
    refine lv_iload_n C.1 C.2.1 dX0_bodyOf_4 rfl (lv_at hl 0 rfl) ?_
    refine lv_bipush (v := Int32.ofInt 7) C.1 C.2.1 dX0_bodyOf_5 (by decide) ?_
    refine j_icmp_ge (tgt := 19) C rfl (w32_id (by decide) (by decide)) dX0_bodyOf_7 (by decide) (fun c2 => ?_) (fun c2 => ?_)
    · have hf := (if_pos c2).symm.trans hf
      exact w_X0_bodyOf_19 C hRf hRl M   hf hO (lv_sub hl [] rfl)
    · have hf := (if_neg c2).symm.trans hf
      refine lv_iload_n C.1 C.2.1 dX0_bodyOf_10 rfl (lv_at hl 1 rfl) ?_
      refine j_if_lt (tgt := 19) C rfl dX0_bodyOf_11 (by decide) (fun c3 => ?_) (fun c3 => ?_)
      · have hf := (if_pos c3).symm.trans hf
        exact w_X0_bodyOf_19 C hRf hRl M   hf hO (lv_sub hl [] rfl)
      · have hf := (if_neg c3).symm.trans hf
        refine lv_iload_n C.1 C.2.1 dX0_bodyOf_14 rfl (lv_at hl 1 rfl) ?_
        refine lv_iconst (v := Int32.ofInt 3) C.1 C.2.1 dX0_bodyOf_15 rfl ?_
        refine j_icmp_lt (tgt := 23) C rfl (w32_id (by decide) (by decide)) dX0_bodyOf_16 (by decide) (fun c4 => ?_) (fun c4 => ?_)
        · have hf := (if_pos c4).symm.trans hf
          refine j_gets_bodies C hO kF_40_18 dX0_bodyOf_23 ?_
          refine lv_iload_n C.1 C.2.1 dX0_bodyOf_26 rfl (lv_at hl 0 rfl) ?_
          refine lv_iconst (v := Int32.ofInt 3) C.1 C.2.1 dX0_bodyOf_27 rfl ?_
          refine j_imul C dX0_bodyOf_28 ?_
          refine lv_iload_n C.1 C.2.1 dX0_bodyOf_29 rfl (lv_at hl 1 rfl) ?_
          refine j_iadd C dX0_bodyOf_30 ?_
          obtain ⟨g5, hf⟩ := grd_e hf
          refine j_tab_bodies C hO rfl g5.1 g5.2 dX0_bodyOf_31 ?_
          have hf := som_e hf
          subst hf
          exact j_iret C hO dX0_bodyOf_32
        · have hf := (if_neg c4).symm.trans hf
          exact w_X0_bodyOf_19 C hRf hRl M   hf hO (lv_sub hl [] rfl)
set_option maxHeartbeats 1000000 in
theorem c_X0_bodyOf (l : Launch) (G : jG)  (M : jM) (l0 l1 : Int) {fin : Int} (h : f_X0_bodyOf M l0 l1 = some fin) : Met l yX0_bodyOf (Cond.code yX0_bodyOf cX0_bodyOf 2 (some .int) :: wsL_law) ({ frames := 0, cells := 0, slots := 0, locals := 0 } : Room) (va_Pc [vI l0, vI l1] (fun U => jRep G M U)) (jQ G (some (vI fin)) M) 0 0 (jA G) := by
  refine Met.ofW (cc := cX0_bodyOf) (maxL := 2) (ret := (some .int)) (by decide) rfl ?_
  intro p e s m args below meth c s₁ B hml hv
  obtain ⟨rfl, hR0⟩ := hv
  have C : jCx p s m ([vI l0, vI l1] : List Value).toArray meth c cX0_bodyOf 2 RX0 (Cond.code yX0_bodyOf cX0_bodyOf 2 (some .int)) (some .int) := ⟨B.exec, B.bytes, hml, findClass_of_methodNamed B.named, atoms_spec B.pre, B.returns, B.notSynchronized⟩
  have hO := hR0.ok
  have hl := lv_entry ([vI l0, vI l1]) (n := 2) (Nat.le_of_ble_eq_true rfl)
  rw [lg_entry_eq]
  generalize (lg_sl ([vI l0, vI l1]) ++ List.replicate (2 - (lg_sl ([vI l0, vI l1])).length) Slot.unset).toArray = ls at hl ⊢
  have hl : lv_has ls 2 [(0, vI l0), (1, vI l1)] := hl
  exact w_X0_bodyOf C (Nat.le_refl _) (Nat.le_refl _) M l0 l1  h hO hl
set_option maxHeartbeats 4000000 in
theorem w_X9_above_10 {p : Program} {l : Launch} {e : Env} {R : Room} {s : State} {m : MethodId} {args : Array Value} {below : List Frame} {meth : Method} {c : Code} {H : Heap} {locs : List Loc} {ls : Array Slot} {G : jG}  (C : jCx p s m args meth c cX9_above 1 RX9 (Cond.code yX9_above cX9_above 1 (some .int)) (some .int)) (hRf : 0 ≤ R.frames) (hRl : 0 ≤ R.locals)  (M : jM) {fin : Int} (hf : f_X9_above_10 M  = some fin) (hO : jOk G M s H locs) (hl : lv_has ls 1 []) : W p l e R s m args below meth c H locs 0 0 (MQ below (jQ G (some (vI fin)) M) args s 0 0 (jA G)) (F0 m 10 ls []) := by
  unfold f_X9_above_10 at hf
  refine lv_iconst (v := Int32.ofInt (-1)) C.1 C.2.1 dX9_above_10 rfl ?_
  refine lv_goto (tgt := 19) C.1 C.2.1 dX9_above_11 (by decide) ?_
  have hf := som_e hf
  subst hf
  exact j_iret C hO dX9_above_19
set_option maxHeartbeats 4000000 in
theorem w_X9_above {p : Program} {l : Launch} {e : Env} {R : Room} {s : State} {m : MethodId} {args : Array Value} {below : List Frame} {meth : Method} {c : Code} {H : Heap} {locs : List Loc} {ls : Array Slot} {G : jG}  (C : jCx p s m args meth c cX9_above 1 RX9 (Cond.code yX9_above cX9_above 1 (some .int)) (some .int)) (hRf : 0 ≤ R.frames) (hRl : 0 ≤ R.locals)  (M : jM) (l0 : Int) {fin : Int} (hf : f_X9_above M l0 = some fin) (hO : jOk G M s H locs) (hl : lv_has ls 1 [(0, vI l0)]) : W p l e R s m args below meth c H locs 0 0 (MQ below (jQ G (some (vI fin)) M) args s 0 0 (jA G)) (F0 m 0 ls []) := by
  unfold f_X9_above at hf
  refine lv_iload_n C.1 C.2.1 dX9_above_0 rfl (lv_at hl 0 rfl) ?_
  refine j_if_lt (tgt := 10) C rfl dX9_above_1 (by decide) (fun c1 => ?_) (fun c1 => ?_)
  · have hf := (if_pos c1).symm.trans hf
    exact w_X9_above_10 C hRf hRl M   hf hO (lv_sub hl [] rfl)
  · have hf := (if_neg c1).symm.trans hf
    refine lv_iload_n C.1 C.2.1 dX9_above_4 rfl (lv_at hl 0 rfl) ?_
    refine lv_bipush (v := Int32.ofInt 7) C.1 C.2.1 dX9_above_5 (by decide) ?_
    refine j_icmp_lt (tgt := 14) C rfl (w32_id (by decide) (by decide)) dX9_above_7 (by decide) (fun c2 => ?_) (fun c2 => ?_)
    · have hf := (if_pos c2).symm.trans hf
      refine j_gets_above C hO kF_40_21 dX9_above_14 ?_
      refine lv_iload_n C.1 C.2.1 dX9_above_17 rfl (lv_at hl 0 rfl) ?_
      obtain ⟨g3, hf⟩ := grd_e hf
      refine j_tab_above C hO rfl g3.1 g3.2 dX9_above_18 ?_
      have hf := som_e hf
      subst hf
      exact j_iret C hO dX9_above_19
    · have hf := (if_neg c2).symm.trans hf
      exact w_X9_above_10 C hRf hRl M   hf hO (lv_sub hl [] rfl)
set_option maxHeartbeats 1000000 in
theorem c_X9_above (l : Launch) (G : jG)  (M : jM) (l0 : Int) {fin : Int} (h : f_X9_above M l0 = some fin) : Met l yX9_above (Cond.code yX9_above cX9_above 1 (some .int) :: wsL_law) ({ frames := 0, cells := 0, slots := 0, locals := 0 } : Room) (va_Pc [vI l0] (fun U => jRep G M U)) (jQ G (some (vI fin)) M) 0 0 (jA G) := by
  refine Met.ofW (cc := cX9_above) (maxL := 1) (ret := (some .int)) (by decide) rfl ?_
  intro p e s m args below meth c s₁ B hml hv
  obtain ⟨rfl, hR0⟩ := hv
  have C : jCx p s m ([vI l0] : List Value).toArray meth c cX9_above 1 RX9 (Cond.code yX9_above cX9_above 1 (some .int)) (some .int) := ⟨B.exec, B.bytes, hml, findClass_of_methodNamed B.named, atoms_spec B.pre, B.returns, B.notSynchronized⟩
  have hO := hR0.ok
  have hl := lv_entry ([vI l0]) (n := 1) (Nat.le_of_ble_eq_true rfl)
  rw [lg_entry_eq]
  generalize (lg_sl ([vI l0]) ++ List.replicate (1 - (lg_sl ([vI l0])).length) Slot.unset).toArray = ls at hl ⊢
  have hl : lv_has ls 1 [(0, vI l0)] := hl
  exact w_X9_above C (Nat.le_refl _) (Nat.le_refl _) M l0  h hO hl
set_option maxHeartbeats 4000000 in
theorem w_X0_note_19 {p : Program} {l : Launch} {e : Env} {R : Room} {s : State} {m : MethodId} {args : Array Value} {below : List Frame} {meth : Method} {c : Code} {H : Heap} {locs : List Loc} {ls : Array Slot} {G : jG}  (C : jCx p s m args meth c cX0_note 2 RX0 (Cond.code yX0_note cX0_note 2 none) none) (hRf : 0 ≤ R.frames) (hRl : 0 ≤ R.locals)  (M : jM) (l0 : Int) (h0 : jkd l0 = (0, 0)) {fin : jM} (hf : f_X0_note_19 M l0 = some fin) (hO : jOk G M s H locs) (hl : lv_has ls 2 [(0, jR G l0)]) : W p l e R s m args below meth c H locs 0 0 (MQ below (jQ G none fin) args s 0 0 (jA G)) (F0 m 19 ls []) := by
  unfold f_X0_note_19 at hf
  refine lv_aload_n C.1 C.2.1 dX0_note_19 rfl (lv_at hl 0 rfl) ?_
  refine lv_dup C.1 C.2.1 dX0_note_20 rfl ?_
  refine j_get C hO (ci := 0) (k := 1) (v := vI (M l0 1)) h0 rfl inlX0 (by decide) kF_40_0 rfl rfl dX0_note_21 ?_
  refine lv_iconst (v := Int32.ofInt 1) C.1 C.2.1 dX0_note_24 rfl ?_
  refine j_iadd C dX0_note_25 ?_
  obtain ⟨M2, hM2, hf⟩ := lt1_e hf
  refine j_put C hO (ci := 0) (k := 1) (x := (M l0 1) + 1) h0 rfl inlX0 tyX0_ok nmX0 (by decide) kF_40_0 rfl rfl rfl rfl (by simp [jfl]) (fs_0_1) dX0_note_26 (fun H locs hO => ?_)
  rw [← hM2] at hO
  have hf := som_e hf
  subst hf
  exact j_vret C hO dX0_note_29
set_option maxHeartbeats 4000000 in
theorem w_X0_note {p : Program} {l : Launch} {e : Env} {R : Room} {s : State} {m : MethodId} {args : Array Value} {below : List Frame} {meth : Method} {c : Code} {H : Heap} {locs : List Loc} {ls : Array Slot} {G : jG}  (C : jCx p s m args meth c cX0_note 2 RX0 (Cond.code yX0_note cX0_note 2 none) none) (hRf : 0 ≤ R.frames) (hRl : 0 ≤ R.locals)  (M : jM) (l0 l1 : Int) (h0 : jkd l0 = (0, 0)) {fin : jM} (hf : f_X0_note M l0 l1 = some fin) (hO : jOk G M s H locs) (hl : lv_has ls 2 [(0, jR G l0), (1, vI l1)]) : W p l e R s m args below meth c H locs 0 0 (MQ below (jQ G none fin) args s 0 0 (jA G)) (F0 m 0 ls []) := by
  unfold f_X0_note at hf
  refine lv_aload_n C.1 C.2.1 dX0_note_0 rfl (lv_at hl 0 rfl) ?_
  refine j_get C hO (ci := 0) (k := 1) (v := vI (M l0 1)) h0 rfl inlX0 (by decide) kF_40_0 rfl rfl dX0_note_1 ?_
  refine lv_bipush (v := Int32.ofInt 20) C.1 C.2.1 dX0_note_4 (by decide) ?_
  refine j_icmp_ge (tgt := 19) C rfl (w32_id (by decide) (by decide)) dX0_note_6 (by decide) (fun c1 => ?_) (fun c1 => ?_)
  · have hf := (if_pos c1).symm.trans hf
    exact w_X0_note_19 C hRf hRl M l0 h0 hf hO (lv_sub hl [0] rfl)
  · have hf := (if_neg c1).symm.trans hf
    refine lv_aload_n C.1 C.2.1 dX0_note_9 rfl (lv_at hl 0 rfl) ?_
    refine j_get C hO (ci := 0) (k := 0) (v := jR G (jpt l0 0)) h0 rfl inlX0 (by decide) kF_5_18 rfl rfl dX0_note_10 ?_
    refine lv_aload_n C.1 C.2.1 dX0_note_13 rfl (lv_at hl 0 rfl) ?_
    refine j_get C hO (ci := 0) (k := 1) (v := vI (M l0 1)) h0 rfl inlX0 (by decide) kF_40_0 rfl rfl dX0_note_14 ?_
    refine lv_iload_n C.1 C.2.1 dX0_note_17 rfl (lv_at hl 1 rfl) ?_
    obtain ⟨g3, hf⟩ := grd_e hf
    obtain ⟨M4, hM4, hf⟩ := lt1_e hf
    refine j_iast C hO (x := l1) (tp_0_0 h0) rfl g3.1 g3.2 dX0_note_18 (fun H locs hO => ?_)
    rw [← hM4] at hO
    exact w_X0_note_19 C hRf hRl M4 l0 h0 hf hO (lv_sub hl [0] rfl)
set_option maxHeartbeats 1000000 in
theorem c_X0_note (l : Launch) (G : jG)  (M : jM) (l0 l1 : Int) (h0 : jkd l0 = (0, 0)) {fin : jM} (h : f_X0_note M l0 l1 = some fin) : Met l yX0_note (Cond.code yX0_note cX0_note 2 none :: wsL_law) ({ frames := 0, cells := 0, slots := 0, locals := 0 } : Room) (va_Pc [jR G l0, vI l1] (fun U => jRep G M U)) (jQ G none fin) 0 0 (jA G) := by
  refine Met.ofW (cc := cX0_note) (maxL := 2) (ret := none) (by decide) rfl ?_
  intro p e s m args below meth c s₁ B hml hv
  obtain ⟨rfl, hR0⟩ := hv
  have C : jCx p s m ([jR G l0, vI l1] : List Value).toArray meth c cX0_note 2 RX0 (Cond.code yX0_note cX0_note 2 none) none := ⟨B.exec, B.bytes, hml, findClass_of_methodNamed B.named, atoms_spec B.pre, B.returns, B.notSynchronized⟩
  have hO := hR0.ok
  have hl := lv_entry ([jR G l0, vI l1]) (n := 2) (Nat.le_of_ble_eq_true rfl)
  rw [lg_entry_eq]
  generalize (lg_sl ([jR G l0, vI l1]) ++ List.replicate (2 - (lg_sl ([jR G l0, vI l1])).length) Slot.unset).toArray = ls at hl ⊢
  have hl : lv_has ls 2 [(0, jR G l0), (1, vI l1)] := hl
  exact w_X0_note C (Nat.le_refl _) (Nat.le_refl _) M l0 l1 h0 h hO hl
