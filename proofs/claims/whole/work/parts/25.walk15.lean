set_option maxHeartbeats 4000000 in
theorem w_X10_looksForEnds_L2 {p : Program} {l : Launch} {e : Env} {R : Room} {s : State} {m : MethodId} {args : Array Value} {below : List Frame} {meth : Method} {c : Code} {H : Heap} {locs : List Loc} {ls : Array Slot} {G : jG}  (C : jCx p s m args meth c cX10_looksForEnds 2 RX10 (Cond.code yX10_looksForEnds cX10_looksForEnds 2 none) none) (hRf : 4 ≤ R.frames) (hRl : 87 ≤ R.locals)  (M : jM) (l0 : Int) (h0 : jkd l0 = (10, 0)) {fin : jM} (S : jM × Int) {rr : (jM × Int) ⊕ jM} (hf : f_X10_looksForEnds_L2 M l0 S = some rr) (kc : ∀ q : jM × Int, rr = .inl q → ∀ (H : Heap) (locs : List Loc) (ls : Array Slot), jOk G q.1 s H locs → lv_has ls 2 [(0, jR G l0), (1, vI q.2)] → W p l e R s m args below meth c H locs 0 0 (MQ below (jQ G none fin) args s 0 0 (jA G)) (F0 m 2 ls [])) (kx0 : ∀ q : jM, rr = .inr q → ∀ (H : Heap) (locs : List Loc) (ls : Array Slot), jOk G q s H locs → lv_has ls 2 [] → W p l e R s m args below meth c H locs 0 0 (MQ below (jQ G none fin) args s 0 0 (jA G)) (F0 m 26 ls [])) (hO : jOk G S.1 s H locs) (hl : lv_has ls 2 [(0, jR G l0), (1, vI S.2)]) : W p l e R s m args below meth c H locs 0 0 (MQ below (jQ G none fin) args s 0 0 (jA G)) (F0 m 2 ls []) := by
  unfold f_X10_looksForEnds_L2 at hf
  refine lv_iload_n C.1 C.2.1 dX10_looksForEnds_2 rfl (lv_at hl 1 rfl) ?_
  refine lv_sipush (v := Int32.ofInt 1458) C.1 C.2.1 dX10_looksForEnds_3 (by decide) ?_
  refine j_icmp_ge (tgt := 26) C rfl (w32_id (by decide) (by decide)) dX10_looksForEnds_6 (by decide) (fun c1 => ?_) (fun c1 => ?_)
  · have hf := (if_pos c1).symm.trans hf
    exact kx0 _ (som_e hf).symm _ _ _ hO (lv_sub hl [] rfl)
  · have hf := (if_neg c1).symm.trans hf
    refine lv_aload_n C.1 C.2.1 dX10_looksForEnds_9 rfl (lv_at hl 0 rfl) ?_
    refine j_get C hO (ci := 10) (k := 17) (v := jR G (jpt l0 17)) h0 rfl inlX10 (by decide) kF_6_7 rfl rfl dX10_looksForEnds_10 ?_
    refine lv_iload_n C.1 C.2.1 dX10_looksForEnds_13 rfl (lv_at hl 1 rfl) ?_
    refine lv_aload_n C.1 C.2.1 dX10_looksForEnds_14 rfl (lv_at hl 0 rfl) ?_
    refine lv_iload_n C.1 C.2.1 dX10_looksForEnds_15 rfl (lv_at hl 1 rfl) ?_
    obtain ⟨r2, hr2, hf⟩ := bnd_e hf
    refine j_callV C hO (n := 1) (As := [vI S.2]) (st1 := [vI r2, vI S.2, jR G (jpt l0 17)]) (c_X10_firstEnd l G S.1 l0 S.2 h0 hr2) h0 rfl kC_36_15 kM_36_12 kI_36_13 kS_36_14 kN_1_5 ⟨by decide, by decide, by decide⟩ ⟨Nat.le_trans (by decide) hRf, Nat.le_trans (by decide) hRl⟩ rfl rfl rfl hl.1 rfl (Nat.le_of_ble_eq_true rfl) ⟨Nat.zero_le _, Nat.zero_le _⟩ dX10_looksForEnds_16 rfl (fun H locs hO => ?_)
    obtain ⟨g3, hf⟩ := grd_e hf
    obtain ⟨M4, hM4, hf⟩ := lt1_e hf
    refine j_iast C hO (x := r2) (tp_10_17 h0) rfl g3.1 g3.2 dX10_looksForEnds_19 (fun H locs hO => ?_)
    rw [← hM4] at hO
    refine lv_iinc (v := Int32.ofInt (S.2 + 1)) (lv' := [(1, vI (S.2 + 1)), (0, jR G l0)]) C.1 C.2.1 dX10_looksForEnds_20 hl (k := 1) rfl (Int32.ofInt_add _ _).symm (by decide) rfl (fun ls hl => ?_)
    refine lv_goto (tgt := 2) C.1 C.2.1 dX10_looksForEnds_23 (by decide) ?_
    exact kc _ (som_e hf).symm _ _ _ hO (lv_sub hl [1, 0] rfl)
set_option maxHeartbeats 4000000 in
theorem w_X10_looksForEnds {p : Program} {l : Launch} {e : Env} {R : Room} {s : State} {m : MethodId} {args : Array Value} {below : List Frame} {meth : Method} {c : Code} {H : Heap} {locs : List Loc} {ls : Array Slot} {G : jG}  (C : jCx p s m args meth c cX10_looksForEnds 2 RX10 (Cond.code yX10_looksForEnds cX10_looksForEnds 2 none) none) (hRf : 4 ≤ R.frames) (hRl : 87 ≤ R.locals)  (M : jM) (l0 : Int) (h0 : jkd l0 = (10, 0)) {fin : jM} (hf : f_X10_looksForEnds M l0 = some fin) (hO : jOk G M s H locs) (hl : lv_has ls 2 [(0, jR G l0)]) : W p l e R s m args below meth c H locs 0 0 (MQ below (jQ G none fin) args s 0 0 (jA G)) (F0 m 0 ls []) := by
  unfold f_X10_looksForEnds at hf
  refine lv_iconst (v := Int32.ofInt 1) C.1 C.2.1 dX10_looksForEnds_0 rfl ?_
  refine lv_istore_n (lv' := [(1, vI 1), (0, jR G l0)]) C.1 C.2.1 dX10_looksForEnds_1 rfl hl (by decide) rfl (fun ls hl => ?_)
  obtain ⟨x5, hx5, hf⟩ := bnd_e hf
  refine iter_e (P := fun Z => ∀ (H : Heap) (locs : List Loc) (ls : Array Slot), jOk G Z.1 s H locs → lv_has ls 2 [(0, jR G l0), (1, vI Z.2)] → W p l e R s m args below meth c H locs 0 0 (MQ below (jQ G none fin) args s 0 0 (jA G)) (F0 m 2 ls [])) (E := fun q => ∀ (H : Heap) (locs : List Loc) (ls : Array Slot), jOk G q s H locs → lv_has ls 2 [] → W p l e R s m args below meth c H locs 0 0 (MQ below (jQ G none fin) args s 0 0 (jA G)) (F0 m 26 ls [])) (fun Z rr hb kc kx H locs ls hO hl => w_X10_looksForEnds_L2 C hRf hRl M l0 h0 Z hb kc (fun q e => kx q e) hO hl) 5000 (M, 1) x5 hx5 ?_ _ _ _ hO (lv_sub hl [1, 0] rfl)
  clear hO hl
  intro H locs ls hO hl
  have hf := som_e hf
  subst hf
  exact j_vret C hO dX10_looksForEnds_26
set_option maxHeartbeats 1000000 in
theorem c_X10_looksForEnds (l : Launch) (G : jG)  (M : jM) (l0 : Int) (h0 : jkd l0 = (10, 0)) {fin : jM} (h : f_X10_looksForEnds M l0 = some fin) : Met l yX10_looksForEnds (Cond.code yX10_looksForEnds cX10_looksForEnds 2 none :: wsL_law) ({ frames := 4, cells := 0, slots := 0, locals := 87 } : Room) (va_Pc [jR G l0] (fun U => jRep G M U)) (jQ G none fin) 0 0 (jA G) := by
  refine Met.ofW (cc := cX10_looksForEnds) (maxL := 2) (ret := none) (by decide) rfl ?_
  intro p e s m args below meth c s₁ B hml hv
  obtain ⟨rfl, hR0⟩ := hv
  have C : jCx p s m ([jR G l0] : List Value).toArray meth c cX10_looksForEnds 2 RX10 (Cond.code yX10_looksForEnds cX10_looksForEnds 2 none) none := ⟨B.exec, B.bytes, hml, findClass_of_methodNamed B.named, atoms_spec B.pre, B.returns, B.notSynchronized⟩
  have hO := hR0.ok
  have hl := lv_entry ([jR G l0]) (n := 2) (Nat.le_of_ble_eq_true rfl)
  rw [lg_entry_eq]
  generalize (lg_sl ([jR G l0]) ++ List.replicate (2 - (lg_sl ([jR G l0])).length) Slot.unset).toArray = ls at hl ⊢
  have hl : lv_has ls 2 [(0, jR G l0)] := hl
  exact w_X10_looksForEnds C (Nat.le_refl _) (Nat.le_refl _) M l0 h0 h hO hl
set_option maxHeartbeats 4000000 in
theorem w_X10_throwsOn_L5 {p : Program} {l : Launch} {e : Env} {R : Room} {s : State} {m : MethodId} {args : Array Value} {below : List Frame} {meth : Method} {c : Code} {H : Heap} {locs : List Loc} {ls : Array Slot} {G : jG}  (C : jCx p s m args meth c cX10_throwsOn 11 RX10 (Cond.code yX10_throwsOn cX10_throwsOn 11 (some .long)) (some .long)) (hRf : 2 ≤ R.frames) (hRl : 42 ≤ R.locals)  (M : jM) (l0 l1 l2 l3 : Int) (h0 : jkd l0 = (10, 0)) {fin : Int × jM} (S : jM × Int) {rr : (jM × Int) ⊕ jM} (hf : f_X10_throwsOn_L5 M l0 l1 l2 l3 S = some rr) (kc : ∀ q : jM × Int, rr = .inl q → ∀ (H : Heap) (locs : List Loc) (ls : Array Slot), jOk G q.1 s H locs → lv_has ls 11 [(0, jR G l0), (1, vI l1), (2, vI l2), (3, vL l3), (5, vI q.2)] → W p l e R s m args below meth c H locs 0 0 (MQ below (jQ G (some (vL fin.1)) fin.2) args s 0 0 (jA G)) (F0 m 5 ls [])) (kx0 : ∀ q : jM, rr = .inr q → ∀ (H : Heap) (locs : List Loc) (ls : Array Slot), jOk G q s H locs → lv_has ls 11 [(0, jR G l0), (1, vI l1), (2, vI l2), (3, vL l3)] → W p l e R s m args below meth c H locs 0 0 (MQ below (jQ G (some (vL fin.1)) fin.2) args s 0 0 (jA G)) (F0 m 27 ls [])) (hO : jOk G S.1 s H locs) (hl : lv_has ls 11 [(0, jR G l0), (1, vI l1), (2, vI l2), (3, vL l3), (5, vI S.2)]) : W p l e R s m args below meth c H locs 0 0 (MQ below (jQ G (some (vL fin.1)) fin.2) args s 0 0 (jA G)) (F0 m 5 ls []) := by
  unfold f_X10_throwsOn_L5 at hf
  refine lv_iload C.1 C.2.1 dX10_throwsOn_5 (lv_at hl 4 rfl) ?_
  refine lv_sipush (v := Int32.ofInt 486) C.1 C.2.1 dX10_throwsOn_7 (by decide) ?_
  refine j_icmp_ge (tgt := 27) C rfl (w32_id (by decide) (by decide)) dX10_throwsOn_10 (by decide) (fun c1 => ?_) (fun c1 => ?_)
  · have hf := (if_pos c1).symm.trans hf
    exact kx0 _ (som_e hf).symm _ _ _ hO (lv_sub hl [0, 1, 2, 3] rfl)
  · have hf := (if_neg c1).symm.trans hf
    refine lv_aload_n C.1 C.2.1 dX10_throwsOn_13 rfl (lv_at hl 0 rfl) ?_
    obtain ⟨g2, hf⟩ := grd_e hf
    refine j_get C hO (ci := 10) (k := 16) (v := jN G (S.1 l0 16)) h0 rfl inlX10 (by decide) kF_6_6 rfl rfl dX10_throwsOn_14 ?_
    rw [jN_p (jkd_in g2 (by decide)).1]
    refine lv_iload C.1 C.2.1 dX10_throwsOn_17 (lv_at hl 4 rfl) ?_
    refine lv_lconst (v := Int64.ofInt 0) C.1 C.2.1 dX10_throwsOn_19 (by decide) ?_
    obtain ⟨g3, hf⟩ := grd_e hf
    obtain ⟨M4, hM4, hf⟩ := lt1_e hf
    refine j_last C hO (x := 0) g2 rfl g3.1 g3.2 dX10_throwsOn_20 (fun H locs hO => ?_)
    rw [← hM4] at hO
    refine lv_iinc (v := Int32.ofInt (S.2 + 1)) (lv' := [(5, vI (S.2 + 1)), (0, jR G l0), (1, vI l1), (2, vI l2), (3, vL l3)]) C.1 C.2.1 dX10_throwsOn_21 hl (k := 4) rfl (Int32.ofInt_add _ _).symm (by decide) rfl (fun ls hl => ?_)
    refine lv_goto (tgt := 5) C.1 C.2.1 dX10_throwsOn_24 (by decide) ?_
    exact kc _ (som_e hf).symm _ _ _ hO (lv_sub hl [1, 2, 3, 4, 0] rfl)
set_option maxHeartbeats 4000000 in
theorem w_X10_throwsOn_166 {p : Program} {l : Launch} {e : Env} {R : Room} {s : State} {m : MethodId} {args : Array Value} {below : List Frame} {meth : Method} {c : Code} {H : Heap} {locs : List Loc} {ls : Array Slot} {G : jG}  (C : jCx p s m args meth c cX10_throwsOn 11 RX10 (Cond.code yX10_throwsOn cX10_throwsOn 11 (some .long)) (some .long)) (hRf : 2 ≤ R.frames) (hRl : 42 ≤ R.locals)  (M : jM) (l0 l1 l2 l3 l5 l6 : Int) (h0 : jkd l0 = (10, 0)) {fin : Int × jM} {rr : (jM × Int × Int) ⊕ ((jM × Int))} (hf : f_X10_throwsOn_166 M l0 l1 l2 l3 l5 l6 = some rr) (kc : ∀ q : jM × Int × Int, rr = .inl q → ∀ (H : Heap) (locs : List Loc) (ls : Array Slot), jOk G q.1 s H locs → lv_has ls 11 [(0, jR G l0), (1, vI l1), (2, vI l2), (3, vL q.2.1), (5, vI l5), (6, vI q.2.2)] → W p l e R s m args below meth c H locs 0 0 (MQ below (jQ G (some (vL fin.1)) fin.2) args s 0 0 (jA G)) (F0 m 41 ls [])) (kx0 : ∀ q : jM × Int, rr = .inr q → ∀ (H : Heap) (locs : List Loc) (ls : Array Slot), jOk G q.1 s H locs → lv_has ls 11 [(0, jR G l0), (1, vI l1), (2, vI l2), (3, vL q.2), (5, vI l5)] → W p l e R s m args below meth c H locs 0 0 (MQ below (jQ G (some (vL fin.1)) fin.2) args s 0 0 (jA G)) (F0 m 172 ls [])) (hO : jOk G M s H locs) (hl : lv_has ls 11 [(0, jR G l0), (1, vI l1), (2, vI l2), (3, vL l3), (5, vI l5), (6, vI l6)]) : W p l e R s m args below meth c H locs 0 0 (MQ below (jQ G (some (vL fin.1)) fin.2) args s 0 0 (jA G)) (F0 m 166 ls []) := by
  unfold f_X10_throwsOn_166 at hf
  refine lv_iinc (v := Int32.ofInt (l6 + 1)) (lv' := [(6, vI (l6 + 1)), (0, jR G l0), (1, vI l1), (2, vI l2), (3, vL l3), (5, vI l5)]) C.1 C.2.1 dX10_throwsOn_166 hl (k := 5) rfl (Int32.ofInt_add _ _).symm (by decide) rfl (fun ls hl => ?_)
  refine lv_goto (tgt := 41) C.1 C.2.1 dX10_throwsOn_169 (by decide) ?_
  exact kc _ (som_e hf).symm _ _ _ hO (lv_sub hl [1, 2, 3, 4, 5, 0] rfl)
set_option maxHeartbeats 4000000 in
theorem w_X10_throwsOn_160 {p : Program} {l : Launch} {e : Env} {R : Room} {s : State} {m : MethodId} {args : Array Value} {below : List Frame} {meth : Method} {c : Code} {H : Heap} {locs : List Loc} {ls : Array Slot} {G : jG}  (C : jCx p s m args meth c cX10_throwsOn 11 RX10 (Cond.code yX10_throwsOn cX10_throwsOn 11 (some .long)) (some .long)) (hRf : 2 ≤ R.frames) (hRl : 42 ≤ R.locals)  (M : jM) (l0 l1 l2 l3 l5 l6 l8 s0 s1 : Int) (h0 : jkd l0 = (10, 0)) (g0 : jkd s0 = (12, 486)) {fin : Int × jM} {rr : (jM × Int × Int) ⊕ ((jM × Int))} (hf : f_X10_throwsOn_160 M l0 l1 l2 l3 l5 l6 l8 s0 s1 = some rr) (kc : ∀ q : jM × Int × Int, rr = .inl q → ∀ (H : Heap) (locs : List Loc) (ls : Array Slot), jOk G q.1 s H locs → lv_has ls 11 [(0, jR G l0), (1, vI l1), (2, vI l2), (3, vL q.2.1), (5, vI l5), (6, vI q.2.2)] → W p l e R s m args below meth c H locs 0 0 (MQ below (jQ G (some (vL fin.1)) fin.2) args s 0 0 (jA G)) (F0 m 41 ls [])) (kx0 : ∀ q : jM × Int, rr = .inr q → ∀ (H : Heap) (locs : List Loc) (ls : Array Slot), jOk G q.1 s H locs → lv_has ls 11 [(0, jR G l0), (1, vI l1), (2, vI l2), (3, vL q.2), (5, vI l5)] → W p l e R s m args below meth c H locs 0 0 (MQ below (jQ G (some (vL fin.1)) fin.2) args s 0 0 (jA G)) (F0 m 172 ls [])) (hO : jOk G M s H locs) (hl : lv_has ls 11 [(0, jR G l0), (1, vI l1), (2, vI l2), (3, vL l3), (5, vI l5), (6, vI l6), (8, vL l8)]) : W p l e R s m args below meth c H locs 0 0 (MQ below (jQ G (some (vL fin.1)) fin.2) args s 0 0 (jA G)) (F0 m 160 ls [vI s1, jR G s0]) := by
  unfold f_X10_throwsOn_160 at hf
  refine lv_dup2_11 C.1 C.2.1 dX10_throwsOn_160 rfl rfl ?_
  obtain ⟨g21, hf⟩ := grd_e hf
  refine j_lald C hO g0 rfl g21.1 g21.2 dX10_throwsOn_161 ?_
  refine lv_lload C.1 C.2.1 dX10_throwsOn_162 (lv_at hl 6 rfl) ?_
  refine j_ladd C dX10_throwsOn_164 ?_
  obtain ⟨g22, hf⟩ := grd_e hf
  obtain ⟨M23, hM23, hf⟩ := lt1_e hf
  refine j_last C hO (x := (M s0 (w32 s1)) + l8) g0 rfl g22.1 g22.2 dX10_throwsOn_165 (fun H locs hO => ?_)
  rw [← hM23] at hO
  exact w_X10_throwsOn_166 C hRf hRl M23 l0 l1 l2 l3 l5 l6 h0 hf kc kx0 hO (lv_sub hl [0, 1, 2, 3, 4, 5] rfl)
set_option maxHeartbeats 4000000 in
theorem w_X10_throwsOn_125 {p : Program} {l : Launch} {e : Env} {R : Room} {s : State} {m : MethodId} {args : Array Value} {below : List Frame} {meth : Method} {c : Code} {H : Heap} {locs : List Loc} {ls : Array Slot} {G : jG}  (C : jCx p s m args meth c cX10_throwsOn 11 RX10 (Cond.code yX10_throwsOn cX10_throwsOn 11 (some .long)) (some .long)) (hRf : 2 ≤ R.frames) (hRl : 42 ≤ R.locals)  (M : jM) (l0 l1 l2 l5 l6 l7 l8 l10 s0 s1 : Int) (h0 : jkd l0 = (10, 0)) {fin : Int × jM} {rr : (jM × Int × Int) ⊕ ((jM × Int))} (hf : f_X10_throwsOn_125 M l0 l1 l2 l5 l6 l7 l8 l10 s0 s1 = some rr) (kc : ∀ q : jM × Int × Int, rr = .inl q → ∀ (H : Heap) (locs : List Loc) (ls : Array Slot), jOk G q.1 s H locs → lv_has ls 11 [(0, jR G l0), (1, vI l1), (2, vI l2), (3, vL q.2.1), (5, vI l5), (6, vI q.2.2)] → W p l e R s m args below meth c H locs 0 0 (MQ below (jQ G (some (vL fin.1)) fin.2) args s 0 0 (jA G)) (F0 m 41 ls [])) (kx0 : ∀ q : jM × Int, rr = .inr q → ∀ (H : Heap) (locs : List Loc) (ls : Array Slot), jOk G q.1 s H locs → lv_has ls 11 [(0, jR G l0), (1, vI l1), (2, vI l2), (3, vL q.2), (5, vI l5)] → W p l e R s m args below meth c H locs 0 0 (MQ below (jQ G (some (vL fin.1)) fin.2) args s 0 0 (jA G)) (F0 m 172 ls [])) (hO : jOk G M s H locs) (hl : lv_has ls 11 [(0, jR G l0), (1, vI l1), (2, vI l2), (5, vI l5), (6, vI l6), (7, vI l7), (8, vL l8), (10, vI l10)]) : W p l e R s m args below meth c H locs 0 0 (MQ below (jQ G (some (vL fin.1)) fin.2) args s 0 0 (jA G)) (F0 m 125 ls [vL s1, vL s0]) := by
  unfold f_X10_throwsOn_125 at hf
  refine j_ladd C dX10_throwsOn_125 ?_
  refine lv_lstore_n (lv' := [(3, vL (s0 + s1)), (0, jR G l0), (1, vI l1), (2, vI l2), (5, vI l5), (6, vI l6), (7, vI l7), (8, vL l8), (10, vI l10)]) C.1 C.2.1 dX10_throwsOn_126 rfl hl (by decide) rfl (fun ls hl => ?_)
  refine lv_iload C.1 C.2.1 dX10_throwsOn_127 (lv_at hl 8 rfl) ?_
  refine lv_iconst (v := Int32.ofInt (-1)) C.1 C.2.1 dX10_throwsOn_129 rfl ?_
  refine j_icmp_ne (tgt := 166) C rfl (w32_id (by decide) (by decide)) dX10_throwsOn_130 (by decide) (fun c17 => ?_) (fun c17 => ?_)
  · have hf := (if_neg c17).symm.trans hf
    exact w_X10_throwsOn_166 C hRf hRl M l0 l1 l2 (s0 + s1) l5 l6 h0 hf kc kx0 hO (lv_sub hl [1, 2, 3, 0, 4, 5] rfl)
  · have hf := (if_pos c17).symm.trans hf
    refine lv_aload_n C.1 C.2.1 dX10_throwsOn_133 rfl (lv_at hl 1 rfl) ?_
    obtain ⟨g18, hf⟩ := grd_e hf
    refine j_get C hO (ci := 10) (k := 16) (v := jN G (M l0 16)) h0 rfl inlX10 (by decide) kF_6_6 rfl rfl dX10_throwsOn_134 ?_
    rw [jN_p (jkd_in g18 (by decide)).1]
    refine lv_iload C.1 C.2.1 dX10_throwsOn_137 (lv_at hl 6 rfl) ?_
    refine lv_sipush (v := Int32.ofInt 486) C.1 C.2.1 dX10_throwsOn_139 (by decide) ?_
    refine j_icmp_ge (tgt := 150) C rfl (w32_id (by decide) (by decide)) dX10_throwsOn_142 (by decide) (fun c19 => ?_) (fun c19 => ?_)
    · have hf := (if_pos c19).symm.trans hf
      refine lv_sipush (v := Int32.ofInt 243) C.1 C.2.1 dX10_throwsOn_150 (by decide) ?_
      refine lv_iload C.1 C.2.1 dX10_throwsOn_153 (lv_at hl 6 rfl) ?_
      refine lv_sipush (v := Int32.ofInt 243) C.1 C.2.1 dX10_throwsOn_155 (by decide) ?_
      obtain ⟨g20, hf⟩ := grd_e hf
      refine j_irem C g20 dX10_throwsOn_158 ?_
      refine j_iadd C dX10_throwsOn_159 ?_
      exact w_X10_throwsOn_160 C hRf hRl M l0 l1 l2 (s0 + s1) l5 l6 l8 (M l0 16) (243 + ((w32 l7).tmod (w32 243))) h0 g18 hf kc kx0 hO (lv_sub hl [1, 2, 3, 0, 4, 5, 7] rfl)
    · have hf := (if_neg c19).symm.trans hf
      refine lv_iload C.1 C.2.1 dX10_throwsOn_145 (lv_at hl 6 rfl) ?_
      refine lv_goto (tgt := 160) C.1 C.2.1 dX10_throwsOn_147 (by decide) ?_
      exact w_X10_throwsOn_160 C hRf hRl M l0 l1 l2 (s0 + s1) l5 l6 l8 (M l0 16) l7 h0 g18 hf kc kx0 hO (lv_sub hl [1, 2, 3, 0, 4, 5, 7] rfl)
set_option maxHeartbeats 4000000 in
theorem w_X10_throwsOn_124 {p : Program} {l : Launch} {e : Env} {R : Room} {s : State} {m : MethodId} {args : Array Value} {below : List Frame} {meth : Method} {c : Code} {H : Heap} {locs : List Loc} {ls : Array Slot} {G : jG}  (C : jCx p s m args meth c cX10_throwsOn 11 RX10 (Cond.code yX10_throwsOn cX10_throwsOn 11 (some .long)) (some .long)) (hRf : 2 ≤ R.frames) (hRl : 42 ≤ R.locals)  (M : jM) (l0 l1 l2 l5 l6 l7 l8 l10 s0 : Int) (h0 : jkd l0 = (10, 0)) {fin : Int × jM} {rr : (jM × Int × Int) ⊕ ((jM × Int))} (hf : f_X10_throwsOn_124 M l0 l1 l2 l5 l6 l7 l8 l10 s0 = some rr) (kc : ∀ q : jM × Int × Int, rr = .inl q → ∀ (H : Heap) (locs : List Loc) (ls : Array Slot), jOk G q.1 s H locs → lv_has ls 11 [(0, jR G l0), (1, vI l1), (2, vI l2), (3, vL q.2.1), (5, vI l5), (6, vI q.2.2)] → W p l e R s m args below meth c H locs 0 0 (MQ below (jQ G (some (vL fin.1)) fin.2) args s 0 0 (jA G)) (F0 m 41 ls [])) (kx0 : ∀ q : jM × Int, rr = .inr q → ∀ (H : Heap) (locs : List Loc) (ls : Array Slot), jOk G q.1 s H locs → lv_has ls 11 [(0, jR G l0), (1, vI l1), (2, vI l2), (3, vL q.2), (5, vI l5)] → W p l e R s m args below meth c H locs 0 0 (MQ below (jQ G (some (vL fin.1)) fin.2) args s 0 0 (jA G)) (F0 m 172 ls [])) (hO : jOk G M s H locs) (hl : lv_has ls 11 [(0, jR G l0), (1, vI l1), (2, vI l2), (5, vI l5), (6, vI l6), (7, vI l7), (8, vL l8), (10, vI l10)]) : W p l e R s m args below meth c H locs 0 0 (MQ below (jQ G (some (vL fin.1)) fin.2) args s 0 0 (jA G)) (F0 m 124 ls [vL s0]) := by
  unfold f_X10_throwsOn_124 at hf
  refine lv_lconst (v := Int64.ofInt 0) C.1 C.2.1 dX10_throwsOn_124 (by decide) ?_
  exact w_X10_throwsOn_125 C hRf hRl M l0 l1 l2 l5 l6 l7 l8 l10 s0 0 h0 hf kc kx0 hO (lv_sub hl [0, 1, 2, 3, 4, 5, 6, 7] rfl)
set_option maxHeartbeats 4000000 in
theorem w_X10_throwsOn_93 {p : Program} {l : Launch} {e : Env} {R : Room} {s : State} {m : MethodId} {args : Array Value} {below : List Frame} {meth : Method} {c : Code} {H : Heap} {locs : List Loc} {ls : Array Slot} {G : jG}  (C : jCx p s m args meth c cX10_throwsOn 11 RX10 (Cond.code yX10_throwsOn cX10_throwsOn 11 (some .long)) (some .long)) (hRf : 2 ≤ R.frames) (hRl : 42 ≤ R.locals)  (M : jM) (l0 l1 l2 l3 l5 l6 l7 s0 s1 : Int) (h0 : jkd l0 = (10, 0)) {fin : Int × jM} {rr : (jM × Int × Int) ⊕ ((jM × Int))} (hf : f_X10_throwsOn_93 M l0 l1 l2 l3 l5 l6 l7 s0 s1 = some rr) (kc : ∀ q : jM × Int × Int, rr = .inl q → ∀ (H : Heap) (locs : List Loc) (ls : Array Slot), jOk G q.1 s H locs → lv_has ls 11 [(0, jR G l0), (1, vI l1), (2, vI l2), (3, vL q.2.1), (5, vI l5), (6, vI q.2.2)] → W p l e R s m args below meth c H locs 0 0 (MQ below (jQ G (some (vL fin.1)) fin.2) args s 0 0 (jA G)) (F0 m 41 ls [])) (kx0 : ∀ q : jM × Int, rr = .inr q → ∀ (H : Heap) (locs : List Loc) (ls : Array Slot), jOk G q.1 s H locs → lv_has ls 11 [(0, jR G l0), (1, vI l1), (2, vI l2), (3, vL q.2), (5, vI l5)] → W p l e R s m args below meth c H locs 0 0 (MQ below (jQ G (some (vL fin.1)) fin.2) args s 0 0 (jA G)) (F0 m 172 ls [])) (hO : jOk G M s H locs) (hl : lv_has ls 11 [(0, jR G l0), (1, vI l1), (2, vI l2), (3, vL l3), (5, vI l5), (6, vI l6), (7, vI l7)]) : W p l e R s m args below meth c H locs 0 0 (MQ below (jQ G (some (vL fin.1)) fin.2) args s 0 0 (jA G)) (F0 m 93 ls [vI s1, vL s0]) := by
  unfold f_X10_throwsOn_93 at hf
  refine j_i2l C dX10_throwsOn_93 ?_
  refine j_lmul C dX10_throwsOn_94 ?_
  refine lv_lstore (lv' := [(8, vL (s0 * (w32 s1))), (0, jR G l0), (1, vI l1), (2, vI l2), (3, vL l3), (5, vI l5), (6, vI l6), (7, vI l7)]) C.1 C.2.1 dX10_throwsOn_95 hl (by decide) rfl (fun ls hl => ?_)
  refine lv_aload_n C.1 C.2.1 dX10_throwsOn_97 rfl (lv_at hl 1 rfl) ?_
  refine j_get C hO (ci := 10) (k := 17) (v := jR G (jpt l0 17)) h0 rfl inlX10 (by decide) kF_6_7 rfl rfl dX10_throwsOn_98 ?_
  refine lv_iload C.1 C.2.1 dX10_throwsOn_101 (lv_at hl 7 rfl) ?_
  obtain ⟨g15, hf⟩ := grd_e hf
  refine j_iald C hO (tp_10_17 h0) rfl g15.1 g15.2 dX10_throwsOn_103 ?_
  refine lv_istore (lv' := [(10, vI (M (jpt l0 17) (w32 l7))), (8, vL (s0 * (w32 s1))), (0, jR G l0), (1, vI l1), (2, vI l2), (3, vL l3), (5, vI l5), (6, vI l6), (7, vI l7)]) C.1 C.2.1 dX10_throwsOn_104 hl (by decide) rfl (fun ls hl => ?_)
  refine lv_lload_n C.1 C.2.1 dX10_throwsOn_106 rfl (lv_at hl 5 rfl) ?_
  refine lv_iload C.1 C.2.1 dX10_throwsOn_107 (lv_at hl 0 rfl) ?_
  refine lv_iconst (v := Int32.ofInt (-1)) C.1 C.2.1 dX10_throwsOn_109 rfl ?_
  refine j_icmp_eq (tgt := 124) C rfl (w32_id (by decide) (by decide)) dX10_throwsOn_110 (by decide) (fun c16 => ?_) (fun c16 => ?_)
  · have hf := (if_pos c16).symm.trans hf
    exact w_X10_throwsOn_124 C hRf hRl M l0 l1 l2 l5 l6 l7 (s0 * (w32 s1)) (M (jpt l0 17) (w32 l7)) l3 h0 hf kc kx0 hO (lv_sub hl [2, 3, 4, 6, 7, 8, 1, 0] rfl)
  · have hf := (if_neg c16).symm.trans hf
    refine lv_iload C.1 C.2.1 dX10_throwsOn_113 (lv_at hl 0 rfl) ?_
    refine lv_iload_n C.1 C.2.1 dX10_throwsOn_115 rfl (lv_at hl 3 rfl) ?_
    refine j_icmp_ne (tgt := 124) C rfl rfl dX10_throwsOn_116 (by decide) (fun c24 => ?_) (fun c24 => ?_)
    · have hf := (if_neg c24).symm.trans hf
      exact w_X10_throwsOn_124 C hRf hRl M l0 l1 l2 l5 l6 l7 (s0 * (w32 s1)) (M (jpt l0 17) (w32 l7)) l3 h0 hf kc kx0 hO (lv_sub hl [2, 3, 4, 6, 7, 8, 1, 0] rfl)
    · have hf := (if_pos c24).symm.trans hf
      refine lv_lload C.1 C.2.1 dX10_throwsOn_119 (lv_at hl 1 rfl) ?_
      refine lv_goto (tgt := 125) C.1 C.2.1 dX10_throwsOn_121 (by decide) ?_
      exact w_X10_throwsOn_125 C hRf hRl M l0 l1 l2 l5 l6 l7 (s0 * (w32 s1)) (M (jpt l0 17) (w32 l7)) l3 (s0 * (w32 s1)) h0 hf kc kx0 hO (lv_sub hl [2, 3, 4, 6, 7, 8, 1, 0] rfl)
set_option maxHeartbeats 4000000 in
theorem w_X10_throwsOn_L41 {p : Program} {l : Launch} {e : Env} {R : Room} {s : State} {m : MethodId} {args : Array Value} {below : List Frame} {meth : Method} {c : Code} {H : Heap} {locs : List Loc} {ls : Array Slot} {G : jG}  (C : jCx p s m args meth c cX10_throwsOn 11 RX10 (Cond.code yX10_throwsOn cX10_throwsOn 11 (some .long)) (some .long)) (hRf : 2 ≤ R.frames) (hRl : 42 ≤ R.locals)  (M : jM) (l0 l1 l2 l5 : Int) (h0 : jkd l0 = (10, 0)) {fin : Int × jM} (S : jM × Int × Int) {rr : (jM × Int × Int) ⊕ ((jM × Int))} (hf : f_X10_throwsOn_L41 M l0 l1 l2 l5 S = some rr) (kc : ∀ q : jM × Int × Int, rr = .inl q → ∀ (H : Heap) (locs : List Loc) (ls : Array Slot), jOk G q.1 s H locs → lv_has ls 11 [(0, jR G l0), (1, vI l1), (2, vI l2), (3, vL q.2.1), (5, vI l5), (6, vI q.2.2)] → W p l e R s m args below meth c H locs 0 0 (MQ below (jQ G (some (vL fin.1)) fin.2) args s 0 0 (jA G)) (F0 m 41 ls [])) (kx0 : ∀ q : jM × Int, rr = .inr q → ∀ (H : Heap) (locs : List Loc) (ls : Array Slot), jOk G q.1 s H locs → lv_has ls 11 [(0, jR G l0), (1, vI l1), (2, vI l2), (3, vL q.2), (5, vI l5)] → W p l e R s m args below meth c H locs 0 0 (MQ below (jQ G (some (vL fin.1)) fin.2) args s 0 0 (jA G)) (F0 m 172 ls [])) (hO : jOk G S.1 s H locs) (hl : lv_has ls 11 [(0, jR G l0), (1, vI l1), (2, vI l2), (3, vL S.2.1), (5, vI l5), (6, vI S.2.2)]) : W p l e R s m args below meth c H locs 0 0 (MQ below (jQ G (some (vL fin.1)) fin.2) args s 0 0 (jA G)) (F0 m 41 ls []) := by
  unfold f_X10_throwsOn_L41 at hf
  refine lv_iload C.1 C.2.1 dX10_throwsOn_41 (lv_at hl 5 rfl) ?_
  refine lv_aload_n C.1 C.2.1 dX10_throwsOn_43 rfl (lv_at hl 0 rfl) ?_
  obtain ⟨r7, hr7, hf⟩ := bnd_e hf
  refine j_callV C hO (n := 0) (As := []) (st1 := [vI r7, vI S.2.2]) (c_X10_signs l G S.1 l0 h0 hr7) h0 rfl kC_16_17 kM_16_14 kI_16_15 kS_16_16 kN_1_5 ⟨by decide, by decide, by decide⟩ ⟨Nat.le_trans (by decide) hRf, Nat.le_trans (by decide) hRl⟩ rfl rfl rfl hl.1 rfl (Nat.le_of_ble_eq_true rfl) ⟨Nat.zero_le _, Nat.zero_le _⟩ dX10_throwsOn_44 rfl (fun H locs hO => ?_)
  refine j_icmp_ge (tgt := 172) C rfl rfl dX10_throwsOn_47 (by decide) (fun c8 => ?_) (fun c8 => ?_)
  · have hf := (if_pos c8).symm.trans hf
    exact kx0 _ (som_e hf).symm _ _ _ hO (lv_sub hl [0, 1, 2, 3, 4] rfl)
  · have hf := (if_neg c8).symm.trans hf
    refine lv_aload_n C.1 C.2.1 dX10_throwsOn_50 rfl (lv_at hl 0 rfl) ?_
    obtain ⟨g9, hf⟩ := grd_e hf
    refine j_get C hO (ci := 10) (k := 15) (v := jN G (S.1 l0 15)) h0 rfl inlX10 (by decide) kF_6_5 rfl rfl dX10_throwsOn_51 ?_
    rw [jN_p (jkd_in g9 (by decide)).1]
    refine lv_iload C.1 C.2.1 dX10_throwsOn_54 (lv_at hl 4 rfl) ?_
    obtain ⟨g10, hf⟩ := grd_e hf
    refine j_lald C hO g9 rfl g10.1 g10.2 dX10_throwsOn_56 ?_
    refine lv_lconst (v := Int64.ofInt 0) C.1 C.2.1 dX10_throwsOn_57 (by decide) ?_
    refine j_lcmp_le (tgt := 172) C rfl (w64_id (by decide) (by decide)) dX10_throwsOn_58 dX10_throwsOn_59 (by decide) (fun c11 => ?_) (fun c11 => ?_)
    · have hf := (if_pos c11).symm.trans hf
      exact kx0 _ (som_e hf).symm _ _ _ hO (lv_sub hl [0, 1, 2, 3, 4] rfl)
    · have hf := (if_neg c11).symm.trans hf
      refine lv_iconst (v := Int32.ofInt 3) C.1 C.2.1 dX10_throwsOn_62 rfl ?_
      refine lv_iload C.1 C.2.1 dX10_throwsOn_63 (lv_at hl 4 rfl) ?_
      refine j_imul C dX10_throwsOn_65 ?_
      refine lv_iload C.1 C.2.1 dX10_throwsOn_66 (lv_at hl 5 rfl) ?_
      refine j_iadd C dX10_throwsOn_68 ?_
      refine lv_istore (lv' := [(7, vI ((3 * l5) + S.2.2)), (0, jR G l0), (1, vI l1), (2, vI l2), (3, vL S.2.1), (5, vI l5), (6, vI S.2.2)]) C.1 C.2.1 dX10_throwsOn_69 hl (by decide) rfl (fun ls hl => ?_)
      refine lv_aload_n C.1 C.2.1 dX10_throwsOn_71 rfl (lv_at hl 1 rfl) ?_
      obtain ⟨g12, hf⟩ := grd_e hf
      refine j_get C hO (ci := 10) (k := 15) (v := jN G (S.1 l0 15)) h0 rfl inlX10 (by decide) kF_6_5 rfl rfl dX10_throwsOn_72 ?_
      rw [jN_p (jkd_in g12 (by decide)).1]
      refine lv_iload C.1 C.2.1 dX10_throwsOn_75 (lv_at hl 5 rfl) ?_
      obtain ⟨g13, hf⟩ := grd_e hf
      refine j_lald C hO g12 rfl g13.1 g13.2 dX10_throwsOn_77 ?_
      refine lv_iload_n C.1 C.2.1 dX10_throwsOn_78 rfl (lv_at hl 3 rfl) ?_
      refine j_if_eq (tgt := 92) C rfl dX10_throwsOn_79 (by decide) (fun c14 => ?_) (fun c14 => ?_)
      · have hf := (if_pos c14).symm.trans hf
        refine lv_iconst (v := Int32.ofInt 1) C.1 C.2.1 dX10_throwsOn_92 rfl ?_
        exact w_X10_throwsOn_93 C hRf hRl S.1 l0 l1 l2 S.2.1 l5 S.2.2 ((3 * l5) + S.2.2) (S.1 (S.1 l0 15) (w32 l5)) 1 h0 hf kc kx0 hO (lv_sub hl [1, 2, 3, 4, 5, 6, 0] rfl)
      · have hf := (if_neg c14).symm.trans hf
        refine lv_aload_n C.1 C.2.1 dX10_throwsOn_82 rfl (lv_at hl 1 rfl) ?_
        refine j_get C hO (ci := 10) (k := 11) (v := jR G (jpt l0 11)) h0 rfl inlX10 (by decide) kF_6_4 rfl rfl dX10_throwsOn_83 ?_
        refine lv_iload C.1 C.2.1 dX10_throwsOn_86 (lv_at hl 6 rfl) ?_
        obtain ⟨g25, hf⟩ := grd_e hf
        refine j_iald C hO (tp_10_11 h0) rfl g25.1 g25.2 dX10_throwsOn_88 ?_
        refine lv_goto (tgt := 93) C.1 C.2.1 dX10_throwsOn_89 (by decide) ?_
        exact w_X10_throwsOn_93 C hRf hRl S.1 l0 l1 l2 S.2.1 l5 S.2.2 ((3 * l5) + S.2.2) (S.1 (S.1 l0 15) (w32 l5)) (S.1 (jpt l0 11) (w32 S.2.2)) h0 hf kc kx0 hO (lv_sub hl [1, 2, 3, 4, 5, 6, 0] rfl)
set_option maxHeartbeats 4000000 in
theorem w_X10_throwsOn_L30 {p : Program} {l : Launch} {e : Env} {R : Room} {s : State} {m : MethodId} {args : Array Value} {below : List Frame} {meth : Method} {c : Code} {H : Heap} {locs : List Loc} {ls : Array Slot} {G : jG}  (C : jCx p s m args meth c cX10_throwsOn 11 RX10 (Cond.code yX10_throwsOn cX10_throwsOn 11 (some .long)) (some .long)) (hRf : 2 ≤ R.frames) (hRl : 42 ≤ R.locals)  (M : jM) (l0 l1 l2 : Int) (h0 : jkd l0 = (10, 0)) {fin : Int × jM} (S : jM × Int × Int) {rr : (jM × Int × Int) ⊕ ((jM × Int))} (hf : f_X10_throwsOn_L30 M l0 l1 l2 S = some rr) (kc : ∀ q : jM × Int × Int, rr = .inl q → ∀ (H : Heap) (locs : List Loc) (ls : Array Slot), jOk G q.1 s H locs → lv_has ls 11 [(0, jR G l0), (1, vI l1), (2, vI l2), (3, vL q.2.1), (5, vI q.2.2)] → W p l e R s m args below meth c H locs 0 0 (MQ below (jQ G (some (vL fin.1)) fin.2) args s 0 0 (jA G)) (F0 m 30 ls [])) (kx0 : ∀ q : jM × Int, rr = .inr q → ∀ (H : Heap) (locs : List Loc) (ls : Array Slot), jOk G q.1 s H locs → lv_has ls 11 [(0, jR G l0), (3, vL q.2)] → W p l e R s m args below meth c H locs 0 0 (MQ below (jQ G (some (vL fin.1)) fin.2) args s 0 0 (jA G)) (F0 m 178 ls [])) (hO : jOk G S.1 s H locs) (hl : lv_has ls 11 [(0, jR G l0), (1, vI l1), (2, vI l2), (3, vL S.2.1), (5, vI S.2.2)]) : W p l e R s m args below meth c H locs 0 0 (MQ below (jQ G (some (vL fin.1)) fin.2) args s 0 0 (jA G)) (F0 m 30 ls []) := by
  unfold f_X10_throwsOn_L30 at hf
  refine lv_iload C.1 C.2.1 dX10_throwsOn_30 (lv_at hl 4 rfl) ?_
  refine lv_sipush (v := Int32.ofInt 486) C.1 C.2.1 dX10_throwsOn_32 (by decide) ?_
  refine j_icmp_ge (tgt := 178) C rfl (w32_id (by decide) (by decide)) dX10_throwsOn_35 (by decide) (fun c6 => ?_) (fun c6 => ?_)
  · have hf := (if_pos c6).symm.trans hf
    exact kx0 _ (som_e hf).symm _ _ _ hO (lv_sub hl [0, 3] rfl)
  · have hf := (if_neg c6).symm.trans hf
    refine lv_iconst (v := Int32.ofInt 0) C.1 C.2.1 dX10_throwsOn_38 rfl ?_
    refine lv_istore (lv' := [(6, vI 0), (0, jR G l0), (1, vI l1), (2, vI l2), (3, vL S.2.1), (5, vI S.2.2)]) C.1 C.2.1 dX10_throwsOn_39 hl (by decide) rfl (fun ls hl => ?_)
    obtain ⟨x26, hx26, hf⟩ := bnd_e hf
    refine iter_e (P := fun Z => ∀ (H : Heap) (locs : List Loc) (ls : Array Slot), jOk G Z.1 s H locs → lv_has ls 11 [(0, jR G l0), (1, vI l1), (2, vI l2), (3, vL Z.2.1), (5, vI S.2.2), (6, vI Z.2.2)] → W p l e R s m args below meth c H locs 0 0 (MQ below (jQ G (some (vL fin.1)) fin.2) args s 0 0 (jA G)) (F0 m 41 ls [])) (E := fun q => ∀ (H : Heap) (locs : List Loc) (ls : Array Slot), jOk G q.1 s H locs → lv_has ls 11 [(0, jR G l0), (1, vI l1), (2, vI l2), (3, vL q.2), (5, vI S.2.2)] → W p l e R s m args below meth c H locs 0 0 (MQ below (jQ G (some (vL fin.1)) fin.2) args s 0 0 (jA G)) (F0 m 172 ls [])) (fun Z rr hb kc kx H locs ls hO hl => w_X10_throwsOn_L41 C hRf hRl S.1 l0 l1 l2 S.2.2 h0 Z hb kc (fun q e => kx q e) hO hl) 5000 (S.1, S.2.1, 0) x26 hx26 ?_ _ _ _ hO (lv_sub hl [1, 2, 3, 4, 5, 0] rfl)
    clear hO hl
    intro H locs ls hO hl
    refine lv_iinc (v := Int32.ofInt (S.2.2 + 1)) (lv' := [(5, vI (S.2.2 + 1)), (0, jR G l0), (1, vI l1), (2, vI l2), (3, vL x26.2)]) C.1 C.2.1 dX10_throwsOn_172 hl (k := 4) rfl (Int32.ofInt_add _ _).symm (by decide) rfl (fun ls hl => ?_)
    refine lv_goto (tgt := 30) C.1 C.2.1 dX10_throwsOn_175 (by decide) ?_
    exact kc _ (som_e hf).symm _ _ _ hO (lv_sub hl [1, 2, 3, 4, 0] rfl)
set_option maxHeartbeats 4000000 in
theorem w_X10_throwsOn {p : Program} {l : Launch} {e : Env} {R : Room} {s : State} {m : MethodId} {args : Array Value} {below : List Frame} {meth : Method} {c : Code} {H : Heap} {locs : List Loc} {ls : Array Slot} {G : jG}  (C : jCx p s m args meth c cX10_throwsOn 11 RX10 (Cond.code yX10_throwsOn cX10_throwsOn 11 (some .long)) (some .long)) (hRf : 2 ≤ R.frames) (hRl : 42 ≤ R.locals)  (M : jM) (l0 l1 l2 : Int) (h0 : jkd l0 = (10, 0)) {fin : Int × jM} (hf : f_X10_throwsOn M l0 l1 l2 = some fin) (hO : jOk G M s H locs) (hl : lv_has ls 11 [(0, jR G l0), (1, vI l1), (2, vI l2)]) : W p l e R s m args below meth c H locs 0 0 (MQ below (jQ G (some (vL fin.1)) fin.2) args s 0 0 (jA G)) (F0 m 0 ls []) := by
  unfold f_X10_throwsOn at hf
  refine lv_lconst (v := Int64.ofInt 0) C.1 C.2.1 dX10_throwsOn_0 (by decide) ?_
  refine lv_lstore_n (lv' := [(3, vL 0), (0, jR G l0), (1, vI l1), (2, vI l2)]) C.1 C.2.1 dX10_throwsOn_1 rfl hl (by decide) rfl (fun ls hl => ?_)
  refine lv_iconst (v := Int32.ofInt 0) C.1 C.2.1 dX10_throwsOn_2 rfl ?_
  refine lv_istore (lv' := [(5, vI 0), (3, vL 0), (0, jR G l0), (1, vI l1), (2, vI l2)]) C.1 C.2.1 dX10_throwsOn_3 hl (by decide) rfl (fun ls hl => ?_)
  obtain ⟨x5, hx5, hf⟩ := bnd_e hf
  refine iter_e (P := fun Z => ∀ (H : Heap) (locs : List Loc) (ls : Array Slot), jOk G Z.1 s H locs → lv_has ls 11 [(0, jR G l0), (1, vI l1), (2, vI l2), (3, vL 0), (5, vI Z.2)] → W p l e R s m args below meth c H locs 0 0 (MQ below (jQ G (some (vL fin.1)) fin.2) args s 0 0 (jA G)) (F0 m 5 ls [])) (E := fun q => ∀ (H : Heap) (locs : List Loc) (ls : Array Slot), jOk G q s H locs → lv_has ls 11 [(0, jR G l0), (1, vI l1), (2, vI l2), (3, vL 0)] → W p l e R s m args below meth c H locs 0 0 (MQ below (jQ G (some (vL fin.1)) fin.2) args s 0 0 (jA G)) (F0 m 27 ls [])) (fun Z rr hb kc kx H locs ls hO hl => w_X10_throwsOn_L5 C hRf hRl M l0 l1 l2 0 h0 Z hb kc (fun q e => kx q e) hO hl) 5000 (M, 0) x5 hx5 ?_ _ _ _ hO (lv_sub hl [2, 3, 4, 1, 0] rfl)
  clear hO hl
  intro H locs ls hO hl
  refine lv_iconst (v := Int32.ofInt 1) C.1 C.2.1 dX10_throwsOn_27 rfl ?_
  refine lv_istore (lv' := [(5, vI 1), (0, jR G l0), (1, vI l1), (2, vI l2), (3, vL 0)]) C.1 C.2.1 dX10_throwsOn_28 hl (by decide) rfl (fun ls hl => ?_)
  obtain ⟨x27, hx27, hf⟩ := bnd_e hf
  refine iter_e (P := fun Z => ∀ (H : Heap) (locs : List Loc) (ls : Array Slot), jOk G Z.1 s H locs → lv_has ls 11 [(0, jR G l0), (1, vI l1), (2, vI l2), (3, vL Z.2.1), (5, vI Z.2.2)] → W p l e R s m args below meth c H locs 0 0 (MQ below (jQ G (some (vL fin.1)) fin.2) args s 0 0 (jA G)) (F0 m 30 ls [])) (E := fun q => ∀ (H : Heap) (locs : List Loc) (ls : Array Slot), jOk G q.1 s H locs → lv_has ls 11 [(0, jR G l0), (3, vL q.2)] → W p l e R s m args below meth c H locs 0 0 (MQ below (jQ G (some (vL fin.1)) fin.2) args s 0 0 (jA G)) (F0 m 178 ls [])) (fun Z rr hb kc kx H locs ls hO hl => w_X10_throwsOn_L30 C hRf hRl x5 l0 l1 l2 h0 Z hb kc (fun q e => kx q e) hO hl) 5000 (x5, 0, 1) x27 hx27 ?_ _ _ _ hO (lv_sub hl [1, 2, 3, 4, 0] rfl)
  clear hO hl
  intro H locs ls hO hl
  refine lv_aload_n C.1 C.2.1 dX10_throwsOn_178 rfl (lv_at hl 0 rfl) ?_
  obtain ⟨g28, hf⟩ := grd_e hf
  refine j_get C hO (ci := 10) (k := 15) (v := jN G (x27.1 l0 15)) h0 rfl inlX10 (by decide) kF_6_5 rfl rfl dX10_throwsOn_179 ?_
  rw [jN_p (jkd_in g28 (by decide)).1]
  refine lv_astore (lv' := [(5, jR G (x27.1 l0 15)), (0, jR G l0), (3, vL x27.2)]) C.1 C.2.1 dX10_throwsOn_182 hl (by decide) rfl (fun ls hl => ?_)
  refine lv_aload_n C.1 C.2.1 dX10_throwsOn_184 rfl (lv_at hl 1 rfl) ?_
  refine lv_aload_n C.1 C.2.1 dX10_throwsOn_185 rfl (lv_at hl 1 rfl) ?_
  obtain ⟨g29, hf⟩ := grd_e hf
  refine j_get C hO (ci := 10) (k := 16) (v := jN G (x27.1 l0 16)) h0 rfl inlX10 (by decide) kF_6_6 rfl rfl dX10_throwsOn_186 ?_
  rw [jN_p (jkd_in g29 (by decide)).1]
  obtain ⟨M30, hM30, hf⟩ := lt1_e hf
  refine j_put C hO (ci := 10) (k := 15) (x := x27.1 l0 16) h0 rfl inlX10 tyX10_ok nmX10 (by decide) kF_6_5 rfl rfl rfl rfl (by simp [jfl]) (fs_10_15 (jkd_in g29 (by decide)).1) dX10_throwsOn_189 (fun H locs hO => ?_)
  rw [← hM30] at hO
  refine lv_aload_n C.1 C.2.1 dX10_throwsOn_192 rfl (lv_at hl 1 rfl) ?_
  refine lv_aload C.1 C.2.1 dX10_throwsOn_193 (lv_at hl 0 rfl) ?_
  obtain ⟨M31, hM31, hf⟩ := lt1_e hf
  refine j_put C hO (ci := 10) (k := 16) (x := x27.1 l0 15) h0 rfl inlX10 tyX10_ok nmX10 (by decide) kF_6_6 rfl rfl rfl rfl (by simp [jfl]) (fs_10_16 (jkd_in g28 (by decide)).1) dX10_throwsOn_195 (fun H locs hO => ?_)
  rw [← hM31] at hO
  refine lv_lload_n C.1 C.2.1 dX10_throwsOn_198 rfl (lv_at hl 2 rfl) ?_
  have hf := som_e hf
  subst hf
  exact j_lret C hO dX10_throwsOn_199
set_option maxHeartbeats 1000000 in
theorem c_X10_throwsOn (l : Launch) (G : jG)  (M : jM) (l0 l1 l2 : Int) (h0 : jkd l0 = (10, 0)) {fin : Int × jM} (h : f_X10_throwsOn M l0 l1 l2 = some fin) : Met l yX10_throwsOn (Cond.code yX10_throwsOn cX10_throwsOn 11 (some .long) :: wsL_law) ({ frames := 2, cells := 0, slots := 0, locals := 42 } : Room) (va_Pc [jR G l0, vI l1, vI l2] (fun U => jRep G M U)) (jQ G (some (vL fin.1)) fin.2) 0 0 (jA G) := by
  refine Met.ofW (cc := cX10_throwsOn) (maxL := 11) (ret := (some .long)) (by decide) rfl ?_
  intro p e s m args below meth c s₁ B hml hv
  obtain ⟨rfl, hR0⟩ := hv
  have C : jCx p s m ([jR G l0, vI l1, vI l2] : List Value).toArray meth c cX10_throwsOn 11 RX10 (Cond.code yX10_throwsOn cX10_throwsOn 11 (some .long)) (some .long) := ⟨B.exec, B.bytes, hml, findClass_of_methodNamed B.named, atoms_spec B.pre, B.returns, B.notSynchronized⟩
  have hO := hR0.ok
  have hl := lv_entry ([jR G l0, vI l1, vI l2]) (n := 11) (Nat.le_of_ble_eq_true rfl)
  rw [lg_entry_eq]
  generalize (lg_sl ([jR G l0, vI l1, vI l2]) ++ List.replicate (11 - (lg_sl ([jR G l0, vI l1, vI l2])).length) Slot.unset).toArray = ls at hl ⊢
  have hl : lv_has ls 11 [(0, jR G l0), (1, vI l1), (2, vI l2)] := hl
  exact w_X10_throwsOn C (Nat.le_refl _) (Nat.le_refl _) M l0 l1 l2 h0 h hO hl
set_option maxHeartbeats 4000000 in
theorem w_X10_beginsThrows_32 {p : Program} {l : Launch} {e : Env} {R : Room} {s : State} {m : MethodId} {args : Array Value} {below : List Frame} {meth : Method} {c : Code} {H : Heap} {locs : List Loc} {ls : Array Slot} {G : jG}  (C : jCx p s m args meth c cX10_beginsThrows 2 RX10 (Cond.code yX10_beginsThrows cX10_beginsThrows 2 none) none) (hRf : 5 ≤ R.frames) (hRl : 108 ≤ R.locals)  (M : jM) (l0 l1 s0 s1 s2 : Int) (h0 : jkd l0 = (10, 0)) (g0 : jkd s0 = (12, 486)) {fin : jM} {rr : (jM × Int) ⊕ jM} (hf : f_X10_beginsThrows_32 M l0 l1 s0 s1 s2 = some rr) (kc : ∀ q : jM × Int, rr = .inl q → ∀ (H : Heap) (locs : List Loc) (ls : Array Slot), jOk G q.1 s H locs → lv_has ls 2 [(0, jR G l0), (1, vI q.2)] → W p l e R s m args below meth c H locs 0 0 (MQ below (jQ G none fin) args s 0 0 (jA G)) (F0 m 10 ls [])) (kx0 : ∀ q : jM, rr = .inr q → ∀ (H : Heap) (locs : List Loc) (ls : Array Slot), jOk G q s H locs → lv_has ls 2 [] → W p l e R s m args below meth c H locs 0 0 (MQ below (jQ G none fin) args s 0 0 (jA G)) (F0 m 39 ls [])) (hO : jOk G M s H locs) (hl : lv_has ls 2 [(0, jR G l0), (1, vI l1)]) : W p l e R s m args below meth c H locs 0 0 (MQ below (jQ G none fin) args s 0 0 (jA G)) (F0 m 32 ls [vL s2, vI s1, jR G s0]) := by
  unfold f_X10_beginsThrows_32 at hf
  obtain ⟨g6, hf⟩ := grd_e hf
  obtain ⟨M7, hM7, hf⟩ := lt1_e hf
  refine j_last C hO (x := s2) g0 rfl g6.1 g6.2 dX10_beginsThrows_32 (fun H locs hO => ?_)
  rw [← hM7] at hO
  refine lv_iinc (v := Int32.ofInt (l1 + 1)) (lv' := [(1, vI (l1 + 1)), (0, jR G l0)]) C.1 C.2.1 dX10_beginsThrows_33 hl (k := 1) rfl (Int32.ofInt_add _ _).symm (by decide) rfl (fun ls hl => ?_)
  refine lv_goto (tgt := 10) C.1 C.2.1 dX10_beginsThrows_36 (by decide) ?_
  exact kc _ (som_e hf).symm _ _ _ hO (lv_sub hl [1, 0] rfl)
set_option maxHeartbeats 4000000 in
theorem w_X10_beginsThrows_L10 {p : Program} {l : Launch} {e : Env} {R : Room} {s : State} {m : MethodId} {args : Array Value} {below : List Frame} {meth : Method} {c : Code} {H : Heap} {locs : List Loc} {ls : Array Slot} {G : jG}  (C : jCx p s m args meth c cX10_beginsThrows 2 RX10 (Cond.code yX10_beginsThrows cX10_beginsThrows 2 none) none) (hRf : 5 ≤ R.frames) (hRl : 108 ≤ R.locals)  (M : jM) (l0 : Int) (h0 : jkd l0 = (10, 0)) {fin : jM} (S : jM × Int) {rr : (jM × Int) ⊕ jM} (hf : f_X10_beginsThrows_L10 M l0 S = some rr) (kc : ∀ q : jM × Int, rr = .inl q → ∀ (H : Heap) (locs : List Loc) (ls : Array Slot), jOk G q.1 s H locs → lv_has ls 2 [(0, jR G l0), (1, vI q.2)] → W p l e R s m args below meth c H locs 0 0 (MQ below (jQ G none fin) args s 0 0 (jA G)) (F0 m 10 ls [])) (kx0 : ∀ q : jM, rr = .inr q → ∀ (H : Heap) (locs : List Loc) (ls : Array Slot), jOk G q s H locs → lv_has ls 2 [] → W p l e R s m args below meth c H locs 0 0 (MQ below (jQ G none fin) args s 0 0 (jA G)) (F0 m 39 ls [])) (hO : jOk G S.1 s H locs) (hl : lv_has ls 2 [(0, jR G l0), (1, vI S.2)]) : W p l e R s m args below meth c H locs 0 0 (MQ below (jQ G none fin) args s 0 0 (jA G)) (F0 m 10 ls []) := by
  unfold f_X10_beginsThrows_L10 at hf
  refine lv_iload_n C.1 C.2.1 dX10_beginsThrows_10 rfl (lv_at hl 1 rfl) ?_
  refine lv_sipush (v := Int32.ofInt 486) C.1 C.2.1 dX10_beginsThrows_11 (by decide) ?_
  refine j_icmp_ge (tgt := 39) C rfl (w32_id (by decide) (by decide)) dX10_beginsThrows_14 (by decide) (fun c3 => ?_) (fun c3 => ?_)
  · have hf := (if_pos c3).symm.trans hf
    exact kx0 _ (som_e hf).symm _ _ _ hO (lv_sub hl [] rfl)
  · have hf := (if_neg c3).symm.trans hf
    refine lv_aload_n C.1 C.2.1 dX10_beginsThrows_17 rfl (lv_at hl 0 rfl) ?_
    obtain ⟨g4, hf⟩ := grd_e hf
    refine j_get C hO (ci := 10) (k := 15) (v := jN G (S.1 l0 15)) h0 rfl inlX10 (by decide) kF_6_5 rfl rfl dX10_beginsThrows_18 ?_
    rw [jN_p (jkd_in g4 (by decide)).1]
    refine lv_iload_n C.1 C.2.1 dX10_beginsThrows_21 rfl (lv_at hl 1 rfl) ?_
    refine lv_iload_n C.1 C.2.1 dX10_beginsThrows_22 rfl (lv_at hl 1 rfl) ?_
    refine lv_iconst (v := Int32.ofInt 1) C.1 C.2.1 dX10_beginsThrows_23 rfl ?_
    refine j_icmp_ne (tgt := 31) C rfl (w32_id (by decide) (by decide)) dX10_beginsThrows_24 (by decide) (fun c5 => ?_) (fun c5 => ?_)
    · have hf := (if_neg c5).symm.trans hf
      refine lv_lconst (v := Int64.ofInt 0) C.1 C.2.1 dX10_beginsThrows_31 (by decide) ?_
      exact w_X10_beginsThrows_32 C hRf hRl S.1 l0 S.2 (S.1 l0 15) S.2 0 h0 g4 hf kc kx0 hO (lv_sub hl [0, 1] rfl)
    · have hf := (if_pos c5).symm.trans hf
      refine lv_lconst (v := Int64.ofInt 1) C.1 C.2.1 dX10_beginsThrows_27 (by decide) ?_
      refine lv_goto (tgt := 32) C.1 C.2.1 dX10_beginsThrows_28 (by decide) ?_
      exact w_X10_beginsThrows_32 C hRf hRl S.1 l0 S.2 (S.1 l0 15) S.2 1 h0 g4 hf kc kx0 hO (lv_sub hl [0, 1] rfl)
set_option maxHeartbeats 4000000 in
theorem w_X10_beginsThrows {p : Program} {l : Launch} {e : Env} {R : Room} {s : State} {m : MethodId} {args : Array Value} {below : List Frame} {meth : Method} {c : Code} {H : Heap} {locs : List Loc} {ls : Array Slot} {G : jG}  (C : jCx p s m args meth c cX10_beginsThrows 2 RX10 (Cond.code yX10_beginsThrows cX10_beginsThrows 2 none) none) (hRf : 5 ≤ R.frames) (hRl : 108 ≤ R.locals)  (M : jM) (l0 : Int) (h0 : jkd l0 = (10, 0)) {fin : jM} (hf : f_X10_beginsThrows M l0 = some fin) (hO : jOk G M s H locs) (hl : lv_has ls 2 [(0, jR G l0)]) : W p l e R s m args below meth c H locs 0 0 (MQ below (jQ G none fin) args s 0 0 (jA G)) (F0 m 0 ls []) := by
  unfold f_X10_beginsThrows at hf
  refine lv_aload_n C.1 C.2.1 dX10_beginsThrows_0 rfl (lv_at hl 0 rfl) ?_
  obtain ⟨r1, hr1, hf⟩ := bnd_e hf
  refine j_callV C hO (n := 0) (As := []) (st1 := []) (c_X10_looksForWeights l G M l0 h0 hr1) h0 rfl kC_16_13 kM_16_10 kI_16_11 kS_16_12 kN_1_5 ⟨by decide, by decide, by decide⟩ ⟨Nat.le_trans (by decide) hRf, Nat.le_trans (by decide) hRl⟩ rfl rfl rfl hl.1 rfl (Nat.le_of_ble_eq_true rfl) ⟨Nat.zero_le _, Nat.zero_le _⟩ dX10_beginsThrows_1 rfl (fun H locs hO => ?_)
  refine lv_aload_n C.1 C.2.1 dX10_beginsThrows_4 rfl (lv_at hl 0 rfl) ?_
  obtain ⟨r2, hr2, hf⟩ := bnd_e hf
  refine j_callV C hO (n := 0) (As := []) (st1 := []) (c_X10_looksForEnds l G r1 l0 h0 hr2) h0 rfl kC_36_11 kM_36_8 kI_36_9 kS_36_10 kN_1_5 ⟨by decide, by decide, by decide⟩ ⟨Nat.le_trans (by decide) hRf, Nat.le_trans (by decide) hRl⟩ rfl rfl rfl hl.1 rfl (Nat.le_of_ble_eq_true rfl) ⟨Nat.zero_le _, Nat.zero_le _⟩ dX10_beginsThrows_5 rfl (fun H locs hO => ?_)
  refine lv_iconst (v := Int32.ofInt 0) C.1 C.2.1 dX10_beginsThrows_8 rfl ?_
  refine lv_istore_n (lv' := [(1, vI 0), (0, jR G l0)]) C.1 C.2.1 dX10_beginsThrows_9 rfl hl (by decide) rfl (fun ls hl => ?_)
  obtain ⟨x8, hx8, hf⟩ := bnd_e hf
  refine iter_e (P := fun Z => ∀ (H : Heap) (locs : List Loc) (ls : Array Slot), jOk G Z.1 s H locs → lv_has ls 2 [(0, jR G l0), (1, vI Z.2)] → W p l e R s m args below meth c H locs 0 0 (MQ below (jQ G none fin) args s 0 0 (jA G)) (F0 m 10 ls [])) (E := fun q => ∀ (H : Heap) (locs : List Loc) (ls : Array Slot), jOk G q s H locs → lv_has ls 2 [] → W p l e R s m args below meth c H locs 0 0 (MQ below (jQ G none fin) args s 0 0 (jA G)) (F0 m 39 ls [])) (fun Z rr hb kc kx H locs ls hO hl => w_X10_beginsThrows_L10 C hRf hRl r2 l0 h0 Z hb kc (fun q e => kx q e) hO hl) 5000 (r2, 0) x8 hx8 ?_ _ _ _ hO (lv_sub hl [1, 0] rfl)
  clear hO hl
  intro H locs ls hO hl
  have hf := som_e hf
  subst hf
  exact j_vret C hO dX10_beginsThrows_39
set_option maxHeartbeats 1000000 in
theorem c_X10_beginsThrows (l : Launch) (G : jG)  (M : jM) (l0 : Int) (h0 : jkd l0 = (10, 0)) {fin : jM} (h : f_X10_beginsThrows M l0 = some fin) : Met l yX10_beginsThrows (Cond.code yX10_beginsThrows cX10_beginsThrows 2 none :: wsL_law) ({ frames := 5, cells := 0, slots := 0, locals := 108 } : Room) (va_Pc [jR G l0] (fun U => jRep G M U)) (jQ G none fin) 0 0 (jA G) := by
  refine Met.ofW (cc := cX10_beginsThrows) (maxL := 2) (ret := none) (by decide) rfl ?_
  intro p e s m args below meth c s₁ B hml hv
  obtain ⟨rfl, hR0⟩ := hv
  have C : jCx p s m ([jR G l0] : List Value).toArray meth c cX10_beginsThrows 2 RX10 (Cond.code yX10_beginsThrows cX10_beginsThrows 2 none) none := ⟨B.exec, B.bytes, hml, findClass_of_methodNamed B.named, atoms_spec B.pre, B.returns, B.notSynchronized⟩
  have hO := hR0.ok
  have hl := lv_entry ([jR G l0]) (n := 2) (Nat.le_of_ble_eq_true rfl)
  rw [lg_entry_eq]
  generalize (lg_sl ([jR G l0]) ++ List.replicate (2 - (lg_sl ([jR G l0])).length) Slot.unset).toArray = ls at hl ⊢
  have hl : lv_has ls 2 [(0, jR G l0)] := hl
  exact w_X10_beginsThrows C (Nat.le_refl _) (Nat.le_refl _) M l0 h0 h hO hl
set_option maxHeartbeats 4000000 in
theorem w_X10_within_L52 {p : Program} {l : Launch} {e : Env} {R : Room} {s : State} {m : MethodId} {args : Array Value} {below : List Frame} {meth : Method} {c : Code} {H : Heap} {locs : List Loc} {ls : Array Slot} {G : jG}  (C : jCx p s m args meth c cX10_within 9 RX10 (Cond.code yX10_within cX10_within 9 (some .long)) (some .long)) (hRf : 6 ≤ R.frames) (hRl : 129 ≤ R.locals)  (M : jM) (l0 l1 l2 l3 : Int) (h0 : jkd l0 = (10, 0)) {fin : Int × jM} (S : jM × Int × Int × Int) {rr : (jM × Int × Int × Int) ⊕ ((jM × Int × Int))} (hf : f_X10_within_L52 M l0 l1 l2 l3 S = some rr) (kc : ∀ q : jM × Int × Int × Int, rr = .inl q → ∀ (H : Heap) (locs : List Loc) (ls : Array Slot), jOk G q.1 s H locs → lv_has ls 9 [(0, jR G l0), (1, vI l1), (2, vI l2), (3, vI l3), (4, vL q.2.1), (6, vL q.2.2.1), (8, vI q.2.2.2)] → W p l e R s m args below meth c H locs 0 0 (MQ below (jQ G (some (vL fin.1)) fin.2) args s 0 0 (jA G)) (F0 m 52 ls [])) (kx0 : ∀ q : jM × Int × Int, rr = .inr q → ∀ (H : Heap) (locs : List Loc) (ls : Array Slot), jOk G q.1 s H locs → lv_has ls 9 [(3, vI l3), (4, vL q.2.1), (6, vL q.2.2)] → W p l e R s m args below meth c H locs 0 0 (MQ below (jQ G (some (vL fin.1)) fin.2) args s 0 0 (jA G)) (F0 m 91 ls [])) (hO : jOk G S.1 s H locs) (hl : lv_has ls 9 [(0, jR G l0), (1, vI l1), (2, vI l2), (3, vI l3), (4, vL S.2.1), (6, vL S.2.2.1), (8, vI S.2.2.2)]) : W p l e R s m args below meth c H locs 0 0 (MQ below (jQ G (some (vL fin.1)) fin.2) args s 0 0 (jA G)) (F0 m 52 ls []) := by
  unfold f_X10_within_L52 at hf
  refine lv_iload C.1 C.2.1 dX10_within_52 (lv_at hl 6 rfl) ?_
  refine lv_iload_n C.1 C.2.1 dX10_within_54 rfl (lv_at hl 2 rfl) ?_
  refine j_icmp_ge (tgt := 91) C rfl rfl dX10_within_55 (by decide) (fun c10 => ?_) (fun c10 => ?_)
  · have hf := (if_pos c10).symm.trans hf
    exact kx0 _ (som_e hf).symm _ _ _ hO (lv_sub hl [3, 4, 5] rfl)
  · have hf := (if_neg c10).symm.trans hf
    refine lv_lload C.1 C.2.1 dX10_within_58 (lv_at hl 4 rfl) ?_
    refine lv_aload_n C.1 C.2.1 dX10_within_60 rfl (lv_at hl 0 rfl) ?_
    refine j_get C hO (ci := 10) (k := 12) (v := vI (S.1 l0 12)) h0 rfl inlX10 (by decide) kF_16_9 rfl rfl dX10_within_61 ?_
    refine j_i2l C dX10_within_64 ?_
    refine j_lmul C dX10_within_65 ?_
    refine lv_aload_n C.1 C.2.1 dX10_within_66 rfl (lv_at hl 0 rfl) ?_
    refine lv_iload_n C.1 C.2.1 dX10_within_67 rfl (lv_at hl 1 rfl) ?_
    refine lv_iconst (v := Int32.ofInt 1) C.1 C.2.1 dX10_within_68 rfl ?_
    obtain ⟨r11, hr11, hf⟩ := bnd_e hf
    refine j_callV C hO (n := 2) (As := [vI l1, vI 1]) (st1 := [vL r11.1, vL (S.2.1 * (w32 (S.1 l0 12)))]) (c_X10_throwsOn l G S.1 l0 l1 1 h0 hr11) h0 rfl kC_37_2 kM_36_23 kI_37_0 kS_37_1 kN_1_5 ⟨by decide, by decide, by decide⟩ ⟨Nat.le_trans (by decide) hRf, Nat.le_trans (by decide) hRl⟩ rfl rfl rfl hl.1 rfl (Nat.le_of_ble_eq_true rfl) ⟨Nat.zero_le _, Nat.zero_le _⟩ dX10_within_69 rfl (fun H locs hO => ?_)
    refine j_ladd C dX10_within_72 ?_
    refine lv_lstore (lv' := [(4, vL ((S.2.1 * (w32 (S.1 l0 12))) + r11.1)), (0, jR G l0), (1, vI l1), (2, vI l2), (3, vI l3), (6, vL S.2.2.1), (8, vI S.2.2.2)]) C.1 C.2.1 dX10_within_73 hl (by decide) rfl (fun ls hl => ?_)
    refine lv_lload C.1 C.2.1 dX10_within_75 (lv_at hl 5 rfl) ?_
    refine lv_aload_n C.1 C.2.1 dX10_within_77 rfl (lv_at hl 1 rfl) ?_
    refine j_get C hO (ci := 10) (k := 12) (v := vI (r11.2 l0 12)) h0 rfl inlX10 (by decide) kF_16_9 rfl rfl dX10_within_78 ?_
    refine j_i2l C dX10_within_81 ?_
    refine j_lmul C dX10_within_82 ?_
    refine lv_lstore (lv' := [(6, vL (S.2.2.1 * (w32 (r11.2 l0 12)))), (4, vL ((S.2.1 * (w32 (S.1 l0 12))) + r11.1)), (0, jR G l0), (1, vI l1), (2, vI l2), (3, vI l3), (8, vI S.2.2.2)]) C.1 C.2.1 dX10_within_83 hl (by decide) rfl (fun ls hl => ?_)
    refine lv_iinc (v := Int32.ofInt (S.2.2.2 + 1)) (lv' := [(8, vI (S.2.2.2 + 1)), (6, vL (S.2.2.1 * (w32 (r11.2 l0 12)))), (4, vL ((S.2.1 * (w32 (S.1 l0 12))) + r11.1)), (0, jR G l0), (1, vI l1), (2, vI l2), (3, vI l3)]) C.1 C.2.1 dX10_within_85 hl (k := 6) rfl (Int32.ofInt_add _ _).symm (by decide) rfl (fun ls hl => ?_)
    refine lv_goto (tgt := 52) C.1 C.2.1 dX10_within_88 (by decide) ?_
    exact kc _ (som_e hf).symm _ _ _ hO (lv_sub hl [3, 4, 5, 6, 2, 1, 0] rfl)
set_option maxHeartbeats 4000000 in
theorem w_X10_within {p : Program} {l : Launch} {e : Env} {R : Room} {s : State} {m : MethodId} {args : Array Value} {below : List Frame} {meth : Method} {c : Code} {H : Heap} {locs : List Loc} {ls : Array Slot} {G : jG}  (C : jCx p s m args meth c cX10_within 9 RX10 (Cond.code yX10_within cX10_within 9 (some .long)) (some .long)) (hRf : 6 ≤ R.frames) (hRl : 129 ≤ R.locals)  (M : jM) (l0 l1 l2 l3 : Int) (h0 : jkd l0 = (10, 0)) {fin : Int × jM} (hf : f_X10_within M l0 l1 l2 l3 = some fin) (hO : jOk G M s H locs) (hl : lv_has ls 9 [(0, jR G l0), (1, vI l1), (2, vI l2), (3, vI l3)]) : W p l e R s m args below meth c H locs 0 0 (MQ below (jQ G (some (vL fin.1)) fin.2) args s 0 0 (jA G)) (F0 m 0 ls []) := by
  unfold f_X10_within at hf
  refine lv_aload_n C.1 C.2.1 dX10_within_0 rfl (lv_at hl 0 rfl) ?_
  refine lv_iload_n C.1 C.2.1 dX10_within_1 rfl (lv_at hl 1 rfl) ?_
  obtain ⟨r1, hr1, hf⟩ := bnd_e hf
  refine j_callV C hO (n := 1) (As := [vI l1]) (st1 := [vI r1]) (c_X10_isRow l G M l0 l1 h0 hr1) h0 rfl kC_19_14 kM_19_11 kI_19_12 kS_19_13 kN_1_5 ⟨by decide, by decide, by decide⟩ ⟨Nat.le_trans (by decide) hRf, Nat.le_trans (by decide) hRl⟩ rfl rfl rfl hl.1 rfl (Nat.le_of_ble_eq_true rfl) ⟨Nat.zero_le _, Nat.zero_le _⟩ dX10_within_2 rfl (fun H locs hO => ?_)
  refine j_if_eq (tgt := 35) C rfl dX10_within_5 (by decide) (fun c2 => ?_) (fun c2 => ?_)
  · have hf := (if_pos c2).symm.trans hf
    refine j_ldc2 (x := (-9223372036854775808)) C kL_22_23 (by decide) dX10_within_35 ?_
    have hf := som_e hf
    subst hf
    exact j_lret C hO dX10_within_38
  · have hf := (if_neg c2).symm.trans hf
    refine lv_aload_n C.1 C.2.1 dX10_within_8 rfl (lv_at hl 0 rfl) ?_
    refine lv_iload_n C.1 C.2.1 dX10_within_9 rfl (lv_at hl 1 rfl) ?_
    obtain ⟨r3, hr3, hf⟩ := bnd_e hf
    refine j_callV C hO (n := 1) (As := [vI l1]) (st1 := [vI r3]) (c_X10_isLawful l G M l0 l1 h0 hr3) h0 rfl kC_23_3 kM_23_0 kI_23_1 kS_23_2 kN_1_5 ⟨by decide, by decide, by decide⟩ ⟨Nat.le_trans (by decide) hRf, Nat.le_trans (by decide) hRl⟩ rfl rfl rfl hl.1 rfl (Nat.le_of_ble_eq_true rfl) ⟨Nat.zero_le _, Nat.zero_le _⟩ dX10_within_10 rfl (fun H locs hO => ?_)
    refine j_if_eq (tgt := 35) C rfl dX10_within_13 (by decide) (fun c4 => ?_) (fun c4 => ?_)
    · have hf := (if_pos c4).symm.trans hf
      refine j_ldc2 (x := (-9223372036854775808)) C kL_22_23 (by decide) dX10_within_35 ?_
      have hf := som_e hf
      subst hf
      exact j_lret C hO dX10_within_38
    · have hf := (if_neg c4).symm.trans hf
      refine lv_iload_n C.1 C.2.1 dX10_within_16 rfl (lv_at hl 2 rfl) ?_
      refine lv_iconst (v := Int32.ofInt 0) C.1 C.2.1 dX10_within_17 rfl ?_
      refine lv_bipush (v := Int32.ofInt 15) C.1 C.2.1 dX10_within_18 (by decide) ?_
      obtain ⟨r5, hr5, hf⟩ := bnd_e hf
      refine j_callS C hO (n := 3) (As := [vI l2, vI 0, vI 15]) (st1 := [vI r5]) (c_X10_in l G M l2 0 15  hr5) kC_7_1 kM_6_23 kT_7_0 kN_1_5 ⟨by decide, by decide, by decide⟩ ⟨Nat.le_trans (by decide) hRf, Nat.le_trans (by decide) hRl⟩ rfl rfl rfl hl.1 rfl (Nat.le_of_ble_eq_true rfl) ⟨Nat.zero_le _, Nat.zero_le _⟩ dX10_within_20 rfl (fun H locs hO => ?_)
      refine j_if_eq (tgt := 35) C rfl dX10_within_23 (by decide) (fun c6 => ?_) (fun c6 => ?_)
      · have hf := (if_pos c6).symm.trans hf
        refine j_ldc2 (x := (-9223372036854775808)) C kL_22_23 (by decide) dX10_within_35 ?_
        have hf := som_e hf
        subst hf
        exact j_lret C hO dX10_within_38
      · have hf := (if_neg c6).symm.trans hf
        refine lv_iload_n C.1 C.2.1 dX10_within_26 rfl (lv_at hl 3 rfl) ?_
        refine lv_iconst (v := Int32.ofInt 0) C.1 C.2.1 dX10_within_27 rfl ?_
        refine lv_iconst (v := Int32.ofInt 1) C.1 C.2.1 dX10_within_28 rfl ?_
        obtain ⟨r7, hr7, hf⟩ := bnd_e hf
        refine j_callS C hO (n := 3) (As := [vI l3, vI 0, vI 1]) (st1 := [vI r7]) (c_X10_in l G M l3 0 1  hr7) kC_7_1 kM_6_23 kT_7_0 kN_1_5 ⟨by decide, by decide, by decide⟩ ⟨Nat.le_trans (by decide) hRf, Nat.le_trans (by decide) hRl⟩ rfl rfl rfl hl.1 rfl (Nat.le_of_ble_eq_true rfl) ⟨Nat.zero_le _, Nat.zero_le _⟩ dX10_within_29 rfl (fun H locs hO => ?_)
        refine j_if_ne (tgt := 39) C rfl dX10_within_32 (by decide) (fun c8 => ?_) (fun c8 => ?_)
        · have hf := (if_neg c8).symm.trans hf
          refine lv_aload_n C.1 C.2.1 dX10_within_39 rfl (lv_at hl 0 rfl) ?_
          obtain ⟨r9, hr9, hf⟩ := bnd_e hf
          refine j_callV C hO (n := 0) (As := []) (st1 := []) (c_X10_beginsThrows l G M l0 h0 hr9) h0 rfl kC_36_7 kM_36_4 kI_36_5 kS_36_6 kN_1_5 ⟨by decide, by decide, by decide⟩ ⟨Nat.le_trans (by decide) hRf, Nat.le_trans (by decide) hRl⟩ rfl rfl rfl hl.1 rfl (Nat.le_of_ble_eq_true rfl) ⟨Nat.zero_le _, Nat.zero_le _⟩ dX10_within_40 rfl (fun H locs hO => ?_)
          refine lv_lconst (v := Int64.ofInt 0) C.1 C.2.1 dX10_within_43 (by decide) ?_
          refine lv_lstore (lv' := [(4, vL 0), (0, jR G l0), (1, vI l1), (2, vI l2), (3, vI l3)]) C.1 C.2.1 dX10_within_44 hl (by decide) rfl (fun ls hl => ?_)
          refine lv_lconst (v := Int64.ofInt 1) C.1 C.2.1 dX10_within_46 (by decide) ?_
          refine lv_lstore (lv' := [(6, vL 1), (4, vL 0), (0, jR G l0), (1, vI l1), (2, vI l2), (3, vI l3)]) C.1 C.2.1 dX10_within_47 hl (by decide) rfl (fun ls hl => ?_)
          refine lv_iconst (v := Int32.ofInt 0) C.1 C.2.1 dX10_within_49 rfl ?_
          refine lv_istore (lv' := [(8, vI 0), (6, vL 1), (4, vL 0), (0, jR G l0), (1, vI l1), (2, vI l2), (3, vI l3)]) C.1 C.2.1 dX10_within_50 hl (by decide) rfl (fun ls hl => ?_)
          obtain ⟨x12, hx12, hf⟩ := bnd_e hf
          refine iter_e (P := fun Z => ∀ (H : Heap) (locs : List Loc) (ls : Array Slot), jOk G Z.1 s H locs → lv_has ls 9 [(0, jR G l0), (1, vI l1), (2, vI l2), (3, vI l3), (4, vL Z.2.1), (6, vL Z.2.2.1), (8, vI Z.2.2.2)] → W p l e R s m args below meth c H locs 0 0 (MQ below (jQ G (some (vL fin.1)) fin.2) args s 0 0 (jA G)) (F0 m 52 ls [])) (E := fun q => ∀ (H : Heap) (locs : List Loc) (ls : Array Slot), jOk G q.1 s H locs → lv_has ls 9 [(3, vI l3), (4, vL q.2.1), (6, vL q.2.2)] → W p l e R s m args below meth c H locs 0 0 (MQ below (jQ G (some (vL fin.1)) fin.2) args s 0 0 (jA G)) (F0 m 91 ls [])) (fun Z rr hb kc kx H locs ls hO hl => w_X10_within_L52 C hRf hRl r9 l0 l1 l2 l3 h0 Z hb kc (fun q e => kx q e) hO hl) 5000 (r9, 0, 1, 0) x12 hx12 ?_ _ _ _ hO (lv_sub hl [3, 4, 5, 6, 2, 1, 0] rfl)
          clear hO hl
          intro H locs ls hO hl
          refine lv_lload C.1 C.2.1 dX10_within_91 (lv_at hl 1 rfl) ?_
          refine lv_lload C.1 C.2.1 dX10_within_93 (lv_at hl 2 rfl) ?_
          refine lv_iload_n C.1 C.2.1 dX10_within_95 rfl (lv_at hl 0 rfl) ?_
          obtain ⟨r13, hr13, hf⟩ := bnd_e hf
          refine j_callS C hO (n := 3) (As := [vL x12.2.1, vL x12.2.2, vI l3]) (st1 := [vL r13]) (c_X10_lowest l G x12.1 x12.2.1 x12.2.2 l3  hr13) kC_23_22 kM_23_20 kT_23_21 kN_1_5 ⟨by decide, by decide, by decide⟩ ⟨Nat.le_trans (by decide) hRf, Nat.le_trans (by decide) hRl⟩ rfl rfl rfl hl.1 rfl (Nat.le_of_ble_eq_true rfl) ⟨Nat.zero_le _, Nat.zero_le _⟩ dX10_within_96 rfl (fun H locs hO => ?_)
          have hf := som_e hf
          subst hf
          exact j_lret C hO dX10_within_99
        · have hf := (if_pos c8).symm.trans hf
          refine j_ldc2 (x := (-9223372036854775808)) C kL_22_23 (by decide) dX10_within_35 ?_
          have hf := som_e hf
          subst hf
          exact j_lret C hO dX10_within_38
set_option maxHeartbeats 1000000 in
theorem c_X10_within (l : Launch) (G : jG)  (M : jM) (l0 l1 l2 l3 : Int) (h0 : jkd l0 = (10, 0)) {fin : Int × jM} (h : f_X10_within M l0 l1 l2 l3 = some fin) : Met l yX10_within (Cond.code yX10_within cX10_within 9 (some .long) :: wsL_law) ({ frames := 6, cells := 0, slots := 0, locals := 129 } : Room) (va_Pc [jR G l0, vI l1, vI l2, vI l3] (fun U => jRep G M U)) (jQ G (some (vL fin.1)) fin.2) 0 0 (jA G) := by
  refine Met.ofW (cc := cX10_within) (maxL := 9) (ret := (some .long)) (by decide) rfl ?_
  intro p e s m args below meth c s₁ B hml hv
  obtain ⟨rfl, hR0⟩ := hv
  have C : jCx p s m ([jR G l0, vI l1, vI l2, vI l3] : List Value).toArray meth c cX10_within 9 RX10 (Cond.code yX10_within cX10_within 9 (some .long)) (some .long) := ⟨B.exec, B.bytes, hml, findClass_of_methodNamed B.named, atoms_spec B.pre, B.returns, B.notSynchronized⟩
  have hO := hR0.ok
  have hl := lv_entry ([jR G l0, vI l1, vI l2, vI l3]) (n := 9) (Nat.le_of_ble_eq_true rfl)
  rw [lg_entry_eq]
  generalize (lg_sl ([jR G l0, vI l1, vI l2, vI l3]) ++ List.replicate (9 - (lg_sl ([jR G l0, vI l1, vI l2, vI l3])).length) Slot.unset).toArray = ls at hl ⊢
  have hl : lv_has ls 9 [(0, jR G l0), (1, vI l1), (2, vI l2), (3, vI l3)] := hl
  exact w_X10_within C (Nat.le_refl _) (Nat.le_refl _) M l0 l1 l2 l3 h0 h hO hl
set_option maxHeartbeats 4000000 in
theorem w_X10_often_L49 {p : Program} {l : Launch} {e : Env} {R : Room} {s : State} {m : MethodId} {args : Array Value} {below : List Frame} {meth : Method} {c : Code} {H : Heap} {locs : List Loc} {ls : Array Slot} {G : jG}  (C : jCx p s m args meth c cX10_often 7 RX10 (Cond.code yX10_often cX10_often 7 (some .long)) (some .long)) (hRf : 4 ≤ R.frames) (hRl : 93 ≤ R.locals)  (M : jM) (l0 l1 l2 l3 : Int) (h0 : jkd l0 = (10, 0)) {fin : Int × jM} (S : Int × Int) {rr : (Int × Int) ⊕ Int} (hf : f_X10_often_L49 M l0 l1 l2 l3 S = some rr) (kc : ∀ q : Int × Int, rr = .inl q → ∀ (H : Heap) (locs : List Loc) (ls : Array Slot), jOk G M s H locs → lv_has ls 7 [(0, jR G l0), (1, vI l1), (2, vI l2), (3, vI l3), (4, vL q.1), (6, vI q.2)] → W p l e R s m args below meth c H locs 0 0 (MQ below (jQ G (some (vL fin.1)) fin.2) args s 0 0 (jA G)) (F0 m 49 ls [])) (kx0 : ∀ q : Int, rr = .inr q → ∀ (H : Heap) (locs : List Loc) (ls : Array Slot), jOk G M s H locs → lv_has ls 7 [(0, jR G l0), (1, vI l1), (2, vI l2), (3, vI l3), (4, vL q)] → W p l e R s m args below meth c H locs 0 0 (MQ below (jQ G (some (vL fin.1)) fin.2) args s 0 0 (jA G)) (F0 m 79 ls [])) (hO : jOk G M s H locs) (hl : lv_has ls 7 [(0, jR G l0), (1, vI l1), (2, vI l2), (3, vI l3), (4, vL S.1), (6, vI S.2)]) : W p l e R s m args below meth c H locs 0 0 (MQ below (jQ G (some (vL fin.1)) fin.2) args s 0 0 (jA G)) (F0 m 49 ls []) := by
  unfold f_X10_often_L49 at hf
  refine lv_iload C.1 C.2.1 dX10_often_49 (lv_at hl 5 rfl) ?_
  refine lv_aload_n C.1 C.2.1 dX10_often_51 rfl (lv_at hl 0 rfl) ?_
  refine j_get C hO (ci := 10) (k := 1) (v := jR G (jpt l0 1)) h0 rfl inlX10 (by decide) kF_5_23 rfl rfl dX10_often_52 ?_
  refine lv_bipush (v := Int32.ofInt 58) C.1 C.2.1 dX10_often_55 (by decide) ?_
  refine lv_iload_n C.1 C.2.1 dX10_often_57 rfl (lv_at hl 1 rfl) ?_
  refine j_iadd C dX10_often_58 ?_
  obtain ⟨g10, hf⟩ := grd_e hf
  refine j_iald C hO (tp_10_1 h0) rfl g10.1 g10.2 dX10_often_59 ?_
  refine j_icmp_ge (tgt := 79) C rfl rfl dX10_often_60 (by decide) (fun c11 => ?_) (fun c11 => ?_)
  · have hf := (if_pos c11).symm.trans hf
    exact kx0 _ (som_e hf).symm _ _ _ hO (lv_sub hl [0, 1, 2, 3, 4] rfl)
  · have hf := (if_neg c11).symm.trans hf
    refine lv_lload C.1 C.2.1 dX10_often_63 (lv_at hl 4 rfl) ?_
    refine lv_aload_n C.1 C.2.1 dX10_often_65 rfl (lv_at hl 0 rfl) ?_
    refine j_get C hO (ci := 10) (k := 12) (v := vI (M l0 12)) h0 rfl inlX10 (by decide) kF_16_9 rfl rfl dX10_often_66 ?_
    refine j_i2l C dX10_often_69 ?_
    refine j_lmul C dX10_often_70 ?_
    refine lv_lstore (lv' := [(4, vL (S.1 * (w32 (M l0 12)))), (0, jR G l0), (1, vI l1), (2, vI l2), (3, vI l3), (6, vI S.2)]) C.1 C.2.1 dX10_often_71 hl (by decide) rfl (fun ls hl => ?_)
    refine lv_iinc (v := Int32.ofInt (S.2 + 1)) (lv' := [(6, vI (S.2 + 1)), (4, vL (S.1 * (w32 (M l0 12)))), (0, jR G l0), (1, vI l1), (2, vI l2), (3, vI l3)]) C.1 C.2.1 dX10_often_73 hl (k := 5) rfl (Int32.ofInt_add _ _).symm (by decide) rfl (fun ls hl => ?_)
    refine lv_goto (tgt := 49) C.1 C.2.1 dX10_often_76 (by decide) ?_
    exact kc _ (som_e hf).symm _ _ _ hO (lv_sub hl [2, 3, 4, 5, 1, 0] rfl)
set_option maxHeartbeats 4000000 in
theorem w_X10_often_105 {p : Program} {l : Launch} {e : Env} {R : Room} {s : State} {m : MethodId} {args : Array Value} {below : List Frame} {meth : Method} {c : Code} {H : Heap} {locs : List Loc} {ls : Array Slot} {G : jG}  (C : jCx p s m args meth c cX10_often 7 RX10 (Cond.code yX10_often cX10_often 7 (some .long)) (some .long)) (hRf : 4 ≤ R.frames) (hRl : 93 ≤ R.locals)  (M : jM) (l0 l1 l3 l4 s0 : Int) (h0 : jkd l0 = (10, 0)) {fin : Int × jM} (hf : f_X10_often_105 M l0 l1 l3 l4 s0 = some fin) (hO : jOk G M s H locs) (hl : lv_has ls 7 [(0, jR G l0), (1, vI l1), (3, vI l3), (4, vL l4)]) : W p l e R s m args below meth c H locs 0 0 (MQ below (jQ G (some (vL fin.1)) fin.2) args s 0 0 (jA G)) (F0 m 105 ls [vI s0]) := by
  unfold f_X10_often_105 at hf
  refine j_i2l C dX10_often_105 ?_
  refine lv_aload_n C.1 C.2.1 dX10_often_106 rfl (lv_at hl 0 rfl) ?_
  refine lv_iload_n C.1 C.2.1 dX10_often_107 rfl (lv_at hl 1 rfl) ?_
  refine lv_iconst (v := Int32.ofInt 0) C.1 C.2.1 dX10_often_108 rfl ?_
  obtain ⟨r15, hr15, hf⟩ := bnd_e hf
  refine j_callV C hO (n := 2) (As := [vI l1, vI 0]) (st1 := [vL r15, vL (w32 s0)]) (c_X10_weightsFrom l G M l0 l1 0 h0 hr15) h0 rfl kC_23_19 kM_23_16 kI_23_17 kS_23_18 kN_1_5 ⟨by decide, by decide, by decide⟩ ⟨Nat.le_trans (by decide) hRf, Nat.le_trans (by decide) hRl⟩ rfl rfl rfl hl.1 rfl (Nat.le_of_ble_eq_true rfl) ⟨Nat.zero_le _, Nat.zero_le _⟩ dX10_often_109 rfl (fun H locs hO => ?_)
  refine j_lmul C dX10_often_112 ?_
  refine lv_lload C.1 C.2.1 dX10_often_113 (lv_at hl 3 rfl) ?_
  refine lv_iload_n C.1 C.2.1 dX10_often_115 rfl (lv_at hl 2 rfl) ?_
  obtain ⟨r16, hr16, hf⟩ := bnd_e hf
  refine j_callS C hO (n := 3) (As := [vL ((w32 s0) * r15), vL l4, vI l3]) (st1 := [vL r16]) (c_X10_lowest l G M ((w32 s0) * r15) l4 l3  hr16) kC_23_22 kM_23_20 kT_23_21 kN_1_5 ⟨by decide, by decide, by decide⟩ ⟨Nat.le_trans (by decide) hRf, Nat.le_trans (by decide) hRl⟩ rfl rfl rfl hl.1 rfl (Nat.le_of_ble_eq_true rfl) ⟨Nat.zero_le _, Nat.zero_le _⟩ dX10_often_116 rfl (fun H locs hO => ?_)
  have hf := som_e hf
  subst hf
  exact j_lret C hO dX10_often_119
set_option maxHeartbeats 4000000 in
theorem w_X10_often {p : Program} {l : Launch} {e : Env} {R : Room} {s : State} {m : MethodId} {args : Array Value} {below : List Frame} {meth : Method} {c : Code} {H : Heap} {locs : List Loc} {ls : Array Slot} {G : jG}  (C : jCx p s m args meth c cX10_often 7 RX10 (Cond.code yX10_often cX10_often 7 (some .long)) (some .long)) (hRf : 4 ≤ R.frames) (hRl : 93 ≤ R.locals)  (M : jM) (l0 l1 l2 l3 : Int) (h0 : jkd l0 = (10, 0)) {fin : Int × jM} (hf : f_X10_often M l0 l1 l2 l3 = some fin) (hO : jOk G M s H locs) (hl : lv_has ls 7 [(0, jR G l0), (1, vI l1), (2, vI l2), (3, vI l3)]) : W p l e R s m args below meth c H locs 0 0 (MQ below (jQ G (some (vL fin.1)) fin.2) args s 0 0 (jA G)) (F0 m 0 ls []) := by
  unfold f_X10_often at hf
  refine lv_aload_n C.1 C.2.1 dX10_often_0 rfl (lv_at hl 0 rfl) ?_
  refine lv_iload_n C.1 C.2.1 dX10_often_1 rfl (lv_at hl 1 rfl) ?_
  obtain ⟨r1, hr1, hf⟩ := bnd_e hf
  refine j_callV C hO (n := 1) (As := [vI l1]) (st1 := [vI r1]) (c_X10_isRow l G M l0 l1 h0 hr1) h0 rfl kC_19_14 kM_19_11 kI_19_12 kS_19_13 kN_1_5 ⟨by decide, by decide, by decide⟩ ⟨Nat.le_trans (by decide) hRf, Nat.le_trans (by decide) hRl⟩ rfl rfl rfl hl.1 rfl (Nat.le_of_ble_eq_true rfl) ⟨Nat.zero_le _, Nat.zero_le _⟩ dX10_often_2 rfl (fun H locs hO => ?_)
  refine j_if_eq (tgt := 35) C rfl dX10_often_5 (by decide) (fun c2 => ?_) (fun c2 => ?_)
  · have hf := (if_pos c2).symm.trans hf
    refine j_ldc2 (x := (-9223372036854775808)) C kL_22_23 (by decide) dX10_often_35 ?_
    have hf := som_e hf
    subst hf
    exact j_lret C hO dX10_often_38
  · have hf := (if_neg c2).symm.trans hf
    refine lv_aload_n C.1 C.2.1 dX10_often_8 rfl (lv_at hl 0 rfl) ?_
    refine lv_iload_n C.1 C.2.1 dX10_often_9 rfl (lv_at hl 1 rfl) ?_
    obtain ⟨r3, hr3, hf⟩ := bnd_e hf
    refine j_callV C hO (n := 1) (As := [vI l1]) (st1 := [vI r3]) (c_X10_isLawful l G M l0 l1 h0 hr3) h0 rfl kC_23_3 kM_23_0 kI_23_1 kS_23_2 kN_1_5 ⟨by decide, by decide, by decide⟩ ⟨Nat.le_trans (by decide) hRf, Nat.le_trans (by decide) hRl⟩ rfl rfl rfl hl.1 rfl (Nat.le_of_ble_eq_true rfl) ⟨Nat.zero_le _, Nat.zero_le _⟩ dX10_often_10 rfl (fun H locs hO => ?_)
    refine j_if_eq (tgt := 35) C rfl dX10_often_13 (by decide) (fun c4 => ?_) (fun c4 => ?_)
    · have hf := (if_pos c4).symm.trans hf
      refine j_ldc2 (x := (-9223372036854775808)) C kL_22_23 (by decide) dX10_often_35 ?_
      have hf := som_e hf
      subst hf
      exact j_lret C hO dX10_often_38
    · have hf := (if_neg c4).symm.trans hf
      refine lv_iload_n C.1 C.2.1 dX10_often_16 rfl (lv_at hl 2 rfl) ?_
      refine lv_iconst (v := Int32.ofInt 0) C.1 C.2.1 dX10_often_17 rfl ?_
      refine lv_bipush (v := Int32.ofInt 60) C.1 C.2.1 dX10_often_18 (by decide) ?_
      obtain ⟨r5, hr5, hf⟩ := bnd_e hf
      refine j_callS C hO (n := 3) (As := [vI l2, vI 0, vI 60]) (st1 := [vI r5]) (c_X10_in l G M l2 0 60  hr5) kC_7_1 kM_6_23 kT_7_0 kN_1_5 ⟨by decide, by decide, by decide⟩ ⟨Nat.le_trans (by decide) hRf, Nat.le_trans (by decide) hRl⟩ rfl rfl rfl hl.1 rfl (Nat.le_of_ble_eq_true rfl) ⟨Nat.zero_le _, Nat.zero_le _⟩ dX10_often_20 rfl (fun H locs hO => ?_)
      refine j_if_eq (tgt := 35) C rfl dX10_often_23 (by decide) (fun c6 => ?_) (fun c6 => ?_)
      · have hf := (if_pos c6).symm.trans hf
        refine j_ldc2 (x := (-9223372036854775808)) C kL_22_23 (by decide) dX10_often_35 ?_
        have hf := som_e hf
        subst hf
        exact j_lret C hO dX10_often_38
      · have hf := (if_neg c6).symm.trans hf
        refine lv_iload_n C.1 C.2.1 dX10_often_26 rfl (lv_at hl 3 rfl) ?_
        refine lv_iconst (v := Int32.ofInt 0) C.1 C.2.1 dX10_often_27 rfl ?_
        refine lv_iconst (v := Int32.ofInt 1) C.1 C.2.1 dX10_often_28 rfl ?_
        obtain ⟨r7, hr7, hf⟩ := bnd_e hf
        refine j_callS C hO (n := 3) (As := [vI l3, vI 0, vI 1]) (st1 := [vI r7]) (c_X10_in l G M l3 0 1  hr7) kC_7_1 kM_6_23 kT_7_0 kN_1_5 ⟨by decide, by decide, by decide⟩ ⟨Nat.le_trans (by decide) hRf, Nat.le_trans (by decide) hRl⟩ rfl rfl rfl hl.1 rfl (Nat.le_of_ble_eq_true rfl) ⟨Nat.zero_le _, Nat.zero_le _⟩ dX10_often_29 rfl (fun H locs hO => ?_)
        refine j_if_ne (tgt := 39) C rfl dX10_often_32 (by decide) (fun c8 => ?_) (fun c8 => ?_)
        · have hf := (if_neg c8).symm.trans hf
          refine lv_aload_n C.1 C.2.1 dX10_often_39 rfl (lv_at hl 0 rfl) ?_
          obtain ⟨r9, hr9, hf⟩ := bnd_e hf
          refine j_callV C hO (n := 0) (As := []) (st1 := []) (c_X10_looksForWeights l G M l0 h0 hr9) h0 rfl kC_16_13 kM_16_10 kI_16_11 kS_16_12 kN_1_5 ⟨by decide, by decide, by decide⟩ ⟨Nat.le_trans (by decide) hRf, Nat.le_trans (by decide) hRl⟩ rfl rfl rfl hl.1 rfl (Nat.le_of_ble_eq_true rfl) ⟨Nat.zero_le _, Nat.zero_le _⟩ dX10_often_40 rfl (fun H locs hO => ?_)
          refine lv_lconst (v := Int64.ofInt 1) C.1 C.2.1 dX10_often_43 (by decide) ?_
          refine lv_lstore (lv' := [(4, vL 1), (0, jR G l0), (1, vI l1), (2, vI l2), (3, vI l3)]) C.1 C.2.1 dX10_often_44 hl (by decide) rfl (fun ls hl => ?_)
          refine lv_iconst (v := Int32.ofInt 0) C.1 C.2.1 dX10_often_46 rfl ?_
          refine lv_istore (lv' := [(6, vI 0), (4, vL 1), (0, jR G l0), (1, vI l1), (2, vI l2), (3, vI l3)]) C.1 C.2.1 dX10_often_47 hl (by decide) rfl (fun ls hl => ?_)
          obtain ⟨x12, hx12, hf⟩ := bnd_e hf
          refine iter_e (P := fun Z => ∀ (H : Heap) (locs : List Loc) (ls : Array Slot), jOk G r9 s H locs → lv_has ls 7 [(0, jR G l0), (1, vI l1), (2, vI l2), (3, vI l3), (4, vL Z.1), (6, vI Z.2)] → W p l e R s m args below meth c H locs 0 0 (MQ below (jQ G (some (vL fin.1)) fin.2) args s 0 0 (jA G)) (F0 m 49 ls [])) (E := fun q => ∀ (H : Heap) (locs : List Loc) (ls : Array Slot), jOk G r9 s H locs → lv_has ls 7 [(0, jR G l0), (1, vI l1), (2, vI l2), (3, vI l3), (4, vL q)] → W p l e R s m args below meth c H locs 0 0 (MQ below (jQ G (some (vL fin.1)) fin.2) args s 0 0 (jA G)) (F0 m 79 ls [])) (fun Z rr hb kc kx H locs ls hO hl => w_X10_often_L49 C hRf hRl r9 l0 l1 l2 l3 h0 Z hb kc (fun q e => kx q e) hO hl) 5000 (1, 0) x12 hx12 ?_ _ _ _ hO (lv_sub hl [2, 3, 4, 5, 1, 0] rfl)
          clear hO hl
          intro H locs ls hO hl
          refine lv_iload_n C.1 C.2.1 dX10_often_79 rfl (lv_at hl 2 rfl) ?_
          refine lv_aload_n C.1 C.2.1 dX10_often_80 rfl (lv_at hl 0 rfl) ?_
          refine j_get C hO (ci := 10) (k := 1) (v := jR G (jpt l0 1)) h0 rfl inlX10 (by decide) kF_5_23 rfl rfl dX10_often_81 ?_
          refine lv_bipush (v := Int32.ofInt 58) C.1 C.2.1 dX10_often_84 (by decide) ?_
          refine lv_iload_n C.1 C.2.1 dX10_often_86 rfl (lv_at hl 1 rfl) ?_
          refine j_iadd C dX10_often_87 ?_
          obtain ⟨g13, hf⟩ := grd_e hf
          refine j_iald C hO (tp_10_1 h0) rfl g13.1 g13.2 dX10_often_88 ?_
          refine j_isub C dX10_often_89 ?_
          refine lv_iconst (v := Int32.ofInt 1) C.1 C.2.1 dX10_often_90 rfl ?_
          refine j_iadd C dX10_often_91 ?_
          refine lv_istore (lv' := [(6, vI ((l2 - (r9 (jpt l0 1) (w32 (58 + l1)))) + 1)), (0, jR G l0), (1, vI l1), (2, vI l2), (3, vI l3), (4, vL x12)]) C.1 C.2.1 dX10_often_92 hl (by decide) rfl (fun ls hl => ?_)
          refine lv_iload C.1 C.2.1 dX10_often_94 (lv_at hl 0 rfl) ?_
          refine j_if_ge (tgt := 103) C rfl dX10_often_96 (by decide) (fun c14 => ?_) (fun c14 => ?_)
          · have hf := (if_pos c14).symm.trans hf
            refine lv_iload C.1 C.2.1 dX10_often_103 (lv_at hl 0 rfl) ?_
            exact w_X10_often_105 C hRf hRl r9 l0 l1 l3 x12 ((l2 - (r9 (jpt l0 1) (w32 (58 + l1)))) + 1) h0 hf hO (lv_sub hl [1, 2, 4, 5] rfl)
          · have hf := (if_neg c14).symm.trans hf
            refine lv_iconst (v := Int32.ofInt 0) C.1 C.2.1 dX10_often_99 rfl ?_
            refine lv_goto (tgt := 105) C.1 C.2.1 dX10_often_100 (by decide) ?_
            exact w_X10_often_105 C hRf hRl r9 l0 l1 l3 x12 0 h0 hf hO (lv_sub hl [1, 2, 4, 5] rfl)
        · have hf := (if_pos c8).symm.trans hf
          refine j_ldc2 (x := (-9223372036854775808)) C kL_22_23 (by decide) dX10_often_35 ?_
          have hf := som_e hf
          subst hf
          exact j_lret C hO dX10_often_38
set_option maxHeartbeats 1000000 in
theorem c_X10_often (l : Launch) (G : jG)  (M : jM) (l0 l1 l2 l3 : Int) (h0 : jkd l0 = (10, 0)) {fin : Int × jM} (h : f_X10_often M l0 l1 l2 l3 = some fin) : Met l yX10_often (Cond.code yX10_often cX10_often 7 (some .long) :: wsL_law) ({ frames := 4, cells := 0, slots := 0, locals := 93 } : Room) (va_Pc [jR G l0, vI l1, vI l2, vI l3] (fun U => jRep G M U)) (jQ G (some (vL fin.1)) fin.2) 0 0 (jA G) := by
  refine Met.ofW (cc := cX10_often) (maxL := 7) (ret := (some .long)) (by decide) rfl ?_
  intro p e s m args below meth c s₁ B hml hv
  obtain ⟨rfl, hR0⟩ := hv
  have C : jCx p s m ([jR G l0, vI l1, vI l2, vI l3] : List Value).toArray meth c cX10_often 7 RX10 (Cond.code yX10_often cX10_often 7 (some .long)) (some .long) := ⟨B.exec, B.bytes, hml, findClass_of_methodNamed B.named, atoms_spec B.pre, B.returns, B.notSynchronized⟩
  have hO := hR0.ok
  have hl := lv_entry ([jR G l0, vI l1, vI l2, vI l3]) (n := 7) (Nat.le_of_ble_eq_true rfl)
  rw [lg_entry_eq]
  generalize (lg_sl ([jR G l0, vI l1, vI l2, vI l3]) ++ List.replicate (7 - (lg_sl ([jR G l0, vI l1, vI l2, vI l3])).length) Slot.unset).toArray = ls at hl ⊢
  have hl : lv_has ls 7 [(0, jR G l0), (1, vI l1), (2, vI l2), (3, vI l3)] := hl
  exact w_X10_often C (Nat.le_refl _) (Nat.le_refl _) M l0 l1 l2 l3 h0 h hO hl
set_option maxHeartbeats 4000000 in
theorem w_X10_free_L20 {p : Program} {l : Launch} {e : Env} {R : Room} {s : State} {m : MethodId} {args : Array Value} {below : List Frame} {meth : Method} {c : Code} {H : Heap} {locs : List Loc} {ls : Array Slot} {G : jG}  (C : jCx p s m args meth c cX10_free 5 RX10 (Cond.code yX10_free cX10_free 5 (some .long)) (some .long)) (hRf : 6 ≤ R.frames) (hRl : 129 ≤ R.locals)  (M : jM) (l0 l1 : Int) (h0 : jkd l0 = (10, 0)) {fin : Int × jM} (S : jM × Int) {rr : (jM × Int) ⊕ jM} (hf : f_X10_free_L20 M l0 l1 S = some rr) (kc : ∀ q : jM × Int, rr = .inl q → ∀ (H : Heap) (locs : List Loc) (ls : Array Slot), jOk G q.1 s H locs → lv_has ls 5 [(0, jR G l0), (1, vI l1), (2, vI q.2)] → W p l e R s m args below meth c H locs 0 0 (MQ below (jQ G (some (vL fin.1)) fin.2) args s 0 0 (jA G)) (F0 m 20 ls [])) (kx0 : ∀ q : jM, rr = .inr q → ∀ (H : Heap) (locs : List Loc) (ls : Array Slot), jOk G q s H locs → lv_has ls 5 [(0, jR G l0)] → W p l e R s m args below meth c H locs 0 0 (MQ below (jQ G (some (vL fin.1)) fin.2) args s 0 0 (jA G)) (F0 m 38 ls [])) (hO : jOk G S.1 s H locs) (hl : lv_has ls 5 [(0, jR G l0), (1, vI l1), (2, vI S.2)]) : W p l e R s m args below meth c H locs 0 0 (MQ below (jQ G (some (vL fin.1)) fin.2) args s 0 0 (jA G)) (F0 m 20 ls []) := by
  unfold f_X10_free_L20 at hf
  refine lv_iload_n C.1 C.2.1 dX10_free_20 rfl (lv_at hl 2 rfl) ?_
  refine lv_iload_n C.1 C.2.1 dX10_free_21 rfl (lv_at hl 1 rfl) ?_
  refine j_icmp_ge (tgt := 38) C rfl rfl dX10_free_22 (by decide) (fun c4 => ?_) (fun c4 => ?_)
  · have hf := (if_pos c4).symm.trans hf
    exact kx0 _ (som_e hf).symm _ _ _ hO (lv_sub hl [0] rfl)
  · have hf := (if_neg c4).symm.trans hf
    refine lv_aload_n C.1 C.2.1 dX10_free_25 rfl (lv_at hl 0 rfl) ?_
    refine lv_iconst (v := Int32.ofInt (-1)) C.1 C.2.1 dX10_free_26 rfl ?_
    refine lv_iconst (v := Int32.ofInt 0) C.1 C.2.1 dX10_free_27 rfl ?_
    obtain ⟨r5, hr5, hf⟩ := bnd_e hf
    refine j_callV C hO (n := 2) (As := [vI (-1), vI 0]) (st1 := [vL r5.1]) (c_X10_throwsOn l G S.1 l0 (-1) 0 h0 hr5) h0 rfl kC_37_2 kM_36_23 kI_37_0 kS_37_1 kN_1_5 ⟨by decide, by decide, by decide⟩ ⟨Nat.le_trans (by decide) hRf, Nat.le_trans (by decide) hRl⟩ rfl rfl rfl hl.1 rfl (Nat.le_of_ble_eq_true rfl) ⟨Nat.zero_le _, Nat.zero_le _⟩ dX10_free_28 rfl (fun H locs hO => ?_)
    refine lv_pop2_2 C.1 C.2.1 dX10_free_31 rfl ?_
    refine lv_iinc (v := Int32.ofInt (S.2 + 1)) (lv' := [(2, vI (S.2 + 1)), (0, jR G l0), (1, vI l1)]) C.1 C.2.1 dX10_free_32 hl (k := 2) rfl (Int32.ofInt_add _ _).symm (by decide) rfl (fun ls hl => ?_)
    refine lv_goto (tgt := 20) C.1 C.2.1 dX10_free_35 (by decide) ?_
    exact kc _ (som_e hf).symm _ _ _ hO (lv_sub hl [1, 2, 0] rfl)
set_option maxHeartbeats 4000000 in
theorem w_X10_free_L43 {p : Program} {l : Launch} {e : Env} {R : Room} {s : State} {m : MethodId} {args : Array Value} {below : List Frame} {meth : Method} {c : Code} {H : Heap} {locs : List Loc} {ls : Array Slot} {G : jG}  (C : jCx p s m args meth c cX10_free 5 RX10 (Cond.code yX10_free cX10_free 5 (some .long)) (some .long)) (hRf : 6 ≤ R.frames) (hRl : 129 ≤ R.locals)  (M : jM) (l0 : Int) (h0 : jkd l0 = (10, 0)) {fin : Int × jM} (S : Int × Int) {rr : (Int × Int) ⊕ Int} (hf : f_X10_free_L43 M l0 S = some rr) (kc : ∀ q : Int × Int, rr = .inl q → ∀ (H : Heap) (locs : List Loc) (ls : Array Slot), jOk G M s H locs → lv_has ls 5 [(0, jR G l0), (2, vL q.1), (4, vI q.2)] → W p l e R s m args below meth c H locs 0 0 (MQ below (jQ G (some (vL fin.1)) fin.2) args s 0 0 (jA G)) (F0 m 43 ls [])) (kx0 : ∀ q : Int, rr = .inr q → ∀ (H : Heap) (locs : List Loc) (ls : Array Slot), jOk G M s H locs → lv_has ls 5 [(2, vL q)] → W p l e R s m args below meth c H locs 0 0 (MQ below (jQ G (some (vL fin.1)) fin.2) args s 0 0 (jA G)) (F0 m 67 ls [])) (hO : jOk G M s H locs) (hl : lv_has ls 5 [(0, jR G l0), (2, vL S.1), (4, vI S.2)]) : W p l e R s m args below meth c H locs 0 0 (MQ below (jQ G (some (vL fin.1)) fin.2) args s 0 0 (jA G)) (F0 m 43 ls []) := by
  unfold f_X10_free_L43 at hf
  refine lv_iload C.1 C.2.1 dX10_free_43 (lv_at hl 2 rfl) ?_
  refine lv_sipush (v := Int32.ofInt 486) C.1 C.2.1 dX10_free_45 (by decide) ?_
  refine j_icmp_ge (tgt := 67) C rfl (w32_id (by decide) (by decide)) dX10_free_48 (by decide) (fun c7 => ?_) (fun c7 => ?_)
  · have hf := (if_pos c7).symm.trans hf
    exact kx0 _ (som_e hf).symm _ _ _ hO (lv_sub hl [1] rfl)
  · have hf := (if_neg c7).symm.trans hf
    refine lv_lload_n C.1 C.2.1 dX10_free_51 rfl (lv_at hl 1 rfl) ?_
    refine lv_aload_n C.1 C.2.1 dX10_free_52 rfl (lv_at hl 0 rfl) ?_
    obtain ⟨g8, hf⟩ := grd_e hf
    refine j_get C hO (ci := 10) (k := 15) (v := jN G (M l0 15)) h0 rfl inlX10 (by decide) kF_6_5 rfl rfl dX10_free_53 ?_
    rw [jN_p (jkd_in g8 (by decide)).1]
    refine lv_iload C.1 C.2.1 dX10_free_56 (lv_at hl 2 rfl) ?_
    obtain ⟨g9, hf⟩ := grd_e hf
    refine j_lald C hO g8 rfl g9.1 g9.2 dX10_free_58 ?_
    refine j_ladd C dX10_free_59 ?_
    refine lv_lstore_n (lv' := [(2, vL (S.1 + (M (M l0 15) (w32 S.2)))), (0, jR G l0), (4, vI S.2)]) C.1 C.2.1 dX10_free_60 rfl hl (by decide) rfl (fun ls hl => ?_)
    refine lv_iinc (v := Int32.ofInt (S.2 + 1)) (lv' := [(4, vI (S.2 + 1)), (2, vL (S.1 + (M (M l0 15) (w32 S.2)))), (0, jR G l0)]) C.1 C.2.1 dX10_free_61 hl (k := 2) rfl (Int32.ofInt_add _ _).symm (by decide) rfl (fun ls hl => ?_)
    refine lv_goto (tgt := 43) C.1 C.2.1 dX10_free_64 (by decide) ?_
    exact kc _ (som_e hf).symm _ _ _ hO (lv_sub hl [2, 1, 0] rfl)
set_option maxHeartbeats 4000000 in
theorem w_X10_free {p : Program} {l : Launch} {e : Env} {R : Room} {s : State} {m : MethodId} {args : Array Value} {below : List Frame} {meth : Method} {c : Code} {H : Heap} {locs : List Loc} {ls : Array Slot} {G : jG}  (C : jCx p s m args meth c cX10_free 5 RX10 (Cond.code yX10_free cX10_free 5 (some .long)) (some .long)) (hRf : 6 ≤ R.frames) (hRl : 129 ≤ R.locals)  (M : jM) (l0 l1 : Int) (h0 : jkd l0 = (10, 0)) {fin : Int × jM} (hf : f_X10_free M l0 l1 = some fin) (hO : jOk G M s H locs) (hl : lv_has ls 5 [(0, jR G l0), (1, vI l1)]) : W p l e R s m args below meth c H locs 0 0 (MQ below (jQ G (some (vL fin.1)) fin.2) args s 0 0 (jA G)) (F0 m 0 ls []) := by
  unfold f_X10_free at hf
  refine lv_iload_n C.1 C.2.1 dX10_free_0 rfl (lv_at hl 1 rfl) ?_
  refine lv_iconst (v := Int32.ofInt 0) C.1 C.2.1 dX10_free_1 rfl ?_
  refine lv_bipush (v := Int32.ofInt 30) C.1 C.2.1 dX10_free_2 (by decide) ?_
  obtain ⟨r1, hr1, hf⟩ := bnd_e hf
  refine j_callS C hO (n := 3) (As := [vI l1, vI 0, vI 30]) (st1 := [vI r1]) (c_X10_in l G M l1 0 30  hr1) kC_7_1 kM_6_23 kT_7_0 kN_1_5 ⟨by decide, by decide, by decide⟩ ⟨Nat.le_trans (by decide) hRf, Nat.le_trans (by decide) hRl⟩ rfl rfl rfl hl.1 rfl (Nat.le_of_ble_eq_true rfl) ⟨Nat.zero_le _, Nat.zero_le _⟩ dX10_free_4 rfl (fun H locs hO => ?_)
  refine j_if_ne (tgt := 14) C rfl dX10_free_7 (by decide) (fun c2 => ?_) (fun c2 => ?_)
  · have hf := (if_neg c2).symm.trans hf
    refine lv_aload_n C.1 C.2.1 dX10_free_14 rfl (lv_at hl 0 rfl) ?_
    obtain ⟨r3, hr3, hf⟩ := bnd_e hf
    refine j_callV C hO (n := 0) (As := []) (st1 := []) (c_X10_beginsThrows l G M l0 h0 hr3) h0 rfl kC_36_7 kM_36_4 kI_36_5 kS_36_6 kN_1_5 ⟨by decide, by decide, by decide⟩ ⟨Nat.le_trans (by decide) hRf, Nat.le_trans (by decide) hRl⟩ rfl rfl rfl hl.1 rfl (Nat.le_of_ble_eq_true rfl) ⟨Nat.zero_le _, Nat.zero_le _⟩ dX10_free_15 rfl (fun H locs hO => ?_)
    refine lv_iconst (v := Int32.ofInt 0) C.1 C.2.1 dX10_free_18 rfl ?_
    refine lv_istore_n (lv' := [(2, vI 0), (0, jR G l0), (1, vI l1)]) C.1 C.2.1 dX10_free_19 rfl hl (by decide) rfl (fun ls hl => ?_)
    obtain ⟨x6, hx6, hf⟩ := bnd_e hf
    refine iter_e (P := fun Z => ∀ (H : Heap) (locs : List Loc) (ls : Array Slot), jOk G Z.1 s H locs → lv_has ls 5 [(0, jR G l0), (1, vI l1), (2, vI Z.2)] → W p l e R s m args below meth c H locs 0 0 (MQ below (jQ G (some (vL fin.1)) fin.2) args s 0 0 (jA G)) (F0 m 20 ls [])) (E := fun q => ∀ (H : Heap) (locs : List Loc) (ls : Array Slot), jOk G q s H locs → lv_has ls 5 [(0, jR G l0)] → W p l e R s m args below meth c H locs 0 0 (MQ below (jQ G (some (vL fin.1)) fin.2) args s 0 0 (jA G)) (F0 m 38 ls [])) (fun Z rr hb kc kx H locs ls hO hl => w_X10_free_L20 C hRf hRl r3 l0 l1 h0 Z hb kc (fun q e => kx q e) hO hl) 5000 (r3, 0) x6 hx6 ?_ _ _ _ hO (lv_sub hl [1, 2, 0] rfl)
    clear hO hl
    intro H locs ls hO hl
    refine lv_lconst (v := Int64.ofInt 0) C.1 C.2.1 dX10_free_38 (by decide) ?_
    refine lv_lstore_n (lv' := [(2, vL 0), (0, jR G l0)]) C.1 C.2.1 dX10_free_39 rfl hl (by decide) rfl (fun ls hl => ?_)
    refine lv_iconst (v := Int32.ofInt 0) C.1 C.2.1 dX10_free_40 rfl ?_
    refine lv_istore (lv' := [(4, vI 0), (2, vL 0), (0, jR G l0)]) C.1 C.2.1 dX10_free_41 hl (by decide) rfl (fun ls hl => ?_)
    obtain ⟨x10, hx10, hf⟩ := bnd_e hf
    refine iter_e (P := fun Z => ∀ (H : Heap) (locs : List Loc) (ls : Array Slot), jOk G x6 s H locs → lv_has ls 5 [(0, jR G l0), (2, vL Z.1), (4, vI Z.2)] → W p l e R s m args below meth c H locs 0 0 (MQ below (jQ G (some (vL fin.1)) fin.2) args s 0 0 (jA G)) (F0 m 43 ls [])) (E := fun q => ∀ (H : Heap) (locs : List Loc) (ls : Array Slot), jOk G x6 s H locs → lv_has ls 5 [(2, vL q)] → W p l e R s m args below meth c H locs 0 0 (MQ below (jQ G (some (vL fin.1)) fin.2) args s 0 0 (jA G)) (F0 m 67 ls [])) (fun Z rr hb kc kx H locs ls hO hl => w_X10_free_L43 C hRf hRl x6 l0 h0 Z hb kc (fun q e => kx q e) hO hl) 5000 (0, 0) x10 hx10 ?_ _ _ _ hO (lv_sub hl [2, 1, 0] rfl)
    clear hO hl
    intro H locs ls hO hl
    refine lv_lload_n C.1 C.2.1 dX10_free_67 rfl (lv_at hl 0 rfl) ?_
    have hf := som_e hf
    subst hf
    exact j_lret C hO dX10_free_68
  · have hf := (if_pos c2).symm.trans hf
    refine j_ldc2 (x := (-9223372036854775808)) C kL_22_23 (by decide) dX10_free_10 ?_
    have hf := som_e hf
    subst hf
    exact j_lret C hO dX10_free_13
set_option maxHeartbeats 1000000 in
theorem c_X10_free (l : Launch) (G : jG)  (M : jM) (l0 l1 : Int) (h0 : jkd l0 = (10, 0)) {fin : Int × jM} (h : f_X10_free M l0 l1 = some fin) : Met l yX10_free (Cond.code yX10_free cX10_free 5 (some .long) :: wsL_law) ({ frames := 6, cells := 0, slots := 0, locals := 129 } : Room) (va_Pc [jR G l0, vI l1] (fun U => jRep G M U)) (jQ G (some (vL fin.1)) fin.2) 0 0 (jA G) := by
  refine Met.ofW (cc := cX10_free) (maxL := 5) (ret := (some .long)) (by decide) rfl ?_
  intro p e s m args below meth c s₁ B hml hv
  obtain ⟨rfl, hR0⟩ := hv
  have C : jCx p s m ([jR G l0, vI l1] : List Value).toArray meth c cX10_free 5 RX10 (Cond.code yX10_free cX10_free 5 (some .long)) (some .long) := ⟨B.exec, B.bytes, hml, findClass_of_methodNamed B.named, atoms_spec B.pre, B.returns, B.notSynchronized⟩
  have hO := hR0.ok
  have hl := lv_entry ([jR G l0, vI l1]) (n := 5) (Nat.le_of_ble_eq_true rfl)
  rw [lg_entry_eq]
  generalize (lg_sl ([jR G l0, vI l1]) ++ List.replicate (5 - (lg_sl ([jR G l0, vI l1])).length) Slot.unset).toArray = ls at hl ⊢
  have hl : lv_has ls 5 [(0, jR G l0), (1, vI l1)] := hl
  exact w_X10_free C (Nat.le_refl _) (Nat.le_refl _) M l0 l1 h0 h hO hl
set_option maxHeartbeats 4000000 in
theorem w_X10_toss {p : Program} {l : Launch} {e : Env} {R : Room} {s : State} {m : MethodId} {args : Array Value} {below : List Frame} {meth : Method} {c : Code} {H : Heap} {locs : List Loc} {ls : Array Slot} {G : jG}  (C : jCx p s m args meth c cX10_toss 2 RX10 (Cond.code yX10_toss cX10_toss 2 (some .int)) (some .int)) (hRf : 1 ≤ R.frames) (hRl : 22 ≤ R.locals)  (M : jM) (l0 l1 : Int) (h0 : jkd l0 = (10, 0)) {fin : Int × jM} (hf : f_X10_toss M l0 l1 = some fin) (hO : jOk G M s H locs) (hl : lv_has ls 2 [(0, jR G l0), (1, vI l1)]) : W p l e R s m args below meth c H locs 0 0 (MQ below (jQ G (some (vI fin.1)) fin.2) args s 0 0 (jA G)) (F0 m 0 ls []) := by
  unfold f_X10_toss at hf
  refine lv_iload_n C.1 C.2.1 dX10_toss_0 rfl (lv_at hl 1 rfl) ?_
  refine lv_iconst (v := Int32.ofInt (-1)) C.1 C.2.1 dX10_toss_1 rfl ?_
  refine j_icmp_ne (tgt := 14) C rfl (w32_id (by decide) (by decide)) dX10_toss_2 (by decide) (fun c1 => ?_) (fun c1 => ?_)
  · have hf := (if_neg c1).symm.trans hf
    refine lv_iload_n C.1 C.2.1 dX10_toss_14 rfl (lv_at hl 1 rfl) ?_
    refine lv_iconst (v := Int32.ofInt 0) C.1 C.2.1 dX10_toss_15 rfl ?_
    refine lv_iconst (v := Int32.ofInt 2) C.1 C.2.1 dX10_toss_16 rfl ?_
    obtain ⟨r2, hr2, hf⟩ := bnd_e hf
    refine j_callS C hO (n := 3) (As := [vI l1, vI 0, vI 2]) (st1 := [vI r2]) (c_X10_in l G M l1 0 2  hr2) kC_7_1 kM_6_23 kT_7_0 kN_1_5 ⟨by decide, by decide, by decide⟩ ⟨Nat.le_trans (by decide) hRf, Nat.le_trans (by decide) hRl⟩ rfl rfl rfl hl.1 rfl (Nat.le_of_ble_eq_true rfl) ⟨Nat.zero_le _, Nat.zero_le _⟩ dX10_toss_17 rfl (fun H locs hO => ?_)
    refine j_if_ne (tgt := 26) C rfl dX10_toss_20 (by decide) (fun c3 => ?_) (fun c3 => ?_)
    · have hf := (if_neg c3).symm.trans hf
      refine lv_aload_n C.1 C.2.1 dX10_toss_26 rfl (lv_at hl 0 rfl) ?_
      refine j_get C hO (ci := 10) (k := 1) (v := jR G (jpt l0 1)) h0 rfl inlX10 (by decide) kF_5_23 rfl rfl dX10_toss_27 ?_
      refine lv_iconst (v := Int32.ofInt 4) C.1 C.2.1 dX10_toss_30 rfl ?_
      refine j_iald C hO (tp_10_1 h0) (w32_id (by decide) (by decide)) (by decide) (by decide) dX10_toss_31 ?_
      refine lv_bipush (v := Int32.ofInt 24) C.1 C.2.1 dX10_toss_32 (by decide) ?_
      refine j_icmp_ne (tgt := 40) C rfl (w32_id (by decide) (by decide)) dX10_toss_34 (by decide) (fun c4 => ?_) (fun c4 => ?_)
      · have hf := (if_neg c4).symm.trans hf
        refine lv_aload_n C.1 C.2.1 dX10_toss_40 rfl (lv_at hl 0 rfl) ?_
        refine j_get C hO (ci := 10) (k := 1) (v := jR G (jpt l0 1)) h0 rfl inlX10 (by decide) kF_5_23 rfl rfl dX10_toss_41 ?_
        refine lv_bipush (v := Int32.ofInt 72) C.1 C.2.1 dX10_toss_44 (by decide) ?_
        refine lv_aload_n C.1 C.2.1 dX10_toss_46 rfl (lv_at hl 0 rfl) ?_
        refine j_get C hO (ci := 10) (k := 1) (v := jR G (jpt l0 1)) h0 rfl inlX10 (by decide) kF_5_23 rfl rfl dX10_toss_47 ?_
        refine lv_iconst (v := Int32.ofInt 4) C.1 C.2.1 dX10_toss_50 rfl ?_
        refine j_iald C hO (tp_10_1 h0) (w32_id (by decide) (by decide)) (by decide) (by decide) dX10_toss_51 ?_
        refine j_iadd C dX10_toss_52 ?_
        refine lv_iload_n C.1 C.2.1 dX10_toss_53 rfl (lv_at hl 1 rfl) ?_
        obtain ⟨g5, hf⟩ := grd_e hf
        obtain ⟨M6, hM6, hf⟩ := lt1_e hf
        refine j_iast C hO (x := l1) (tp_10_1 h0) rfl g5.1 g5.2 dX10_toss_54 (fun H locs hO => ?_)
        rw [← hM6] at hO
        refine lv_aload_n C.1 C.2.1 dX10_toss_55 rfl (lv_at hl 0 rfl) ?_
        refine j_get C hO (ci := 10) (k := 1) (v := jR G (jpt l0 1)) h0 rfl inlX10 (by decide) kF_5_23 rfl rfl dX10_toss_56 ?_
        refine lv_iconst (v := Int32.ofInt 4) C.1 C.2.1 dX10_toss_59 rfl ?_
        refine lv_dup2_11 C.1 C.2.1 dX10_toss_60 rfl rfl ?_
        refine j_iald C hO (tp_10_1 h0) (w32_id (by decide) (by decide)) (by decide) (by decide) dX10_toss_61 ?_
        refine lv_iconst (v := Int32.ofInt 1) C.1 C.2.1 dX10_toss_62 rfl ?_
        refine j_iadd C dX10_toss_63 ?_
        obtain ⟨M7, hM7, hf⟩ := lt1_e hf
        refine j_iast C hO (x := (M6 (jpt l0 1) 4) + 1) (tp_10_1 h0) (w32_id (by decide) (by decide)) (by decide) (by decide) dX10_toss_64 (fun H locs hO => ?_)
        rw [← hM7] at hO
        refine lv_aload_n C.1 C.2.1 dX10_toss_65 rfl (lv_at hl 0 rfl) ?_
        refine j_get C hO (ci := 10) (k := 1) (v := jR G (jpt l0 1)) h0 rfl inlX10 (by decide) kF_5_23 rfl rfl dX10_toss_66 ?_
        refine lv_iconst (v := Int32.ofInt 4) C.1 C.2.1 dX10_toss_69 rfl ?_
        refine j_iald C hO (tp_10_1 h0) (w32_id (by decide) (by decide)) (by decide) (by decide) dX10_toss_70 ?_
        have hf := som_e hf
        subst hf
        exact j_iret C hO dX10_toss_71
      · have hf := (if_pos c4).symm.trans hf
        refine lv_bipush (v := Int32.ofInt (-4)) C.1 C.2.1 dX10_toss_37 (by decide) ?_
        have hf := som_e hf
        subst hf
        exact j_iret C hO dX10_toss_39
    · have hf := (if_pos c3).symm.trans hf
      refine lv_bipush (v := Int32.ofInt (-2)) C.1 C.2.1 dX10_toss_23 (by decide) ?_
      have hf := som_e hf
      subst hf
      exact j_iret C hO dX10_toss_25
  · have hf := (if_pos c1).symm.trans hf
    refine lv_aload_n C.1 C.2.1 dX10_toss_5 rfl (lv_at hl 0 rfl) ?_
    refine j_get C hO (ci := 10) (k := 1) (v := jR G (jpt l0 1)) h0 rfl inlX10 (by decide) kF_5_23 rfl rfl dX10_toss_6 ?_
    refine lv_iconst (v := Int32.ofInt 4) C.1 C.2.1 dX10_toss_9 rfl ?_
    refine lv_iconst (v := Int32.ofInt 0) C.1 C.2.1 dX10_toss_10 rfl ?_
    obtain ⟨M8, hM8, hf⟩ := lt1_e hf
    refine j_iast C hO (x := 0) (tp_10_1 h0) (w32_id (by decide) (by decide)) (by decide) (by decide) dX10_toss_11 (fun H locs hO => ?_)
    rw [← hM8] at hO
    refine lv_iconst (v := Int32.ofInt 0) C.1 C.2.1 dX10_toss_12 rfl ?_
    have hf := som_e hf
    subst hf
    exact j_iret C hO dX10_toss_13
set_option maxHeartbeats 1000000 in
theorem c_X10_toss (l : Launch) (G : jG)  (M : jM) (l0 l1 : Int) (h0 : jkd l0 = (10, 0)) {fin : Int × jM} (h : f_X10_toss M l0 l1 = some fin) : Met l yX10_toss (Cond.code yX10_toss cX10_toss 2 (some .int) :: wsL_law) ({ frames := 1, cells := 0, slots := 0, locals := 22 } : Room) (va_Pc [jR G l0, vI l1] (fun U => jRep G M U)) (jQ G (some (vI fin.1)) fin.2) 0 0 (jA G) := by
  refine Met.ofW (cc := cX10_toss) (maxL := 2) (ret := (some .int)) (by decide) rfl ?_
  intro p e s m args below meth c s₁ B hml hv
  obtain ⟨rfl, hR0⟩ := hv
  have C : jCx p s m ([jR G l0, vI l1] : List Value).toArray meth c cX10_toss 2 RX10 (Cond.code yX10_toss cX10_toss 2 (some .int)) (some .int) := ⟨B.exec, B.bytes, hml, findClass_of_methodNamed B.named, atoms_spec B.pre, B.returns, B.notSynchronized⟩
  have hO := hR0.ok
  have hl := lv_entry ([jR G l0, vI l1]) (n := 2) (Nat.le_of_ble_eq_true rfl)
  rw [lg_entry_eq]
  generalize (lg_sl ([jR G l0, vI l1]) ++ List.replicate (2 - (lg_sl ([jR G l0, vI l1])).length) Slot.unset).toArray = ls at hl ⊢
  have hl : lv_has ls 2 [(0, jR G l0), (1, vI l1)] := hl
  exact w_X10_toss C (Nat.le_refl _) (Nat.le_refl _) M l0 l1 h0 h hO hl
set_option maxHeartbeats 4000000 in
theorem w_X10_cameBehind_L2 {p : Program} {l : Launch} {e : Env} {R : Room} {s : State} {m : MethodId} {args : Array Value} {below : List Frame} {meth : Method} {c : Code} {H : Heap} {locs : List Loc} {ls : Array Slot} {G : jG}  (C : jCx p s m args meth c cX10_cameBehind 3 RX10 (Cond.code yX10_cameBehind cX10_cameBehind 3 (some .int)) (some .int)) (hRf : 1 ≤ R.frames) (hRl : 26 ≤ R.locals)  (M : jM) (l0 l1 : Int) (h0 : jkd l0 = (10, 0)) {fin : Int} (S : Int) {rr : (Int) ⊕ (Unit ⊕ Int)} (hf : f_X10_cameBehind_L2 M l0 l1 S = some rr) (kc : ∀ q : Int, rr = .inl q → ∀ (H : Heap) (locs : List Loc) (ls : Array Slot), jOk G M s H locs → lv_has ls 3 [(0, jR G l0), (1, vI l1), (2, vI q)] → W p l e R s m args below meth c H locs 0 0 (MQ below (jQ G (some (vI fin)) M) args s 0 0 (jA G)) (F0 m 2 ls [])) (kx0 : ∀ q : Unit, rr = .inr (.inl q) → ∀ (H : Heap) (locs : List Loc) (ls : Array Slot), jOk G M s H locs → lv_has ls 3 [] → W p l e R s m args below meth c H locs 0 0 (MQ below (jQ G (some (vI fin)) M) args s 0 0 (jA G)) (F0 m 40 ls [])) (kx1 : ∀ q : Int, rr = .inr (.inr q) → ∀ (H : Heap) (locs : List Loc) (ls : Array Slot), jOk G M s H locs → lv_has ls 3 [(2, vI q)] → W p l e R s m args below meth c H locs 0 0 (MQ below (jQ G (some (vI fin)) M) args s 0 0 (jA G)) (F0 m 32 ls [])) (hO : jOk G M s H locs) (hl : lv_has ls 3 [(0, jR G l0), (1, vI l1), (2, vI S)]) : W p l e R s m args below meth c H locs 0 0 (MQ below (jQ G (some (vI fin)) M) args s 0 0 (jA G)) (F0 m 2 ls []) := by
  unfold f_X10_cameBehind_L2 at hf
  refine lv_iload_n C.1 C.2.1 dX10_cameBehind_2 rfl (lv_at hl 2 rfl) ?_
  refine lv_aload_n C.1 C.2.1 dX10_cameBehind_3 rfl (lv_at hl 0 rfl) ?_
  refine j_get C hO (ci := 10) (k := 1) (v := jR G (jpt l0 1)) h0 rfl inlX10 (by decide) kF_5_23 rfl rfl dX10_cameBehind_4 ?_
  refine lv_iconst (v := Int32.ofInt 4) C.1 C.2.1 dX10_cameBehind_7 rfl ?_
  refine j_iald C hO (tp_10_1 h0) (w32_id (by decide) (by decide)) (by decide) (by decide) dX10_cameBehind_8 ?_
  refine j_icmp_gt (tgt := 40) C rfl rfl dX10_cameBehind_9 (by decide) (fun c1 => ?_) (fun c1 => ?_)
  · have hf := (if_pos c1).symm.trans hf
    exact kx0 _ (som_e hf).symm _ _ _ hO (lv_sub hl [] rfl)
  · have hf := (if_neg c1).symm.trans hf
    refine lv_aload_n C.1 C.2.1 dX10_cameBehind_12 rfl (lv_at hl 0 rfl) ?_
    refine lv_bipush (v := Int32.ofInt 72) C.1 C.2.1 dX10_cameBehind_13 (by decide) ?_
    refine lv_iload_n C.1 C.2.1 dX10_cameBehind_15 rfl (lv_at hl 2 rfl) ?_
    refine lv_iload_n C.1 C.2.1 dX10_cameBehind_16 rfl (lv_at hl 1 rfl) ?_
    refine lv_aload_n C.1 C.2.1 dX10_cameBehind_17 rfl (lv_at hl 0 rfl) ?_
    refine j_get C hO (ci := 10) (k := 1) (v := jR G (jpt l0 1)) h0 rfl inlX10 (by decide) kF_5_23 rfl rfl dX10_cameBehind_18 ?_
    refine lv_bipush (v := Int32.ofInt 58) C.1 C.2.1 dX10_cameBehind_21 (by decide) ?_
    refine lv_iload_n C.1 C.2.1 dX10_cameBehind_23 rfl (lv_at hl 1 rfl) ?_
    refine j_iadd C dX10_cameBehind_24 ?_
    obtain ⟨g2, hf⟩ := grd_e hf
    refine j_iald C hO (tp_10_1 h0) rfl g2.1 g2.2 dX10_cameBehind_25 ?_
    obtain ⟨r3, hr3, hf⟩ := bnd_e hf
    refine j_callV C hO (n := 4) (As := [vI 72, vI S, vI l1, vI (M (jpt l0 1) (w32 (58 + l1)))]) (st1 := [vI r3]) (c_X10_endsWith l G M l0 72 S l1 (M (jpt l0 1) (w32 (58 + l1))) h0 hr3) h0 rfl kC_23_15 kM_23_12 kI_23_13 kS_23_14 kN_1_5 ⟨by decide, by decide, by decide⟩ ⟨Nat.le_trans (by decide) hRf, Nat.le_trans (by decide) hRl⟩ rfl rfl rfl hl.1 rfl (Nat.le_of_ble_eq_true rfl) ⟨Nat.zero_le _, Nat.zero_le _⟩ dX10_cameBehind_26 rfl (fun H locs hO => ?_)
    refine j_if_eq (tgt := 34) C rfl dX10_cameBehind_29 (by decide) (fun c4 => ?_) (fun c4 => ?_)
    · have hf := (if_pos c4).symm.trans hf
      refine lv_iinc (v := Int32.ofInt (S + 1)) (lv' := [(2, vI (S + 1)), (0, jR G l0), (1, vI l1)]) C.1 C.2.1 dX10_cameBehind_34 hl (k := 2) rfl (Int32.ofInt_add _ _).symm (by decide) rfl (fun ls hl => ?_)
      refine lv_goto (tgt := 2) C.1 C.2.1 dX10_cameBehind_37 (by decide) ?_
      exact kc _ (som_e hf).symm _ _ _ hO (lv_sub hl [1, 2, 0] rfl)
    · have hf := (if_neg c4).symm.trans hf
      exact kx1 _ (som_e hf).symm _ _ _ hO (lv_sub hl [2] rfl)
set_option maxHeartbeats 4000000 in
theorem w_X10_cameBehind {p : Program} {l : Launch} {e : Env} {R : Room} {s : State} {m : MethodId} {args : Array Value} {below : List Frame} {meth : Method} {c : Code} {H : Heap} {locs : List Loc} {ls : Array Slot} {G : jG}  (C : jCx p s m args meth c cX10_cameBehind 3 RX10 (Cond.code yX10_cameBehind cX10_cameBehind 3 (some .int)) (some .int)) (hRf : 1 ≤ R.frames) (hRl : 26 ≤ R.locals)  (M : jM) (l0 l1 : Int) (h0 : jkd l0 = (10, 0)) {fin : Int} (hf : f_X10_cameBehind M l0 l1 = some fin) (hO : jOk G M s H locs) (hl : lv_has ls 3 [(0, jR G l0), (1, vI l1)]) : W p l e R s m args below meth c H locs 0 0 (MQ below (jQ G (some (vI fin)) M) args s 0 0 (jA G)) (F0 m 0 ls []) := by
  unfold f_X10_cameBehind at hf
  refine lv_iconst (v := Int32.ofInt 1) C.1 C.2.1 dX10_cameBehind_0 rfl ?_
  refine lv_istore_n (lv' := [(2, vI 1), (0, jR G l0), (1, vI l1)]) C.1 C.2.1 dX10_cameBehind_1 rfl hl (by decide) rfl (fun ls hl => ?_)
  obtain ⟨x5, hx5, hf⟩ := bnd_e hf
  refine iter_e (P := fun Z => ∀ (H : Heap) (locs : List Loc) (ls : Array Slot), jOk G M s H locs → lv_has ls 3 [(0, jR G l0), (1, vI l1), (2, vI Z)] → W p l e R s m args below meth c H locs 0 0 (MQ below (jQ G (some (vI fin)) M) args s 0 0 (jA G)) (F0 m 2 ls [])) (E := fun x => (∀ q : Unit, x = (.inl q) → ∀ (H : Heap) (locs : List Loc) (ls : Array Slot), jOk G M s H locs → lv_has ls 3 [] → W p l e R s m args below meth c H locs 0 0 (MQ below (jQ G (some (vI fin)) M) args s 0 0 (jA G)) (F0 m 40 ls [])) ∧ (∀ q : Int, x = (.inr q) → ∀ (H : Heap) (locs : List Loc) (ls : Array Slot), jOk G M s H locs → lv_has ls 3 [(2, vI q)] → W p l e R s m args below meth c H locs 0 0 (MQ below (jQ G (some (vI fin)) M) args s 0 0 (jA G)) (F0 m 32 ls []))) (fun Z rr hb kc kx H locs ls hO hl => w_X10_cameBehind_L2 C hRf hRl M l0 l1 h0 Z hb kc (fun q e => (kx _ e).1 q rfl) (fun q e => (kx _ e).2 q rfl) hO hl) 5000 1 x5 hx5 ?_ _ _ _ hO (lv_sub hl [1, 2, 0] rfl)
  clear hO hl
  refine ⟨?_, ?_⟩
  · intro q6 eq6 H locs ls hO hl
    subst eq6
    have hf := sel_l hf
    refine lv_bipush (v := Int32.ofInt (-5)) C.1 C.2.1 dX10_cameBehind_40 (by decide) ?_
    have hf := som_e hf
    subst hf
    exact j_iret C hO dX10_cameBehind_42
  · intro q7 eq7 H locs ls hO hl
    subst eq7
    have hf := sel_r hf
    refine lv_iload_n C.1 C.2.1 dX10_cameBehind_32 rfl (lv_at hl 0 rfl) ?_
    have hf := som_e hf
    subst hf
    exact j_iret C hO dX10_cameBehind_33
set_option maxHeartbeats 1000000 in
theorem c_X10_cameBehind (l : Launch) (G : jG)  (M : jM) (l0 l1 : Int) (h0 : jkd l0 = (10, 0)) {fin : Int} (h : f_X10_cameBehind M l0 l1 = some fin) : Met l yX10_cameBehind (Cond.code yX10_cameBehind cX10_cameBehind 3 (some .int) :: wsL_law) ({ frames := 1, cells := 0, slots := 0, locals := 26 } : Room) (va_Pc [jR G l0, vI l1] (fun U => jRep G M U)) (jQ G (some (vI fin)) M) 0 0 (jA G) := by
  refine Met.ofW (cc := cX10_cameBehind) (maxL := 3) (ret := (some .int)) (by decide) rfl ?_
  intro p e s m args below meth c s₁ B hml hv
  obtain ⟨rfl, hR0⟩ := hv
  have C : jCx p s m ([jR G l0, vI l1] : List Value).toArray meth c cX10_cameBehind 3 RX10 (Cond.code yX10_cameBehind cX10_cameBehind 3 (some .int)) (some .int) := ⟨B.exec, B.bytes, hml, findClass_of_methodNamed B.named, atoms_spec B.pre, B.returns, B.notSynchronized⟩
  have hO := hR0.ok
  have hl := lv_entry ([jR G l0, vI l1]) (n := 3) (Nat.le_of_ble_eq_true rfl)
  rw [lg_entry_eq]
  generalize (lg_sl ([jR G l0, vI l1]) ++ List.replicate (3 - (lg_sl ([jR G l0, vI l1])).length) Slot.unset).toArray = ls at hl ⊢
  have hl : lv_has ls 3 [(0, jR G l0), (1, vI l1)] := hl
  exact w_X10_cameBehind C (Nat.le_refl _) (Nat.le_refl _) M l0 l1 h0 h hO hl
set_option maxHeartbeats 4000000 in
theorem w_X10_came {p : Program} {l : Launch} {e : Env} {R : Room} {s : State} {m : MethodId} {args : Array Value} {below : List Frame} {meth : Method} {c : Code} {H : Heap} {locs : List Loc} {ls : Array Slot} {G : jG}  (C : jCx p s m args meth c cX10_came 2 RX10 (Cond.code yX10_came cX10_came 2 (some .int)) (some .int)) (hRf : 2 ≤ R.frames) (hRl : 48 ≤ R.locals)  (M : jM) (l0 l1 : Int) (h0 : jkd l0 = (10, 0)) {fin : Int} (hf : f_X10_came M l0 l1 = some fin) (hO : jOk G M s H locs) (hl : lv_has ls 2 [(0, jR G l0), (1, vI l1)]) : W p l e R s m args below meth c H locs 0 0 (MQ below (jQ G (some (vI fin)) M) args s 0 0 (jA G)) (F0 m 0 ls []) := by
  unfold f_X10_came at hf
  refine lv_aload_n C.1 C.2.1 dX10_came_0 rfl (lv_at hl 0 rfl) ?_
  refine lv_iload_n C.1 C.2.1 dX10_came_1 rfl (lv_at hl 1 rfl) ?_
  obtain ⟨r1, hr1, hf⟩ := bnd_e hf
  refine j_callV C hO (n := 1) (As := [vI l1]) (st1 := [vI r1]) (c_X10_isRow l G M l0 l1 h0 hr1) h0 rfl kC_19_14 kM_19_11 kI_19_12 kS_19_13 kN_1_5 ⟨by decide, by decide, by decide⟩ ⟨Nat.le_trans (by decide) hRf, Nat.le_trans (by decide) hRl⟩ rfl rfl rfl hl.1 rfl (Nat.le_of_ble_eq_true rfl) ⟨Nat.zero_le _, Nat.zero_le _⟩ dX10_came_2 rfl (fun H locs hO => ?_)
  refine j_if_eq (tgt := 16) C rfl dX10_came_5 (by decide) (fun c2 => ?_) (fun c2 => ?_)
  · have hf := (if_pos c2).symm.trans hf
    refine lv_iconst (v := Int32.ofInt (-1)) C.1 C.2.1 dX10_came_16 rfl ?_
    have hf := som_e hf
    subst hf
    exact j_iret C hO dX10_came_17
  · have hf := (if_neg c2).symm.trans hf
    refine lv_aload_n C.1 C.2.1 dX10_came_8 rfl (lv_at hl 0 rfl) ?_
    refine lv_iload_n C.1 C.2.1 dX10_came_9 rfl (lv_at hl 1 rfl) ?_
    obtain ⟨r3, hr3, hf⟩ := bnd_e hf
    refine j_callV C hO (n := 1) (As := [vI l1]) (st1 := [vI r3]) (c_X10_cameBehind l G M l0 l1 h0 hr3) h0 rfl kC_38_22 kM_38_19 kI_38_20 kS_38_21 kN_1_5 ⟨by decide, by decide, by decide⟩ ⟨Nat.le_trans (by decide) hRf, Nat.le_trans (by decide) hRl⟩ rfl rfl rfl hl.1 rfl (Nat.le_of_ble_eq_true rfl) ⟨Nat.zero_le _, Nat.zero_le _⟩ dX10_came_10 rfl (fun H locs hO => ?_)
    refine lv_goto (tgt := 17) C.1 C.2.1 dX10_came_13 (by decide) ?_
    have hf := som_e hf
    subst hf
    exact j_iret C hO dX10_came_17
set_option maxHeartbeats 1000000 in
theorem c_X10_came (l : Launch) (G : jG)  (M : jM) (l0 l1 : Int) (h0 : jkd l0 = (10, 0)) {fin : Int} (h : f_X10_came M l0 l1 = some fin) : Met l yX10_came (Cond.code yX10_came cX10_came 2 (some .int) :: wsL_law) ({ frames := 2, cells := 0, slots := 0, locals := 48 } : Room) (va_Pc [jR G l0, vI l1] (fun U => jRep G M U)) (jQ G (some (vI fin)) M) 0 0 (jA G) := by
  refine Met.ofW (cc := cX10_came) (maxL := 2) (ret := (some .int)) (by decide) rfl ?_
  intro p e s m args below meth c s₁ B hml hv
  obtain ⟨rfl, hR0⟩ := hv
  have C : jCx p s m ([jR G l0, vI l1] : List Value).toArray meth c cX10_came 2 RX10 (Cond.code yX10_came cX10_came 2 (some .int)) (some .int) := ⟨B.exec, B.bytes, hml, findClass_of_methodNamed B.named, atoms_spec B.pre, B.returns, B.notSynchronized⟩
  have hO := hR0.ok
  have hl := lv_entry ([jR G l0, vI l1]) (n := 2) (Nat.le_of_ble_eq_true rfl)
  rw [lg_entry_eq]
  generalize (lg_sl ([jR G l0, vI l1]) ++ List.replicate (2 - (lg_sl ([jR G l0, vI l1])).length) Slot.unset).toArray = ls at hl ⊢
  have hl : lv_has ls 2 [(0, jR G l0), (1, vI l1)] := hl
  exact w_X10_came C (Nat.le_refl _) (Nat.le_refl _) M l0 l1 h0 h hO hl
