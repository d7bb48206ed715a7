set_option maxHeartbeats 4000000 in
theorem w_X0_run_L15 {p : Program} {l : Launch} {e : Env} {R : Room} {s : State} {m : MethodId} {args : Array Value} {below : List Frame} {meth : Method} {c : Code} {H : Heap} {locs : List Loc} {ls : Array Slot} {G : jG} {Fd Ld : Nat} {r_X0_run : jM → Int → Int → Int → Int → Int → Option (Int × jM)} (C : jCx p s m args meth c cX0_run 9 RX0 (Cond.code yX0_run cX0_run 9 (some .int)) (some .int)) (hRf : 1 ≤ R.frames) (hRl : 21 ≤ R.locals) (Hr_X0_run : ∀ (G : jG) (M : jM) (a0 a1 a2 a3 a4 : Int) (q : Int × jM), r_X0_run M a0 a1 a2 a3 a4 = some q → jkd a0 = (0, 0) → Met l yX0_run (Cond.code yX0_run cX0_run 9 (some .int) :: wsL_law) ({ frames := Fd, cells := 0, slots := 0, locals := Ld } : Room) (va_Pc [jR G a0, vI a1, vI a2, vI a3, vI a4] (fun U => jRep G M U)) (jQ G (some (vI q.1)) q.2) 0 0 (jA G)) (hFd : Fd + 1 ≤ R.frames) (hLd : Ld + 28 ≤ R.locals) (M : jM) (l0 l2 l3 l4 : Int) (h0 : jkd l0 = (0, 0)) {fin : Int × jM} (S : Int × Int) {rr : (Int × Int) ⊕ Int} (hf : f_X0_run_L15 r_X0_run M l0 l2 l3 l4 S = some rr) (kc : ∀ q : Int × Int, rr = .inl q → ∀ (H : Heap) (locs : List Loc) (ls : Array Slot), jOk G M s H locs → lv_has ls 9 [(0, jR G l0), (2, vI l2), (3, vI l3), (4, vI l4), (5, vI q.1), (6, vI q.2)] → W p l e R s m args below meth c H locs 0 0 (MQ below (jQ G (some (vI fin.1)) fin.2) args s 0 0 (jA G)) (F0 m 15 ls [])) (kx0 : ∀ q : Int, rr = .inr q → ∀ (H : Heap) (locs : List Loc) (ls : Array Slot), jOk G M s H locs → lv_has ls 9 [(0, jR G l0), (2, vI l2), (3, vI l3), (4, vI l4), (5, vI q)] → W p l e R s m args below meth c H locs 0 0 (MQ below (jQ G (some (vI fin.1)) fin.2) args s 0 0 (jA G)) (F0 m 44 ls [])) (hO : jOk G M s H locs) (hl : lv_has ls 9 [(0, jR G l0), (2, vI l2), (3, vI l3), (4, vI l4), (5, vI S.1), (6, vI S.2)]) : W p l e R s m args below meth c H locs 0 0 (MQ below (jQ G (some (vI fin.1)) fin.2) args s 0 0 (jA G)) (F0 m 15 ls []) := by
  unfold f_X0_run_L15 at hf
  refine lv_iload C.1 C.2.1 dX0_run_15 (lv_at hl 5 rfl) ?_
  refine lv_bipush (v := Int32.ofInt 7) C.1 C.2.1 dX0_run_17 (by decide) ?_
  refine j_icmp_ge (tgt := 44) C rfl (w32_id (by decide) (by decide)) dX0_run_19 (by decide) (fun c2 => ?_) (fun c2 => ?_)
  · have hf := (if_pos c2).symm.trans hf
    exact kx0 _ (som_e hf).symm _ _ _ hO (lv_sub hl [0, 1, 2, 3, 4] rfl)
  · have hf := (if_neg c2).symm.trans hf
    refine lv_iload C.1 C.2.1 dX0_run_22 (lv_at hl 4 rfl) ?_
    refine lv_iload_n C.1 C.2.1 dX0_run_24 rfl (lv_at hl 1 rfl) ?_
    obtain ⟨r3, hr3, hf⟩ := bnd_e hf
    refine j_callS C hO (n := 2) (As := [vI S.1, vI l2]) (st1 := [vI r3]) (c_X0_bodyOf l G M S.1 l2  hr3) kC_40_17 kM_40_15 kT_40_16 kN_2_20 ⟨by decide, by decide, by decide⟩ ⟨Nat.le_trans (by decide) hRf, Nat.le_trans (by decide) hRl⟩ rfl rfl rfl hl.1 rfl (Nat.le_of_ble_eq_true rfl) ⟨Nat.zero_le _, Nat.zero_le _⟩ dX0_run_25 rfl (fun H locs hO => ?_)
    refine j_if_ne (tgt := 44) C rfl dX0_run_28 (by decide) (fun c4 => ?_) (fun c4 => ?_)
    · have hf := (if_neg c4).symm.trans hf
      exact kx0 _ (som_e hf).symm _ _ _ hO (lv_sub hl [0, 1, 2, 3, 4] rfl)
    · have hf := (if_pos c4).symm.trans hf
      refine lv_iload C.1 C.2.1 dX0_run_31 (lv_at hl 4 rfl) ?_
      obtain ⟨r5, hr5, hf⟩ := bnd_e hf
      refine j_callSN C hO (n := 1) (As := [vI S.1]) (st1 := [vI r5]) (host := RX9) (c_X9_above l G M S.1  hr5) kC_40_20 (by simp [jnests]) kT_40_19 kN_1_2 ⟨by decide, by decide, by decide⟩ ⟨Nat.le_trans (by decide) hRf, Nat.le_trans (by decide) hRl⟩ rfl rfl rfl hl.1 rfl (Nat.le_of_ble_eq_true rfl) ⟨Nat.zero_le _, Nat.zero_le _⟩ dX0_run_33 rfl (fun H locs hO => ?_)
      refine lv_istore (lv' := [(5, vI r5), (0, jR G l0), (2, vI l2), (3, vI l3), (4, vI l4), (6, vI S.2)]) C.1 C.2.1 dX0_run_36 hl (by decide) rfl (fun ls hl => ?_)
      refine lv_iinc (v := Int32.ofInt (S.2 + 1)) (lv' := [(6, vI (S.2 + 1)), (5, vI r5), (0, jR G l0), (2, vI l2), (3, vI l3), (4, vI l4)]) C.1 C.2.1 dX0_run_38 hl (k := 5) rfl (Int32.ofInt_add _ _).symm (by decide) rfl (fun ls hl => ?_)
      refine lv_goto (tgt := 15) C.1 C.2.1 dX0_run_41 (by decide) ?_
      exact kc _ (som_e hf).symm _ _ _ hO (lv_sub hl [2, 3, 4, 5, 1, 0] rfl)
set_option maxHeartbeats 4000000 in
theorem w_X0_run {p : Program} {l : Launch} {e : Env} {R : Room} {s : State} {m : MethodId} {args : Array Value} {below : List Frame} {meth : Method} {c : Code} {H : Heap} {locs : List Loc} {ls : Array Slot} {G : jG} {Fd Ld : Nat} {r_X0_run : jM → Int → Int → Int → Int → Int → Option (Int × jM)} (C : jCx p s m args meth c cX0_run 9 RX0 (Cond.code yX0_run cX0_run 9 (some .int)) (some .int)) (hRf : 1 ≤ R.frames) (hRl : 21 ≤ R.locals) (Hr_X0_run : ∀ (G : jG) (M : jM) (a0 a1 a2 a3 a4 : Int) (q : Int × jM), r_X0_run M a0 a1 a2 a3 a4 = some q → jkd a0 = (0, 0) → Met l yX0_run (Cond.code yX0_run cX0_run 9 (some .int) :: wsL_law) ({ frames := Fd, cells := 0, slots := 0, locals := Ld } : Room) (va_Pc [jR G a0, vI a1, vI a2, vI a3, vI a4] (fun U => jRep G M U)) (jQ G (some (vI q.1)) q.2) 0 0 (jA G)) (hFd : Fd + 1 ≤ R.frames) (hLd : Ld + 28 ≤ R.locals) (M : jM) (l0 l1 l2 l3 l4 : Int) (h0 : jkd l0 = (0, 0)) {fin : Int × jM} (hf : fb_X0_run r_X0_run M l0 l1 l2 l3 l4 = some fin) (hO : jOk G M s H locs) (hl : lv_has ls 9 [(0, jR G l0), (1, vI l1), (2, vI l2), (3, vI l3), (4, vI l4)]) : W p l e R s m args below meth c H locs 0 0 (MQ below (jQ G (some (vI fin.1)) fin.2) args s 0 0 (jA G)) (F0 m 0 ls []) := by
  unfold fb_X0_run at hf
  refine lv_iload C.1 C.2.1 dX0_run_0 (lv_at hl 4 rfl) ?_
  refine lv_bipush (v := Int32.ofInt 20) C.1 C.2.1 dX0_run_2 (by decide) ?_
  refine j_icmp_lt (tgt := 9) C rfl (w32_id (by decide) (by decide)) dX0_run_4 (by decide) (fun c1 => ?_) (fun c1 => ?_)
  · have hf := (if_pos c1).symm.trans hf
    refine lv_iload_n C.1 C.2.1 dX0_run_9 rfl (lv_at hl 1 rfl) ?_
    refine lv_istore (lv' := [(5, vI l1), (0, jR G l0), (1, vI l1), (2, vI l2), (3, vI l3), (4, vI l4)]) C.1 C.2.1 dX0_run_10 hl (by decide) rfl (fun ls hl => ?_)
    refine lv_iconst (v := Int32.ofInt 0) C.1 C.2.1 dX0_run_12 rfl ?_
    refine lv_istore (lv' := [(6, vI 0), (5, vI l1), (0, jR G l0), (1, vI l1), (2, vI l2), (3, vI l3), (4, vI l4)]) C.1 C.2.1 dX0_run_13 hl (by decide) rfl (fun ls hl => ?_)
    obtain ⟨x6, hx6, hf⟩ := bnd_e hf
    refine iter_e (P := fun Z => ∀ (H : Heap) (locs : List Loc) (ls : Array Slot), jOk G M s H locs → lv_has ls 9 [(0, jR G l0), (2, vI l2), (3, vI l3), (4, vI l4), (5, vI Z.1), (6, vI Z.2)] → W p l e R s m args below meth c H locs 0 0 (MQ below (jQ G (some (vI fin.1)) fin.2) args s 0 0 (jA G)) (F0 m 15 ls [])) (E := fun q => ∀ (H : Heap) (locs : List Loc) (ls : Array Slot), jOk G M s H locs → lv_has ls 9 [(0, jR G l0), (2, vI l2), (3, vI l3), (4, vI l4), (5, vI q)] → W p l e R s m args below meth c H locs 0 0 (MQ below (jQ G (some (vI fin.1)) fin.2) args s 0 0 (jA G)) (F0 m 44 ls [])) (fun Z rr hb kc kx H locs ls hO hl => w_X0_run_L15 C hRf hRl Hr_X0_run hFd hLd M l0 l2 l3 l4 h0 Z hb kc (fun q e => kx q e) hO hl) 5000 (l1, 0) x6 hx6 ?_ _ _ _ hO (lv_sub hl [2, 4, 5, 6, 1, 0] rfl)
    clear hO hl
    intro H locs ls hO hl
    refine lv_iload C.1 C.2.1 dX0_run_44 (lv_at hl 4 rfl) ?_
    refine lv_iload_n C.1 C.2.1 dX0_run_46 rfl (lv_at hl 1 rfl) ?_
    obtain ⟨r7, hr7, hf⟩ := bnd_e hf
    refine j_callS C hO (n := 2) (As := [vI x6, vI l2]) (st1 := [vI r7]) (c_X0_bodyOf l G M x6 l2  hr7) kC_40_17 kM_40_15 kT_40_16 kN_2_20 ⟨by decide, by decide, by decide⟩ ⟨Nat.le_trans (by decide) hRf, Nat.le_trans (by decide) hRl⟩ rfl rfl rfl hl.1 rfl (Nat.le_of_ble_eq_true rfl) ⟨Nat.zero_le _, Nat.zero_le _⟩ dX0_run_47 rfl (fun H locs hO => ?_)
    refine lv_istore (lv' := [(6, vI r7), (0, jR G l0), (2, vI l2), (3, vI l3), (4, vI l4), (5, vI x6)]) C.1 C.2.1 dX0_run_50 hl (by decide) rfl (fun ls hl => ?_)
    refine lv_iload C.1 C.2.1 dX0_run_52 (lv_at hl 5 rfl) ?_
    obtain ⟨r8, hr8, hf⟩ := bnd_e hf
    refine j_callSN C hO (n := 1) (As := [vI x6]) (st1 := [vI r8]) (host := RX9) (c_X9_above l G M x6  hr8) kC_40_20 (by simp [jnests]) kT_40_19 kN_1_2 ⟨by decide, by decide, by decide⟩ ⟨Nat.le_trans (by decide) hRf, Nat.le_trans (by decide) hRl⟩ rfl rfl rfl hl.1 rfl (Nat.le_of_ble_eq_true rfl) ⟨Nat.zero_le _, Nat.zero_le _⟩ dX0_run_54 rfl (fun H locs hO => ?_)
    refine lv_istore (lv' := [(7, vI r8), (6, vI r7), (0, jR G l0), (2, vI l2), (3, vI l3), (4, vI l4), (5, vI x6)]) C.1 C.2.1 dX0_run_57 hl (by decide) rfl (fun ls hl => ?_)
    refine lv_iload C.1 C.2.1 dX0_run_59 (lv_at hl 5 rfl) ?_
    refine lv_iconst (v := Int32.ofInt 1) C.1 C.2.1 dX0_run_61 rfl ?_
    refine j_iadd C dX0_run_62 ?_
    refine lv_istore (lv' := [(8, vI (l4 + 1)), (7, vI r8), (6, vI r7), (0, jR G l0), (2, vI l2), (3, vI l3), (4, vI l4), (5, vI x6)]) C.1 C.2.1 dX0_run_63 hl (by decide) rfl (fun ls hl => ?_)
    refine lv_aload_n C.1 C.2.1 dX0_run_65 rfl (lv_at hl 3 rfl) ?_
    refine lv_iload C.1 C.2.1 dX0_run_66 (lv_at hl 2 rfl) ?_
    obtain ⟨r9, hr9, hf⟩ := bnd_e hf
    refine j_callV C hO (n := 1) (As := [vI r7]) (st1 := []) (c_X0_note l G M l0 r7 h0 hr9) h0 rfl kC_41_1 kM_40_22 kI_40_23 kS_41_0 kN_2_20 ⟨by decide, by decide, by decide⟩ ⟨Nat.le_trans (by decide) hRf, Nat.le_trans (by decide) hRl⟩ rfl rfl rfl hl.1 rfl (Nat.le_of_ble_eq_true rfl) ⟨Nat.zero_le _, Nat.zero_le _⟩ dX0_run_68 rfl (fun H locs hO => ?_)
    refine lv_iload C.1 C.2.1 dX0_run_71 (lv_at hl 2 rfl) ?_
    by_cases c10 : w32 r7 = 1
    · have hf := (if_pos c10).symm.trans hf
      refine j_lsw (tgt := 156) (off := 83) C c10 dX0_run_73 (by decide) (by decide) (by decide) ?_
      refine lv_iload_n C.1 C.2.1 dX0_run_156 rfl (lv_at hl 5 rfl) ?_
      refine lv_aload_n C.1 C.2.1 dX0_run_157 rfl (lv_at hl 3 rfl) ?_
      refine j_get C hO (ci := 0) (k := 4) (v := vI (r9 l0 4)) h0 rfl inlX0 (by decide) kF_40_9 rfl rfl dX0_run_158 ?_
      refine j_iadd C dX0_run_161 ?_
      have hf := som_e hf
      subst hf
      exact j_iret C hO dX0_run_162
    have hf := (if_neg c10).symm.trans hf
    by_cases c11 : w32 r7 = 2
    · have hf := (if_pos c11).symm.trans hf
      refine j_lsw (tgt := 163) (off := 90) C c11 dX0_run_73 (by decide) (by decide) (by decide) ?_
      refine lv_aload_n C.1 C.2.1 dX0_run_163 rfl (lv_at hl 3 rfl) ?_
      refine lv_aload_n C.1 C.2.1 dX0_run_164 rfl (lv_at hl 3 rfl) ?_
      refine j_get C hO (ci := 0) (k := 2) (v := vI (r9 l0 2)) h0 rfl inlX0 (by decide) kF_40_6 rfl rfl dX0_run_165 ?_
      refine lv_iconst (v := Int32.ofInt 0) C.1 C.2.1 dX0_run_168 rfl ?_
      refine lv_iload_n C.1 C.2.1 dX0_run_169 rfl (lv_at hl 5 rfl) ?_
      refine lv_iload C.1 C.2.1 dX0_run_170 (lv_at hl 0 rfl) ?_
      obtain ⟨r12, hr12, hf⟩ := bnd_e hf
      refine j_callV C hO (n := 4) (As := [vI (r9 l0 2), vI 0, vI l3, vI (l4 + 1)]) (st1 := [vI r12.1]) (Hr_X0_run G r9 l0 (r9 l0 2) 0 l3 (l4 + 1) r12 hr12 h0) h0 rfl kC_40_14 kM_40_11 kI_40_12 kS_40_13 kN_2_20 ⟨by decide, by decide, by decide⟩ ⟨hFd, jle (by decide) hLd⟩ rfl rfl rfl hl.1 rfl (Nat.le_of_ble_eq_true rfl) ⟨Nat.zero_le _, Nat.zero_le _⟩ dX0_run_172 rfl (fun H locs hO => ?_)
      refine lv_aload_n C.1 C.2.1 dX0_run_175 rfl (lv_at hl 3 rfl) ?_
      refine j_get C hO (ci := 0) (k := 3) (v := vI (r12.2 l0 3)) h0 rfl inlX0 (by decide) kF_40_8 rfl rfl dX0_run_176 ?_
      refine j_isub C dX0_run_179 ?_
      have hf := som_e hf
      subst hf
      exact j_iret C hO dX0_run_180
    have hf := (if_neg c11).symm.trans hf
    by_cases c13 : w32 r7 = 3
    · have hf := (if_pos c13).symm.trans hf
      refine j_lsw (tgt := 181) (off := 108) C c13 dX0_run_73 (by decide) (by decide) (by decide) ?_
      refine lv_aload_n C.1 C.2.1 dX0_run_181 rfl (lv_at hl 3 rfl) ?_
      refine lv_aload_n C.1 C.2.1 dX0_run_182 rfl (lv_at hl 3 rfl) ?_
      refine j_get C hO (ci := 0) (k := 2) (v := vI (r9 l0 2)) h0 rfl inlX0 (by decide) kF_40_6 rfl rfl dX0_run_183 ?_
      refine lv_iconst (v := Int32.ofInt 1) C.1 C.2.1 dX0_run_186 rfl ?_
      refine lv_iload_n C.1 C.2.1 dX0_run_187 rfl (lv_at hl 5 rfl) ?_
      refine lv_iload C.1 C.2.1 dX0_run_188 (lv_at hl 0 rfl) ?_
      obtain ⟨r14, hr14, hf⟩ := bnd_e hf
      refine j_callV C hO (n := 4) (As := [vI (r9 l0 2), vI 1, vI l3, vI (l4 + 1)]) (st1 := [vI r14.1]) (Hr_X0_run G r9 l0 (r9 l0 2) 1 l3 (l4 + 1) r14 hr14 h0) h0 rfl kC_40_14 kM_40_11 kI_40_12 kS_40_13 kN_2_20 ⟨by decide, by decide, by decide⟩ ⟨hFd, jle (by decide) hLd⟩ rfl rfl rfl hl.1 rfl (Nat.le_of_ble_eq_true rfl) ⟨Nat.zero_le _, Nat.zero_le _⟩ dX0_run_190 rfl (fun H locs hO => ?_)
      refine lv_iconst (v := Int32.ofInt 2) C.1 C.2.1 dX0_run_193 rfl ?_
      refine j_imul C dX0_run_194 ?_
      have hf := som_e hf
      subst hf
      exact j_iret C hO dX0_run_195
    have hf := (if_neg c13).symm.trans hf
    by_cases c15 : w32 r7 = 11
    · have hf := (if_pos c15).symm.trans hf
      refine j_lsw (tgt := 196) (off := 123) C c15 dX0_run_73 (by decide) (by decide) (by decide) ?_
      refine lv_aload_n C.1 C.2.1 dX0_run_196 rfl (lv_at hl 3 rfl) ?_
      refine lv_iload C.1 C.2.1 dX0_run_197 (lv_at hl 1 rfl) ?_
      refine lv_iconst (v := Int32.ofInt 0) C.1 C.2.1 dX0_run_199 rfl ?_
      refine lv_iload_n C.1 C.2.1 dX0_run_200 rfl (lv_at hl 5 rfl) ?_
      refine lv_iconst (v := Int32.ofInt 3) C.1 C.2.1 dX0_run_201 rfl ?_
      refine j_imul C dX0_run_202 ?_
      refine lv_iload C.1 C.2.1 dX0_run_203 (lv_at hl 0 rfl) ?_
      obtain ⟨r16, hr16, hf⟩ := bnd_e hf
      refine j_callV C hO (n := 4) (As := [vI r8, vI 0, vI (l3 * 3), vI (l4 + 1)]) (st1 := [vI r16.1]) (Hr_X0_run G r9 l0 r8 0 (l3 * 3) (l4 + 1) r16 hr16 h0) h0 rfl kC_40_14 kM_40_11 kI_40_12 kS_40_13 kN_2_20 ⟨by decide, by decide, by decide⟩ ⟨hFd, jle (by decide) hLd⟩ rfl rfl rfl hl.1 rfl (Nat.le_of_ble_eq_true rfl) ⟨Nat.zero_le _, Nat.zero_le _⟩ dX0_run_205 rfl (fun H locs hO => ?_)
      have hf := som_e hf
      subst hf
      exact j_iret C hO dX0_run_208
    have hf := (if_neg c15).symm.trans hf
    by_cases c17 : w32 r7 = 21
    · have hf := (if_pos c17).symm.trans hf
      refine j_lsw (tgt := 209) (off := 136) C c17 dX0_run_73 (by decide) (by decide) (by decide) ?_
      refine lv_aload_n C.1 C.2.1 dX0_run_209 rfl (lv_at hl 3 rfl) ?_
      refine lv_iload C.1 C.2.1 dX0_run_210 (lv_at hl 1 rfl) ?_
      refine lv_iconst (v := Int32.ofInt 1) C.1 C.2.1 dX0_run_212 rfl ?_
      refine lv_iload_n C.1 C.2.1 dX0_run_213 rfl (lv_at hl 5 rfl) ?_
      refine lv_iload C.1 C.2.1 dX0_run_214 (lv_at hl 0 rfl) ?_
      obtain ⟨r18, hr18, hf⟩ := bnd_e hf
      refine j_callV C hO (n := 4) (As := [vI r8, vI 1, vI l3, vI (l4 + 1)]) (st1 := [vI r18.1]) (Hr_X0_run G r9 l0 r8 1 l3 (l4 + 1) r18 hr18 h0) h0 rfl kC_40_14 kM_40_11 kI_40_12 kS_40_13 kN_2_20 ⟨by decide, by decide, by decide⟩ ⟨hFd, jle (by decide) hLd⟩ rfl rfl rfl hl.1 rfl (Nat.le_of_ble_eq_true rfl) ⟨Nat.zero_le _, Nat.zero_le _⟩ dX0_run_216 rfl (fun H locs hO => ?_)
      refine j_ineg C dX0_run_219 ?_
      have hf := som_e hf
      subst hf
      exact j_iret C hO dX0_run_220
    have hf := (if_neg c17).symm.trans hf
    by_cases c19 : w32 r7 = 31
    · have hf := (if_pos c19).symm.trans hf
      refine j_lsw (tgt := 221) (off := 148) C c19 dX0_run_73 (by decide) (by decide) (by decide) ?_
      refine lv_aload_n C.1 C.2.1 dX0_run_221 rfl (lv_at hl 3 rfl) ?_
      refine lv_iload C.1 C.2.1 dX0_run_222 (lv_at hl 1 rfl) ?_
      refine lv_iconst (v := Int32.ofInt 2) C.1 C.2.1 dX0_run_224 rfl ?_
      refine lv_iload_n C.1 C.2.1 dX0_run_225 rfl (lv_at hl 5 rfl) ?_
      refine lv_iload C.1 C.2.1 dX0_run_226 (lv_at hl 0 rfl) ?_
      obtain ⟨r20, hr20, hf⟩ := bnd_e hf
      refine j_callV C hO (n := 4) (As := [vI r8, vI 2, vI l3, vI (l4 + 1)]) (st1 := [vI r20.1]) (Hr_X0_run G r9 l0 r8 2 l3 (l4 + 1) r20 hr20 h0) h0 rfl kC_40_14 kM_40_11 kI_40_12 kS_40_13 kN_2_20 ⟨by decide, by decide, by decide⟩ ⟨hFd, jle (by decide) hLd⟩ rfl rfl rfl hl.1 rfl (Nat.le_of_ble_eq_true rfl) ⟨Nat.zero_le _, Nat.zero_le _⟩ dX0_run_228 rfl (fun H locs hO => ?_)
      refine lv_bipush (v := Int32.ofInt 7) C.1 C.2.1 dX0_run_231 (by decide) ?_
      refine j_ixor C dX0_run_233 ?_
      have hf := som_e hf
      subst hf
      exact j_iret C hO dX0_run_234
    have hf := (if_neg c19).symm.trans hf
    by_cases c21 : w32 r7 = 41
    · have hf := (if_pos c21).symm.trans hf
      refine j_lsw (tgt := 235) (off := 162) C c21 dX0_run_73 (by decide) (by decide) (by decide) ?_
      refine lv_aload_n C.1 C.2.1 dX0_run_235 rfl (lv_at hl 3 rfl) ?_
      refine lv_iload C.1 C.2.1 dX0_run_236 (lv_at hl 1 rfl) ?_
      refine lv_iconst (v := Int32.ofInt 2) C.1 C.2.1 dX0_run_238 rfl ?_
      refine lv_iload_n C.1 C.2.1 dX0_run_239 rfl (lv_at hl 5 rfl) ?_
      refine lv_iconst (v := Int32.ofInt 1) C.1 C.2.1 dX0_run_240 rfl ?_
      refine j_isub C dX0_run_241 ?_
      refine lv_iload C.1 C.2.1 dX0_run_242 (lv_at hl 0 rfl) ?_
      obtain ⟨r22, hr22, hf⟩ := bnd_e hf
      refine j_callV C hO (n := 4) (As := [vI r8, vI 2, vI (l3 - 1), vI (l4 + 1)]) (st1 := [vI r22.1]) (Hr_X0_run G r9 l0 r8 2 (l3 - 1) (l4 + 1) r22 hr22 h0) h0 rfl kC_40_14 kM_40_11 kI_40_12 kS_40_13 kN_2_20 ⟨by decide, by decide, by decide⟩ ⟨hFd, jle (by decide) hLd⟩ rfl rfl rfl hl.1 rfl (Nat.le_of_ble_eq_true rfl) ⟨Nat.zero_le _, Nat.zero_le _⟩ dX0_run_244 rfl (fun H locs hO => ?_)
      refine lv_aload_n C.1 C.2.1 dX0_run_247 rfl (lv_at hl 3 rfl) ?_
      refine lv_aload_n C.1 C.2.1 dX0_run_248 rfl (lv_at hl 3 rfl) ?_
      refine j_get C hO (ci := 0) (k := 2) (v := vI (r22.2 l0 2)) h0 rfl inlX0 (by decide) kF_40_6 rfl rfl dX0_run_249 ?_
      refine lv_iconst (v := Int32.ofInt 0) C.1 C.2.1 dX0_run_252 rfl ?_
      refine lv_iconst (v := Int32.ofInt 2) C.1 C.2.1 dX0_run_253 rfl ?_
      refine lv_iload C.1 C.2.1 dX0_run_254 (lv_at hl 0 rfl) ?_
      obtain ⟨r23, hr23, hf⟩ := bnd_e hf
      refine j_callV C hO (n := 4) (As := [vI (r22.2 l0 2), vI 0, vI 2, vI (l4 + 1)]) (st1 := [vI r23.1, vI r22.1]) (Hr_X0_run G r22.2 l0 (r22.2 l0 2) 0 2 (l4 + 1) r23 hr23 h0) h0 rfl kC_40_14 kM_40_11 kI_40_12 kS_40_13 kN_2_20 ⟨by decide, by decide, by decide⟩ ⟨hFd, jle (by decide) hLd⟩ rfl rfl rfl hl.1 rfl (Nat.le_of_ble_eq_true rfl) ⟨Nat.zero_le _, Nat.zero_le _⟩ dX0_run_256 rfl (fun H locs hO => ?_)
      refine j_iadd C dX0_run_259 ?_
      have hf := som_e hf
      subst hf
      exact j_iret C hO dX0_run_260
    have hf := (if_neg c21).symm.trans hf
    by_cases c24 : w32 r7 = 51
    · have hf := (if_pos c24).symm.trans hf
      refine j_lsw (tgt := 261) (off := 188) C c24 dX0_run_73 (by decide) (by decide) (by decide) ?_
      refine lv_aload_n C.1 C.2.1 dX0_run_261 rfl (lv_at hl 3 rfl) ?_
      refine lv_iload C.1 C.2.1 dX0_run_262 (lv_at hl 1 rfl) ?_
      refine lv_iconst (v := Int32.ofInt 0) C.1 C.2.1 dX0_run_264 rfl ?_
      refine lv_iload_n C.1 C.2.1 dX0_run_265 rfl (lv_at hl 5 rfl) ?_
      refine lv_iload C.1 C.2.1 dX0_run_266 (lv_at hl 0 rfl) ?_
      obtain ⟨r25, hr25, hf⟩ := bnd_e hf
      refine j_callV C hO (n := 4) (As := [vI r8, vI 0, vI l3, vI (l4 + 1)]) (st1 := [vI r25.1]) (Hr_X0_run G r9 l0 r8 0 l3 (l4 + 1) r25 hr25 h0) h0 rfl kC_40_14 kM_40_11 kI_40_12 kS_40_13 kN_2_20 ⟨by decide, by decide, by decide⟩ ⟨hFd, jle (by decide) hLd⟩ rfl rfl rfl hl.1 rfl (Nat.le_of_ble_eq_true rfl) ⟨Nat.zero_le _, Nat.zero_le _⟩ dX0_run_268 rfl (fun H locs hO => ?_)
      refine lv_aload_n C.1 C.2.1 dX0_run_271 rfl (lv_at hl 3 rfl) ?_
      refine j_get C hO (ci := 0) (k := 4) (v := vI (r25.2 l0 4)) h0 rfl inlX0 (by decide) kF_40_9 rfl rfl dX0_run_272 ?_
      refine j_ixor C dX0_run_275 ?_
      have hf := som_e hf
      subst hf
      exact j_iret C hO dX0_run_276
    have hf := (if_neg c24).symm.trans hf
    by_cases c26 : w32 r7 = 61
    · have hf := (if_pos c26).symm.trans hf
      refine j_lsw (tgt := 277) (off := 204) C c26 dX0_run_73 (by decide) (by decide) (by decide) ?_
      refine lv_aload_n C.1 C.2.1 dX0_run_277 rfl (lv_at hl 3 rfl) ?_
      refine lv_iload C.1 C.2.1 dX0_run_278 (lv_at hl 1 rfl) ?_
      refine lv_iconst (v := Int32.ofInt 1) C.1 C.2.1 dX0_run_280 rfl ?_
      refine lv_iload_n C.1 C.2.1 dX0_run_281 rfl (lv_at hl 5 rfl) ?_
      refine lv_iload C.1 C.2.1 dX0_run_282 (lv_at hl 0 rfl) ?_
      obtain ⟨r27, hr27, hf⟩ := bnd_e hf
      refine j_callV C hO (n := 4) (As := [vI r8, vI 1, vI l3, vI (l4 + 1)]) (st1 := [vI r27.1]) (Hr_X0_run G r9 l0 r8 1 l3 (l4 + 1) r27 hr27 h0) h0 rfl kC_40_14 kM_40_11 kI_40_12 kS_40_13 kN_2_20 ⟨by decide, by decide, by decide⟩ ⟨hFd, jle (by decide) hLd⟩ rfl rfl rfl hl.1 rfl (Nat.le_of_ble_eq_true rfl) ⟨Nat.zero_le _, Nat.zero_le _⟩ dX0_run_284 rfl (fun H locs hO => ?_)
      refine lv_aload_n C.1 C.2.1 dX0_run_287 rfl (lv_at hl 3 rfl) ?_
      refine j_get C hO (ci := 0) (k := 3) (v := vI (r27.2 l0 3)) h0 rfl inlX0 (by decide) kF_40_8 rfl rfl dX0_run_288 ?_
      refine j_iadd C dX0_run_291 ?_
      have hf := som_e hf
      subst hf
      exact j_iret C hO dX0_run_292
    have hf := (if_neg c26).symm.trans hf
    refine j_lsd (tgt := 293) C (off := 220) dX0_run_73 (by decide) (by simp [Op.lookupswitch.offset, Ne.symm c10, Ne.symm c11, Ne.symm c13, Ne.symm c15, Ne.symm c17, Ne.symm c19, Ne.symm c21, Ne.symm c24, Ne.symm c26]) (by decide) ?_
    refine lv_iconst (v := Int32.ofInt 0) C.1 C.2.1 dX0_run_293 rfl ?_
    have hf := som_e hf
    subst hf
    exact j_iret C hO dX0_run_294
  · have hf := (if_neg c1).symm.trans hf
    refine lv_iconst (v := Int32.ofInt 0) C.1 C.2.1 dX0_run_7 rfl ?_
    have hf := som_e hf
    subst hf
    exact j_iret C hO dX0_run_8
set_option maxHeartbeats 1000000 in
theorem cb_X0_run (l : Launch) (G : jG) {Fd Ld F0 L0 : Nat} (hF0 : 1 ≤ F0) (hL0 : 21 ≤ L0) (r_X0_run : jM → Int → Int → Int → Int → Int → Option (Int × jM)) (Hr_X0_run : ∀ (G : jG) (M : jM) (a0 a1 a2 a3 a4 : Int) (q : Int × jM), r_X0_run M a0 a1 a2 a3 a4 = some q → jkd a0 = (0, 0) → Met l yX0_run (Cond.code yX0_run cX0_run 9 (some .int) :: wsL_law) ({ frames := Fd, cells := 0, slots := 0, locals := Ld } : Room) (va_Pc [jR G a0, vI a1, vI a2, vI a3, vI a4] (fun U => jRep G M U)) (jQ G (some (vI q.1)) q.2) 0 0 (jA G)) (hFd : Fd + 1 ≤ F0) (hLd : Ld + 28 ≤ L0) (M : jM) (l0 l1 l2 l3 l4 : Int) (h0 : jkd l0 = (0, 0)) {fin : Int × jM} (h : fb_X0_run r_X0_run M l0 l1 l2 l3 l4 = some fin) : Met l yX0_run (Cond.code yX0_run cX0_run 9 (some .int) :: wsL_law) ({ frames := F0, cells := 0, slots := 0, locals := L0 } : Room) (va_Pc [jR G l0, vI l1, vI l2, vI l3, vI l4] (fun U => jRep G M U)) (jQ G (some (vI fin.1)) fin.2) 0 0 (jA G) := by
  refine Met.ofW (cc := cX0_run) (maxL := 9) (ret := (some .int)) (by decide) rfl ?_
  intro p e s m args below meth c s₁ B hml hv
  obtain ⟨rfl, hR0⟩ := hv
  have C : jCx p s m ([jR G l0, vI l1, vI l2, vI l3, vI l4] : List Value).toArray meth c cX0_run 9 RX0 (Cond.code yX0_run cX0_run 9 (some .int)) (some .int) := ⟨B.exec, B.bytes, hml, findClass_of_methodNamed B.named, atoms_spec B.pre, B.returns, B.notSynchronized⟩
  have hO := hR0.ok
  have hl := lv_entry ([jR G l0, vI l1, vI l2, vI l3, vI l4]) (n := 9) (Nat.le_of_ble_eq_true rfl)
  rw [lg_entry_eq]
  generalize (lg_sl ([jR G l0, vI l1, vI l2, vI l3, vI l4]) ++ List.replicate (9 - (lg_sl ([jR G l0, vI l1, vI l2, vI l3, vI l4])).length) Slot.unset).toArray = ls at hl ⊢
  have hl : lv_has ls 9 [(0, jR G l0), (1, vI l1), (2, vI l2), (3, vI l3), (4, vI l4)] := hl
  exact w_X0_run C hF0 hL0 Hr_X0_run hFd hLd M l0 l1 l2 l3 l4 h0 h hO hl
set_option maxHeartbeats 1000000 in
theorem cx_fx_ac (l : Launch) : ∀ d : Nat, (∀ (G : jG) (M : jM) (a0 a1 a2 a3 a4 : Int) (q : Int × jM), fx_ac d 0 M a0 a1 a2 a3 a4 = some q → jkd a0 = (0, 0) → Met l yX0_run (Cond.code yX0_run cX0_run 9 (some .int) :: wsL_law) ({ frames := 20 + d, cells := 0, slots := 0, locals := 2800 + 80 * d } : Room) (va_Pc [jR G a0, vI a1, vI a2, vI a3, vI a4] (fun U => jRep G M U)) (jQ G (some (vI q.1)) q.2) 0 0 (jA G)) := by
  intro d
  induction d with
  | zero => exact (fun _ _ _ _ _ _ _  _ h => by cases h)
  | succ d ih =>
    have ih0 := ih
    exact (fun G M a0 a1 a2 a3 a4 q h h0 => cb_X0_run l G (Fd := 20 + d) (Ld := 2800 + 80 * d) (F0 := 20 + (d + 1)) (L0 := 2800 + 80 * (d + 1)) (by omega) (by omega) (fx_ac d 0) ih0 (by omega) (by omega) M a0 a1 a2 a3 a4 h0 h)
theorem ct_X0_run (l : Launch) (G : jG) (M : jM) (a0 a1 a2 a3 a4 : Int) (h0 : jkd a0 = (0, 0)) {q : Int × jM} (h : ft_X0_run M a0 a1 a2 a3 a4 = some q) : Met l yX0_run (Cond.code yX0_run cX0_run 9 (some .int) :: wsL_law) ({ frames := 60, cells := 0, slots := 0, locals := 6000 } : Room) (va_Pc [jR G a0, vI a1, vI a2, vI a3, vI a4] (fun U => jRep G M U)) (jQ G (some (vI q.1)) q.2) 0 0 (jA G) := (cx_fx_ac l 40) G M a0 a1 a2 a3 a4 q h h0
set_option maxHeartbeats 4000000 in
theorem w_X0_perform {p : Program} {l : Launch} {e : Env} {R : Room} {s : State} {m : MethodId} {args : Array Value} {below : List Frame} {meth : Method} {c : Code} {H : Heap} {locs : List Loc} {ls : Array Slot} {G : jG}  (C : jCx p s m args meth c cX0_perform 5 RX0 (Cond.code yX0_perform cX0_perform 5 (some .int)) (some .int)) (hRf : 61 ≤ R.frames) (hRl : 6028 ≤ R.locals)  (M : jM) (l0 l1 l2 l3 l4 : Int) (h0 : jkd l0 = (0, 0)) (h1 : jkd l1 = (8, 0)) {fin : Int × jM} (hf : f_X0_perform M l0 l1 l2 l3 l4 = some fin) (hO : jOk G M s H locs) (hl : lv_has ls 5 [(0, jR G l0), (1, jR G l1), (2, vI l2), (3, vI l3), (4, vI l4)]) : W p l e R s m args below meth c H locs 0 0 (MQ below (jQ G (some (vI fin.1)) fin.2) args s 0 0 (jA G)) (F0 m 0 ls []) := by
  unfold f_X0_perform at hf
  refine lv_aload_n C.1 C.2.1 dX0_perform_0 rfl (lv_at hl 1 rfl) ?_
  refine lv_iload_n C.1 C.2.1 dX0_perform_1 rfl (lv_at hl 2 rfl) ?_
  obtain ⟨r1, hr1, hf⟩ := bnd_e hf
  refine j_callV C hO (n := 1) (As := [vI l2]) (st1 := [vI r1]) (c_X8_hasPlayer l G M l1 l2 h1 hr1) h1 rfl kC_20_14 kM_40_10 kI_20_12 kS_20_13 kN_1_14 ⟨by decide, by decide, by decide⟩ ⟨Nat.le_trans (by decide) hRf, Nat.le_trans (by decide) hRl⟩ rfl rfl rfl hl.1 rfl (Nat.le_of_ble_eq_true rfl) ⟨Nat.zero_le _, Nat.zero_le _⟩ dX0_perform_2 rfl (fun H locs hO => ?_)
  refine j_if_ne (tgt := 10) C rfl dX0_perform_5 (by decide) (fun c2 => ?_) (fun c2 => ?_)
  · have hf := (if_neg c2).symm.trans hf
    refine lv_aload_n C.1 C.2.1 dX0_perform_10 rfl (lv_at hl 0 rfl) ?_
    refine lv_aload_n C.1 C.2.1 dX0_perform_11 rfl (lv_at hl 1 rfl) ?_
    refine j_get C hO (ci := 8) (k := 8) (v := jR G (jpt l1 8)) h1 rfl inlX8 (by decide) kF_40_5 rfl rfl dX0_perform_12 ?_
    refine lv_iload_n C.1 C.2.1 dX0_perform_15 rfl (lv_at hl 2 rfl) ?_
    obtain ⟨g3, hf⟩ := grd_e hf
    refine j_iald C hO (tp_8_8 h1) rfl g3.1 g3.2 dX0_perform_16 ?_
    obtain ⟨M4, hM4, hf⟩ := lt1_e hf
    refine j_put C hO (ci := 0) (k := 2) (x := M (jpt l1 8) (w32 l2)) h0 rfl inlX0 tyX0_ok nmX0 (by decide) kF_40_6 rfl rfl rfl rfl (by simp [jfl]) (fs_0_2) dX0_perform_17 (fun H locs hO => ?_)
    rw [← hM4] at hO
    refine lv_aload_n C.1 C.2.1 dX0_perform_20 rfl (lv_at hl 0 rfl) ?_
    refine lv_aload_n C.1 C.2.1 dX0_perform_21 rfl (lv_at hl 1 rfl) ?_
    refine j_get C hO (ci := 8) (k := 9) (v := jR G (jpt l1 9)) h1 rfl inlX8 (by decide) kF_40_7 rfl rfl dX0_perform_22 ?_
    refine lv_iload_n C.1 C.2.1 dX0_perform_25 rfl (lv_at hl 2 rfl) ?_
    obtain ⟨g5, hf⟩ := grd_e hf
    refine j_iald C hO (tp_8_9 h1) rfl g5.1 g5.2 dX0_perform_26 ?_
    obtain ⟨M6, hM6, hf⟩ := lt1_e hf
    refine j_put C hO (ci := 0) (k := 3) (x := M4 (jpt l1 9) (w32 l2)) h0 rfl inlX0 tyX0_ok nmX0 (by decide) kF_40_8 rfl rfl rfl rfl (by simp [jfl]) (fs_0_3) dX0_perform_27 (fun H locs hO => ?_)
    rw [← hM6] at hO
    refine lv_aload_n C.1 C.2.1 dX0_perform_30 rfl (lv_at hl 0 rfl) ?_
    refine lv_iload_n C.1 C.2.1 dX0_perform_31 rfl (lv_at hl 2 rfl) ?_
    obtain ⟨M7, hM7, hf⟩ := lt1_e hf
    refine j_put C hO (ci := 0) (k := 4) (x := l2) h0 rfl inlX0 tyX0_ok nmX0 (by decide) kF_40_9 rfl rfl rfl rfl (by simp [jfl]) (fs_0_4) dX0_perform_32 (fun H locs hO => ?_)
    rw [← hM7] at hO
    refine lv_aload_n C.1 C.2.1 dX0_perform_35 rfl (lv_at hl 0 rfl) ?_
    refine lv_aload_n C.1 C.2.1 dX0_perform_36 rfl (lv_at hl 0 rfl) ?_
    refine j_get C hO (ci := 0) (k := 2) (v := vI (M7 l0 2)) h0 rfl inlX0 (by decide) kF_40_6 rfl rfl dX0_perform_37 ?_
    refine lv_iload_n C.1 C.2.1 dX0_perform_40 rfl (lv_at hl 3 rfl) ?_
    refine lv_iload C.1 C.2.1 dX0_perform_41 (lv_at hl 4 rfl) ?_
    refine lv_iconst (v := Int32.ofInt 0) C.1 C.2.1 dX0_perform_43 rfl ?_
    obtain ⟨r8, hr8, hf⟩ := bnd_e hf
    refine j_callV C hO (n := 4) (As := [vI (M7 l0 2), vI l3, vI l4, vI 0]) (st1 := [vI r8.1]) (ct_X0_run l G M7 l0 (M7 l0 2) l3 l4 0 h0 hr8) h0 rfl kC_40_14 kM_40_11 kI_40_12 kS_40_13 kN_2_20 ⟨by decide, by decide, by decide⟩ ⟨Nat.le_trans (by decide) hRf, Nat.le_trans (by decide) hRl⟩ rfl rfl rfl hl.1 rfl (Nat.le_of_ble_eq_true rfl) ⟨Nat.zero_le _, Nat.zero_le _⟩ dX0_perform_44 rfl (fun H locs hO => ?_)
    have hf := som_e hf
    subst hf
    exact j_iret C hO dX0_perform_47
  · have hf := (if_pos c2).symm.trans hf
    refine lv_iconst (v := Int32.ofInt 0) C.1 C.2.1 dX0_perform_8 rfl ?_
    have hf := som_e hf
    subst hf
    exact j_iret C hO dX0_perform_9
set_option maxHeartbeats 1000000 in
theorem c_X0_perform (l : Launch) (G : jG)  (M : jM) (l0 l1 l2 l3 l4 : Int) (h0 : jkd l0 = (0, 0)) (h1 : jkd l1 = (8, 0)) {fin : Int × jM} (h : f_X0_perform M l0 l1 l2 l3 l4 = some fin) : Met l yX0_perform (Cond.code yX0_perform cX0_perform 5 (some .int) :: wsL_law) ({ frames := 61, cells := 0, slots := 0, locals := 6028 } : Room) (va_Pc [jR G l0, jR G l1, vI l2, vI l3, vI l4] (fun U => jRep G M U)) (jQ G (some (vI fin.1)) fin.2) 0 0 (jA G) := by
  refine Met.ofW (cc := cX0_perform) (maxL := 5) (ret := (some .int)) (by decide) rfl ?_
  intro p e s m args below meth c s₁ B hml hv
  obtain ⟨rfl, hR0⟩ := hv
  have C : jCx p s m ([jR G l0, jR G l1, vI l2, vI l3, vI l4] : List Value).toArray meth c cX0_perform 5 RX0 (Cond.code yX0_perform cX0_perform 5 (some .int)) (some .int) := ⟨B.exec, B.bytes, hml, findClass_of_methodNamed B.named, atoms_spec B.pre, B.returns, B.notSynchronized⟩
  have hO := hR0.ok
  have hl := lv_entry ([jR G l0, jR G l1, vI l2, vI l3, vI l4]) (n := 5) (Nat.le_of_ble_eq_true rfl)
  rw [lg_entry_eq]
  generalize (lg_sl ([jR G l0, jR G l1, vI l2, vI l3, vI l4]) ++ List.replicate (5 - (lg_sl ([jR G l0, jR G l1, vI l2, vI l3, vI l4])).length) Slot.unset).toArray = ls at hl ⊢
  have hl : lv_has ls 5 [(0, jR G l0), (1, jR G l1), (2, vI l2), (3, vI l3), (4, vI l4)] := hl
  exact w_X0_perform C (Nat.le_refl _) (Nat.le_refl _) M l0 l1 l2 l3 l4 h0 h1 h hO hl
set_option maxHeartbeats 4000000 in
theorem w_X5_next_30 {p : Program} {l : Launch} {e : Env} {R : Room} {s : State} {m : MethodId} {args : Array Value} {below : List Frame} {meth : Method} {c : Code} {H : Heap} {locs : List Loc} {ls : Array Slot} {G : jG}  (C : jCx p s m args meth c cX5_next 1 RX5 (Cond.code yX5_next cX5_next 1 (some .int)) (some .int)) (hRf : 0 ≤ R.frames) (hRl : 0 ≤ R.locals)  (M : jM) {fin : Int} (hf : f_X5_next_30 M  = some fin) (hO : jOk G M s H locs) (hl : lv_has ls 1 []) : W p l e R s m args below meth c H locs 0 0 (MQ below (jQ G (some (vI fin)) M) args s 0 0 (jA G)) (F0 m 30 ls []) := by
  unfold f_X5_next_30 at hf
  refine lv_iconst (v := Int32.ofInt (-1)) C.1 C.2.1 dX5_next_30 rfl ?_
  refine lv_goto (tgt := 43) C.1 C.2.1 dX5_next_31 (by decide) ?_
  have hf := som_e hf
  subst hf
  exact j_iret C hO dX5_next_43
set_option maxHeartbeats 4000000 in
theorem w_X5_next {p : Program} {l : Launch} {e : Env} {R : Room} {s : State} {m : MethodId} {args : Array Value} {below : List Frame} {meth : Method} {c : Code} {H : Heap} {locs : List Loc} {ls : Array Slot} {G : jG}  (C : jCx p s m args meth c cX5_next 1 RX5 (Cond.code yX5_next cX5_next 1 (some .int)) (some .int)) (hRf : 0 ≤ R.frames) (hRl : 0 ≤ R.locals)  (M : jM) (l0 : Int) (h0 : jkd l0 = (5, 0)) {fin : Int} (hf : f_X5_next M l0 = some fin) (hO : jOk G M s H locs) (hl : lv_has ls 1 [(0, jR G l0)]) : W p l e R s m args below meth c H locs 0 0 (MQ below (jQ G (some (vI fin)) M) args s 0 0 (jA G)) (F0 m 0 ls []) := by
  unfold f_X5_next at hf
  refine lv_aload_n C.1 C.2.1 dX5_next_0 rfl (lv_at hl 0 rfl) ?_
  refine j_get C hO (ci := 5) (k := 2) (v := vI (M l0 2)) h0 rfl inlX5 (by decide) kF_7_19 rfl rfl dX5_next_1 ?_
  refine j_if_lt (tgt := 30) C rfl dX5_next_4 (by decide) (fun c1 => ?_) (fun c1 => ?_)
  · have hf := (if_pos c1).symm.trans hf
    exact w_X5_next_30 C hRf hRl M   hf hO (lv_sub hl [] rfl)
  · have hf := (if_neg c1).symm.trans hf
    refine lv_aload_n C.1 C.2.1 dX5_next_7 rfl (lv_at hl 0 rfl) ?_
    refine j_get C hO (ci := 5) (k := 2) (v := vI (M l0 2)) h0 rfl inlX5 (by decide) kF_7_19 rfl rfl dX5_next_8 ?_
    refine lv_aload_n C.1 C.2.1 dX5_next_11 rfl (lv_at hl 0 rfl) ?_
    refine j_get C hO (ci := 5) (k := 1) (v := vI (M l0 1)) h0 rfl inlX5 (by decide) kF_7_18 rfl rfl dX5_next_12 ?_
    refine j_icmp_ge (tgt := 30) C rfl rfl dX5_next_15 (by decide) (fun c2 => ?_) (fun c2 => ?_)
    · have hf := (if_pos c2).symm.trans hf
      exact w_X5_next_30 C hRf hRl M   hf hO (lv_sub hl [] rfl)
    · have hf := (if_neg c2).symm.trans hf
      refine lv_aload_n C.1 C.2.1 dX5_next_18 rfl (lv_at hl 0 rfl) ?_
      refine j_get C hO (ci := 5) (k := 2) (v := vI (M l0 2)) h0 rfl inlX5 (by decide) kF_7_19 rfl rfl dX5_next_19 ?_
      refine lv_aload_n C.1 C.2.1 dX5_next_22 rfl (lv_at hl 0 rfl) ?_
      obtain ⟨g3, hf⟩ := grd_e hf
      refine j_get C hO (ci := 5) (k := 0) (v := jN G (M l0 0)) h0 rfl inlX5 (by decide) kF_7_13 rfl rfl dX5_next_23 ?_
      rw [jN_p (jkd_in g3 (by decide)).1]
      refine j_alen_i C hO g3 dX5_next_26 ?_
      refine j_icmp_lt (tgt := 34) C rfl (w32_id (by decide) (by decide)) dX5_next_27 (by decide) (fun c4 => ?_) (fun c4 => ?_)
      · have hf := (if_pos c4).symm.trans hf
        refine lv_aload_n C.1 C.2.1 dX5_next_34 rfl (lv_at hl 0 rfl) ?_
        obtain ⟨g5, hf⟩ := grd_e hf
        refine j_get C hO (ci := 5) (k := 0) (v := jN G (M l0 0)) h0 rfl inlX5 (by decide) kF_7_13 rfl rfl dX5_next_35 ?_
        rw [jN_p (jkd_in g5 (by decide)).1]
        refine lv_aload_n C.1 C.2.1 dX5_next_38 rfl (lv_at hl 0 rfl) ?_
        refine j_get C hO (ci := 5) (k := 2) (v := vI (M l0 2)) h0 rfl inlX5 (by decide) kF_7_19 rfl rfl dX5_next_39 ?_
        obtain ⟨g6, hf⟩ := grd_e hf
        refine j_iald C hO g5 rfl g6.1 g6.2 dX5_next_42 ?_
        have hf := som_e hf
        subst hf
        exact j_iret C hO dX5_next_43
      · have hf := (if_neg c4).symm.trans hf
        exact w_X5_next_30 C hRf hRl M   hf hO (lv_sub hl [] rfl)
set_option maxHeartbeats 1000000 in
theorem c_X5_next (l : Launch) (G : jG)  (M : jM) (l0 : Int) (h0 : jkd l0 = (5, 0)) {fin : Int} (h : f_X5_next M l0 = some fin) : Met l yX5_next (Cond.code yX5_next cX5_next 1 (some .int) :: wsL_law) ({ frames := 0, cells := 0, slots := 0, locals := 0 } : Room) (va_Pc [jR G l0] (fun U => jRep G M U)) (jQ G (some (vI fin)) M) 0 0 (jA G) := by
  refine Met.ofW (cc := cX5_next) (maxL := 1) (ret := (some .int)) (by decide) rfl ?_
  intro p e s m args below meth c s₁ B hml hv
  obtain ⟨rfl, hR0⟩ := hv
  have C : jCx p s m ([jR G l0] : List Value).toArray meth c cX5_next 1 RX5 (Cond.code yX5_next cX5_next 1 (some .int)) (some .int) := ⟨B.exec, B.bytes, hml, findClass_of_methodNamed B.named, atoms_spec B.pre, B.returns, B.notSynchronized⟩
  have hO := hR0.ok
  have hl := lv_entry ([jR G l0]) (n := 1) (Nat.le_of_ble_eq_true rfl)
  rw [lg_entry_eq]
  generalize (lg_sl ([jR G l0]) ++ List.replicate (1 - (lg_sl ([jR G l0])).length) Slot.unset).toArray = ls at hl ⊢
  have hl : lv_has ls 1 [(0, jR G l0)] := hl
  exact w_X5_next C (Nat.le_refl _) (Nat.le_refl _) M l0 h0 h hO hl
set_option maxHeartbeats 4000000 in
theorem w_X5_take_28 {p : Program} {l : Launch} {e : Env} {R : Room} {s : State} {m : MethodId} {args : Array Value} {below : List Frame} {meth : Method} {c : Code} {H : Heap} {locs : List Loc} {ls : Array Slot} {G : jG}  (C : jCx p s m args meth c cX5_take 2 RX5 (Cond.code yX5_take cX5_take 2 none) none) (hRf : 1 ≤ R.frames) (hRl : 20 ≤ R.locals)  (M : jM) (l0 : Int) (h0 : jkd l0 = (5, 0)) {fin : jM} (hf : f_X5_take_28 M l0 = some fin) (hO : jOk G M s H locs) (hl : lv_has ls 2 [(0, jR G l0)]) : W p l e R s m args below meth c H locs 0 0 (MQ below (jQ G none fin) args s 0 0 (jA G)) (F0 m 28 ls []) := by
  unfold f_X5_take_28 at hf
  refine lv_aload_n C.1 C.2.1 dX5_take_28 rfl (lv_at hl 0 rfl) ?_
  refine lv_iconst (v := Int32.ofInt 1) C.1 C.2.1 dX5_take_29 rfl ?_
  obtain ⟨M2, hM2, hf⟩ := lt1_e hf
  refine j_put C hO (ci := 5) (k := 3) (x := 1) h0 rfl inlX5 tyX5_ok nmX5 (by decide) kF_7_20 rfl rfl (jz_n (Or.inr rfl)) (jz_f (Or.inr rfl)) (by simp [jfl]) (fs_5_3) dX5_take_30 (fun H locs hO => ?_)
  rw [← hM2] at hO
  have hf := som_e hf
  subst hf
  exact j_vret C hO dX5_take_33
set_option maxHeartbeats 4000000 in
theorem w_X5_take {p : Program} {l : Launch} {e : Env} {R : Room} {s : State} {m : MethodId} {args : Array Value} {below : List Frame} {meth : Method} {c : Code} {H : Heap} {locs : List Loc} {ls : Array Slot} {G : jG}  (C : jCx p s m args meth c cX5_take 2 RX5 (Cond.code yX5_take cX5_take 2 none) none) (hRf : 1 ≤ R.frames) (hRl : 20 ≤ R.locals)  (M : jM) (l0 l1 : Int) (h0 : jkd l0 = (5, 0)) {fin : jM} (hf : f_X5_take M l0 l1 = some fin) (hO : jOk G M s H locs) (hl : lv_has ls 2 [(0, jR G l0), (1, vI l1)]) : W p l e R s m args below meth c H locs 0 0 (MQ below (jQ G none fin) args s 0 0 (jA G)) (F0 m 0 ls []) := by
  unfold f_X5_take at hf
  refine lv_aload_n C.1 C.2.1 dX5_take_0 rfl (lv_at hl 0 rfl) ?_
  refine j_get C hO (ci := 5) (k := 3) (v := vI (M l0 3)) h0 rfl inlX5 (by decide) kF_7_20 rfl rfl dX5_take_1 ?_
  refine j_if_ne (tgt := 28) C rfl dX5_take_4 (by decide) (fun c1 => ?_) (fun c1 => ?_)
  · have hf := (if_neg c1).symm.trans hf
    exact w_X5_take_28 C hRf hRl M l0 h0 hf hO (lv_sub hl [0] rfl)
  · have hf := (if_pos c1).symm.trans hf
    refine lv_aload_n C.1 C.2.1 dX5_take_7 rfl (lv_at hl 0 rfl) ?_
    obtain ⟨r3, hr3, hf⟩ := bnd_e hf
    refine j_callV C hO (n := 0) (As := []) (st1 := [vI r3]) (c_X5_next l G M l0 h0 hr3) h0 rfl kC_8_9 kM_8_6 kI_8_7 kS_8_8 kN_2_0 ⟨by decide, by decide, by decide⟩ ⟨Nat.le_trans (by decide) hRf, Nat.le_trans (by decide) hRl⟩ rfl rfl rfl hl.1 rfl (Nat.le_of_ble_eq_true rfl) ⟨Nat.zero_le _, Nat.zero_le _⟩ dX5_take_8 rfl (fun H locs hO => ?_)
    refine lv_iload_n C.1 C.2.1 dX5_take_11 rfl (lv_at hl 1 rfl) ?_
    refine j_icmp_ne (tgt := 28) C rfl rfl dX5_take_12 (by decide) (fun c4 => ?_) (fun c4 => ?_)
    · have hf := (if_neg c4).symm.trans hf
      exact w_X5_take_28 C hRf hRl M l0 h0 hf hO (lv_sub hl [0] rfl)
    · have hf := (if_pos c4).symm.trans hf
      refine lv_aload_n C.1 C.2.1 dX5_take_15 rfl (lv_at hl 0 rfl) ?_
      refine lv_dup C.1 C.2.1 dX5_take_16 rfl ?_
      refine j_get C hO (ci := 5) (k := 2) (v := vI (M l0 2)) h0 rfl inlX5 (by decide) kF_7_19 rfl rfl dX5_take_17 ?_
      refine lv_iconst (v := Int32.ofInt 1) C.1 C.2.1 dX5_take_20 rfl ?_
      refine j_iadd C dX5_take_21 ?_
      obtain ⟨M5, hM5, hf⟩ := lt1_e hf
      refine j_put C hO (ci := 5) (k := 2) (x := (M l0 2) + 1) h0 rfl inlX5 tyX5_ok nmX5 (by decide) kF_7_19 rfl rfl rfl rfl (by simp [jfl]) (fs_5_2) dX5_take_22 (fun H locs hO => ?_)
      rw [← hM5] at hO
      refine lv_goto (tgt := 33) C.1 C.2.1 dX5_take_25 (by decide) ?_
      have hf := som_e hf
      subst hf
      exact j_vret C hO dX5_take_33
set_option maxHeartbeats 1000000 in
theorem c_X5_take (l : Launch) (G : jG)  (M : jM) (l0 l1 : Int) (h0 : jkd l0 = (5, 0)) {fin : jM} (h : f_X5_take M l0 l1 = some fin) : Met l yX5_take (Cond.code yX5_take cX5_take 2 none :: wsL_law) ({ frames := 1, cells := 0, slots := 0, locals := 20 } : Room) (va_Pc [jR G l0, vI l1] (fun U => jRep G M U)) (jQ G none fin) 0 0 (jA G) := by
  refine Met.ofW (cc := cX5_take) (maxL := 2) (ret := none) (by decide) rfl ?_
  intro p e s m args below meth c s₁ B hml hv
  obtain ⟨rfl, hR0⟩ := hv
  have C : jCx p s m ([jR G l0, vI l1] : List Value).toArray meth c cX5_take 2 RX5 (Cond.code yX5_take cX5_take 2 none) none := ⟨B.exec, B.bytes, hml, findClass_of_methodNamed B.named, atoms_spec B.pre, B.returns, B.notSynchronized⟩
  have hO := hR0.ok
  have hl := lv_entry ([jR G l0, vI l1]) (n := 2) (Nat.le_of_ble_eq_true rfl)
  rw [lg_entry_eq]
  generalize (lg_sl ([jR G l0, vI l1]) ++ List.replicate (2 - (lg_sl ([jR G l0, vI l1])).length) Slot.unset).toArray = ls at hl ⊢
  have hl : lv_has ls 2 [(0, jR G l0), (1, vI l1)] := hl
  exact w_X5_take C (Nat.le_refl _) (Nat.le_refl _) M l0 l1 h0 h hO hl
set_option maxHeartbeats 4000000 in
theorem w_X5_readWord_L2 {p : Program} {l : Launch} {e : Env} {R : Room} {s : State} {m : MethodId} {args : Array Value} {below : List Frame} {meth : Method} {c : Code} {H : Heap} {locs : List Loc} {ls : Array Slot} {G : jG}  (C : jCx p s m args meth c cX5_readWord 3 RX5 (Cond.code yX5_readWord cX5_readWord 3 none) none) (hRf : 6 ≤ R.frames) (hRl : 200 ≤ R.locals)  (M : jM) (l0 l1 : Int) (h0 : jkd l0 = (5, 0)) (h1 : 0 ≤ l1 ∧ l1 < 6) {fin : jM} (S : jM × Int) {rr : (jM × Int) ⊕ jM} (hf : f_X5_readWord_L2 M l0 l1 S = some rr) (kc : ∀ q : jM × Int, rr = .inl q → ∀ (H : Heap) (locs : List Loc) (ls : Array Slot), jOk G q.1 s H locs → lv_has ls 3 [(0, jR G l0), (1, jS G l1), (2, vI q.2)] → W p l e R s m args below meth c H locs 0 0 (MQ below (jQ G none fin) args s 0 0 (jA G)) (F0 m 2 ls [])) (kx0 : ∀ q : jM, rr = .inr q → ∀ (H : Heap) (locs : List Loc) (ls : Array Slot), jOk G q s H locs → lv_has ls 3 [] → W p l e R s m args below meth c H locs 0 0 (MQ below (jQ G none fin) args s 0 0 (jA G)) (F0 m 25 ls [])) (hO : jOk G S.1 s H locs) (hl : lv_has ls 3 [(0, jR G l0), (1, jS G l1), (2, vI S.2)]) : W p l e R s m args below meth c H locs 0 0 (MQ below (jQ G none fin) args s 0 0 (jA G)) (F0 m 2 ls []) := by
  unfold f_X5_readWord_L2 at hf
  refine lv_iload_n C.1 C.2.1 dX5_readWord_2 rfl (lv_at hl 2 rfl) ?_
  refine lv_aload_n C.1 C.2.1 dX5_readWord_3 rfl (lv_at hl 1 rfl) ?_
  refine j_slen C hO h1 hl.1 (Nat.le_trans (by decide) hRf) (Nat.le_trans (by decide) hRl) kM_8_14 (Nat.le_of_ble_eq_true rfl) ⟨Nat.zero_le _, Nat.zero_le _⟩ dX5_readWord_4 (fun H locs hO => ?_)
  refine j_icmp_ge (tgt := 25) C rfl rfl dX5_readWord_7 (by decide) (fun c1 => ?_) (fun c1 => ?_)
  · have hf := (if_pos c1).symm.trans hf
    exact kx0 _ (som_e hf).symm _ _ _ hO (lv_sub hl [] rfl)
  · have hf := (if_neg c1).symm.trans hf
    refine lv_aload_n C.1 C.2.1 dX5_readWord_10 rfl (lv_at hl 0 rfl) ?_
    refine lv_aload_n C.1 C.2.1 dX5_readWord_11 rfl (lv_at hl 1 rfl) ?_
    refine lv_iload_n C.1 C.2.1 dX5_readWord_12 rfl (lv_at hl 2 rfl) ?_
    obtain ⟨g2, hf⟩ := grd_e hf
    refine j_schar C hO h1 rfl g2.1 g2.2 hl.1 (Nat.le_trans (by decide) hRf) (Nat.le_trans (by decide) hRl) kM_9_2 (Nat.le_of_ble_eq_true rfl) ⟨Nat.zero_le _, Nat.zero_le _⟩ dX5_readWord_13 (fun H locs hO => ?_)
    obtain ⟨r3, hr3, hf⟩ := bnd_e hf
    refine j_callV C hO (n := 1) (As := [vI (jtxC l1 (w32 S.2))]) (st1 := []) (c_X5_take l G S.1 l0 (jtxC l1 (w32 S.2)) h0 hr3) h0 rfl kC_10_18 kM_10_15 kI_10_16 kS_10_17 kN_2_0 ⟨by decide, by decide, by decide⟩ ⟨Nat.le_trans (by decide) hRf, Nat.le_trans (by decide) hRl⟩ rfl rfl rfl hl.1 rfl (Nat.le_of_ble_eq_true rfl) ⟨Nat.zero_le _, Nat.zero_le _⟩ dX5_readWord_16 rfl (fun H locs hO => ?_)
    refine lv_iinc (v := Int32.ofInt (S.2 + 1)) (lv' := [(2, vI (S.2 + 1)), (0, jR G l0), (1, jS G l1)]) C.1 C.2.1 dX5_readWord_19 hl (k := 2) rfl (Int32.ofInt_add _ _).symm (by decide) rfl (fun ls hl => ?_)
    refine lv_goto (tgt := 2) C.1 C.2.1 dX5_readWord_22 (by decide) ?_
    exact kc _ (som_e hf).symm _ _ _ hO (lv_sub hl [1, 2, 0] rfl)
set_option maxHeartbeats 4000000 in
theorem w_X5_readWord {p : Program} {l : Launch} {e : Env} {R : Room} {s : State} {m : MethodId} {args : Array Value} {below : List Frame} {meth : Method} {c : Code} {H : Heap} {locs : List Loc} {ls : Array Slot} {G : jG}  (C : jCx p s m args meth c cX5_readWord 3 RX5 (Cond.code yX5_readWord cX5_readWord 3 none) none) (hRf : 6 ≤ R.frames) (hRl : 200 ≤ R.locals)  (M : jM) (l0 l1 : Int) (h0 : jkd l0 = (5, 0)) (h1 : 0 ≤ l1 ∧ l1 < 6) {fin : jM} (hf : f_X5_readWord M l0 l1 = some fin) (hO : jOk G M s H locs) (hl : lv_has ls 3 [(0, jR G l0), (1, jS G l1)]) : W p l e R s m args below meth c H locs 0 0 (MQ below (jQ G none fin) args s 0 0 (jA G)) (F0 m 0 ls []) := by
  unfold f_X5_readWord at hf
  refine lv_iconst (v := Int32.ofInt 0) C.1 C.2.1 dX5_readWord_0 rfl ?_
  refine lv_istore_n (lv' := [(2, vI 0), (0, jR G l0), (1, jS G l1)]) C.1 C.2.1 dX5_readWord_1 rfl hl (by decide) rfl (fun ls hl => ?_)
  obtain ⟨x4, hx4, hf⟩ := bnd_e hf
  refine iter_e (P := fun Z => ∀ (H : Heap) (locs : List Loc) (ls : Array Slot), jOk G Z.1 s H locs → lv_has ls 3 [(0, jR G l0), (1, jS G l1), (2, vI Z.2)] → W p l e R s m args below meth c H locs 0 0 (MQ below (jQ G none fin) args s 0 0 (jA G)) (F0 m 2 ls [])) (E := fun q => ∀ (H : Heap) (locs : List Loc) (ls : Array Slot), jOk G q s H locs → lv_has ls 3 [] → W p l e R s m args below meth c H locs 0 0 (MQ below (jQ G none fin) args s 0 0 (jA G)) (F0 m 25 ls [])) (fun Z rr hb kc kx H locs ls hO hl => w_X5_readWord_L2 C hRf hRl M l0 l1 h0 h1 Z hb kc (fun q e => kx q e) hO hl) 5000 (M, 0) x4 hx4 ?_ _ _ _ hO (lv_sub hl [1, 2, 0] rfl)
  clear hO hl
  intro H locs ls hO hl
  have hf := som_e hf
  subst hf
  exact j_vret C hO dX5_readWord_25
set_option maxHeartbeats 1000000 in
theorem c_X5_readWord (l : Launch) (G : jG)  (M : jM) (l0 l1 : Int) (h0 : jkd l0 = (5, 0)) (h1 : 0 ≤ l1 ∧ l1 < 6) {fin : jM} (h : f_X5_readWord M l0 l1 = some fin) : Met l yX5_readWord (Cond.code yX5_readWord cX5_readWord 3 none :: wsL_law) ({ frames := 6, cells := 0, slots := 0, locals := 200 } : Room) (va_Pc [jR G l0, jS G l1] (fun U => jRep G M U)) (jQ G none fin) 0 0 (jA G) := by
  refine Met.ofW (cc := cX5_readWord) (maxL := 3) (ret := none) (by decide) rfl ?_
  intro p e s m args below meth c s₁ B hml hv
  obtain ⟨rfl, hR0⟩ := hv
  have C : jCx p s m ([jR G l0, jS G l1] : List Value).toArray meth c cX5_readWord 3 RX5 (Cond.code yX5_readWord cX5_readWord 3 none) none := ⟨B.exec, B.bytes, hml, findClass_of_methodNamed B.named, atoms_spec B.pre, B.returns, B.notSynchronized⟩
  have hO := hR0.ok
  have hl := lv_entry ([jR G l0, jS G l1]) (n := 3) (Nat.le_of_ble_eq_true rfl)
  rw [lg_entry_eq]
  generalize (lg_sl ([jR G l0, jS G l1]) ++ List.replicate (3 - (lg_sl ([jR G l0, jS G l1])).length) Slot.unset).toArray = ls at hl ⊢
  have hl : lv_has ls 3 [(0, jR G l0), (1, jS G l1)] := hl
  exact w_X5_readWord C (Nat.le_refl _) (Nat.le_refl _) M l0 l1 h0 h1 h hO hl
set_option maxHeartbeats 4000000 in
theorem w_X5_readNumber_24 {p : Program} {l : Launch} {e : Env} {R : Room} {s : State} {m : MethodId} {args : Array Value} {below : List Frame} {meth : Method} {c : Code} {H : Heap} {locs : List Loc} {ls : Array Slot} {G : jG}  (C : jCx p s m args meth c cX5_readNumber 3 RX5 (Cond.code yX5_readNumber cX5_readNumber 3 (some .int)) (some .int)) (hRf : 1 ≤ R.frames) (hRl : 20 ≤ R.locals)  (M : jM) (l0 : Int) (h0 : jkd l0 = (5, 0)) {fin : Int × jM} (hf : f_X5_readNumber_24 M l0 = some fin) (hO : jOk G M s H locs) (hl : lv_has ls 3 [(0, jR G l0)]) : W p l e R s m args below meth c H locs 0 0 (MQ below (jQ G (some (vI fin.1)) fin.2) args s 0 0 (jA G)) (F0 m 24 ls []) := by
  unfold f_X5_readNumber_24 at hf
  refine lv_aload_n C.1 C.2.1 dX5_readNumber_24 rfl (lv_at hl 0 rfl) ?_
  refine lv_iconst (v := Int32.ofInt 1) C.1 C.2.1 dX5_readNumber_25 rfl ?_
  obtain ⟨M3, hM3, hf⟩ := lt1_e hf
  refine j_put C hO (ci := 5) (k := 3) (x := 1) h0 rfl inlX5 tyX5_ok nmX5 (by decide) kF_7_20 rfl rfl (jz_n (Or.inr rfl)) (jz_f (Or.inr rfl)) (by simp [jfl]) (fs_5_3) dX5_readNumber_26 (fun H locs hO => ?_)
  rw [← hM3] at hO
  refine lv_iconst (v := Int32.ofInt 0) C.1 C.2.1 dX5_readNumber_29 rfl ?_
  have hf := som_e hf
  subst hf
  exact j_iret C hO dX5_readNumber_30
set_option maxHeartbeats 4000000 in
theorem w_X5_readNumber {p : Program} {l : Launch} {e : Env} {R : Room} {s : State} {m : MethodId} {args : Array Value} {below : List Frame} {meth : Method} {c : Code} {H : Heap} {locs : List Loc} {ls : Array Slot} {G : jG}  (C : jCx p s m args meth c cX5_readNumber 3 RX5 (Cond.code yX5_readNumber cX5_readNumber 3 (some .int)) (some .int)) (hRf : 1 ≤ R.frames) (hRl : 20 ≤ R.locals)  (M : jM) (l0 : Int) (h0 : jkd l0 = (5, 0)) {fin : Int × jM} (hf : f_X5_readNumber M l0 = some fin) (hO : jOk G M s H locs) (hl : lv_has ls 3 [(0, jR G l0)]) : W p l e R s m args below meth c H locs 0 0 (MQ below (jQ G (some (vI fin.1)) fin.2) args s 0 0 (jA G)) (F0 m 0 ls []) := by
  unfold f_X5_readNumber at hf
  refine lv_aload_n C.1 C.2.1 dX5_readNumber_0 rfl (lv_at hl 0 rfl) ?_
  obtain ⟨r1, hr1, hf⟩ := bnd_e hf
  refine j_callV C hO (n := 0) (As := []) (st1 := [vI r1]) (c_X5_next l G M l0 h0 hr1) h0 rfl kC_8_9 kM_8_6 kI_8_7 kS_8_8 kN_2_0 ⟨by decide, by decide, by decide⟩ ⟨Nat.le_trans (by decide) hRf, Nat.le_trans (by decide) hRl⟩ rfl rfl rfl hl.1 rfl (Nat.le_of_ble_eq_true rfl) ⟨Nat.zero_le _, Nat.zero_le _⟩ dX5_readNumber_1 rfl (fun H locs hO => ?_)
  refine lv_istore_n (lv' := [(1, vI r1), (0, jR G l0)]) C.1 C.2.1 dX5_readNumber_4 rfl hl (by decide) rfl (fun ls hl => ?_)
  refine lv_aload_n C.1 C.2.1 dX5_readNumber_5 rfl (lv_at hl 1 rfl) ?_
  refine j_get C hO (ci := 5) (k := 3) (v := vI (M l0 3)) h0 rfl inlX5 (by decide) kF_7_20 rfl rfl dX5_readNumber_6 ?_
  refine j_if_ne (tgt := 24) C rfl dX5_readNumber_9 (by decide) (fun c2 => ?_) (fun c2 => ?_)
  · have hf := (if_neg c2).symm.trans hf
    exact w_X5_readNumber_24 C hRf hRl M l0 h0 hf hO (lv_sub hl [1] rfl)
  · have hf := (if_pos c2).symm.trans hf
    refine lv_iload_n C.1 C.2.1 dX5_readNumber_12 rfl (lv_at hl 0 rfl) ?_
    refine lv_bipush (v := Int32.ofInt 48) C.1 C.2.1 dX5_readNumber_13 (by decide) ?_
    refine j_icmp_lt (tgt := 24) C rfl (w32_id (by decide) (by decide)) dX5_readNumber_15 (by decide) (fun c4 => ?_) (fun c4 => ?_)
    · have hf := (if_pos c4).symm.trans hf
      exact w_X5_readNumber_24 C hRf hRl M l0 h0 hf hO (lv_sub hl [1] rfl)
    · have hf := (if_neg c4).symm.trans hf
      refine lv_iload_n C.1 C.2.1 dX5_readNumber_18 rfl (lv_at hl 0 rfl) ?_
      refine lv_bipush (v := Int32.ofInt 57) C.1 C.2.1 dX5_readNumber_19 (by decide) ?_
      refine j_icmp_le (tgt := 31) C rfl (w32_id (by decide) (by decide)) dX5_readNumber_21 (by decide) (fun c5 => ?_) (fun c5 => ?_)
      · have hf := (if_pos c5).symm.trans hf
        refine lv_aload_n C.1 C.2.1 dX5_readNumber_31 rfl (lv_at hl 1 rfl) ?_
        refine lv_dup C.1 C.2.1 dX5_readNumber_32 rfl ?_
        refine j_get C hO (ci := 5) (k := 2) (v := vI (M l0 2)) h0 rfl inlX5 (by decide) kF_7_19 rfl rfl dX5_readNumber_33 ?_
        refine lv_iconst (v := Int32.ofInt 1) C.1 C.2.1 dX5_readNumber_36 rfl ?_
        refine j_iadd C dX5_readNumber_37 ?_
        obtain ⟨M6, hM6, hf⟩ := lt1_e hf
        refine j_put C hO (ci := 5) (k := 2) (x := (M l0 2) + 1) h0 rfl inlX5 tyX5_ok nmX5 (by decide) kF_7_19 rfl rfl rfl rfl (by simp [jfl]) (fs_5_2) dX5_readNumber_38 (fun H locs hO => ?_)
        rw [← hM6] at hO
        refine lv_aload_n C.1 C.2.1 dX5_readNumber_41 rfl (lv_at hl 1 rfl) ?_
        obtain ⟨r7, hr7, hf⟩ := bnd_e hf
        refine j_callV C hO (n := 0) (As := []) (st1 := [vI r7]) (c_X5_next l G M6 l0 h0 hr7) h0 rfl kC_8_9 kM_8_6 kI_8_7 kS_8_8 kN_2_0 ⟨by decide, by decide, by decide⟩ ⟨Nat.le_trans (by decide) hRf, Nat.le_trans (by decide) hRl⟩ rfl rfl rfl hl.1 rfl (Nat.le_of_ble_eq_true rfl) ⟨Nat.zero_le _, Nat.zero_le _⟩ dX5_readNumber_42 rfl (fun H locs hO => ?_)
        refine lv_istore_n (lv' := [(2, vI r7), (1, vI r1), (0, jR G l0)]) C.1 C.2.1 dX5_readNumber_45 rfl hl (by decide) rfl (fun ls hl => ?_)
        refine lv_iload_n C.1 C.2.1 dX5_readNumber_46 rfl (lv_at hl 1 rfl) ?_
        refine lv_bipush (v := Int32.ofInt 48) C.1 C.2.1 dX5_readNumber_47 (by decide) ?_
        refine j_icmp_eq (tgt := 64) C rfl (w32_id (by decide) (by decide)) dX5_readNumber_49 (by decide) (fun c8 => ?_) (fun c8 => ?_)
        · have hf := (if_pos c8).symm.trans hf
          refine lv_iload_n C.1 C.2.1 dX5_readNumber_64 rfl (lv_at hl 1 rfl) ?_
          refine lv_bipush (v := Int32.ofInt 48) C.1 C.2.1 dX5_readNumber_65 (by decide) ?_
          refine j_isub C dX5_readNumber_67 ?_
          have hf := som_e hf
          subst hf
          exact j_iret C hO dX5_readNumber_68
        · have hf := (if_neg c8).symm.trans hf
          refine lv_iload_n C.1 C.2.1 dX5_readNumber_52 rfl (lv_at hl 0 rfl) ?_
          refine lv_bipush (v := Int32.ofInt 48) C.1 C.2.1 dX5_readNumber_53 (by decide) ?_
          refine j_icmp_lt (tgt := 64) C rfl (w32_id (by decide) (by decide)) dX5_readNumber_55 (by decide) (fun c9 => ?_) (fun c9 => ?_)
          · have hf := (if_pos c9).symm.trans hf
            refine lv_iload_n C.1 C.2.1 dX5_readNumber_64 rfl (lv_at hl 1 rfl) ?_
            refine lv_bipush (v := Int32.ofInt 48) C.1 C.2.1 dX5_readNumber_65 (by decide) ?_
            refine j_isub C dX5_readNumber_67 ?_
            have hf := som_e hf
            subst hf
            exact j_iret C hO dX5_readNumber_68
          · have hf := (if_neg c9).symm.trans hf
            refine lv_iload_n C.1 C.2.1 dX5_readNumber_58 rfl (lv_at hl 0 rfl) ?_
            refine lv_bipush (v := Int32.ofInt 57) C.1 C.2.1 dX5_readNumber_59 (by decide) ?_
            refine j_icmp_le (tgt := 69) C rfl (w32_id (by decide) (by decide)) dX5_readNumber_61 (by decide) (fun c10 => ?_) (fun c10 => ?_)
            · have hf := (if_pos c10).symm.trans hf
              refine lv_aload_n C.1 C.2.1 dX5_readNumber_69 rfl (lv_at hl 2 rfl) ?_
              refine lv_dup C.1 C.2.1 dX5_readNumber_70 rfl ?_
              refine j_get C hO (ci := 5) (k := 2) (v := vI (M6 l0 2)) h0 rfl inlX5 (by decide) kF_7_19 rfl rfl dX5_readNumber_71 ?_
              refine lv_iconst (v := Int32.ofInt 1) C.1 C.2.1 dX5_readNumber_74 rfl ?_
              refine j_iadd C dX5_readNumber_75 ?_
              obtain ⟨M11, hM11, hf⟩ := lt1_e hf
              refine j_put C hO (ci := 5) (k := 2) (x := (M6 l0 2) + 1) h0 rfl inlX5 tyX5_ok nmX5 (by decide) kF_7_19 rfl rfl rfl rfl (by simp [jfl]) (fs_5_2) dX5_readNumber_76 (fun H locs hO => ?_)
              rw [← hM11] at hO
              refine lv_iload_n C.1 C.2.1 dX5_readNumber_79 rfl (lv_at hl 1 rfl) ?_
              refine lv_bipush (v := Int32.ofInt 48) C.1 C.2.1 dX5_readNumber_80 (by decide) ?_
              refine j_isub C dX5_readNumber_82 ?_
              refine lv_bipush (v := Int32.ofInt 10) C.1 C.2.1 dX5_readNumber_83 (by decide) ?_
              refine j_imul C dX5_readNumber_85 ?_
              refine lv_iload_n C.1 C.2.1 dX5_readNumber_86 rfl (lv_at hl 0 rfl) ?_
              refine j_iadd C dX5_readNumber_87 ?_
              refine lv_bipush (v := Int32.ofInt 48) C.1 C.2.1 dX5_readNumber_88 (by decide) ?_
              refine j_isub C dX5_readNumber_90 ?_
              have hf := som_e hf
              subst hf
              exact j_iret C hO dX5_readNumber_91
            · have hf := (if_neg c10).symm.trans hf
              refine lv_iload_n C.1 C.2.1 dX5_readNumber_64 rfl (lv_at hl 1 rfl) ?_
              refine lv_bipush (v := Int32.ofInt 48) C.1 C.2.1 dX5_readNumber_65 (by decide) ?_
              refine j_isub C dX5_readNumber_67 ?_
              have hf := som_e hf
              subst hf
              exact j_iret C hO dX5_readNumber_68
      · have hf := (if_neg c5).symm.trans hf
        exact w_X5_readNumber_24 C hRf hRl M l0 h0 hf hO (lv_sub hl [1] rfl)
set_option maxHeartbeats 1000000 in
theorem c_X5_readNumber (l : Launch) (G : jG)  (M : jM) (l0 : Int) (h0 : jkd l0 = (5, 0)) {fin : Int × jM} (h : f_X5_readNumber M l0 = some fin) : Met l yX5_readNumber (Cond.code yX5_readNumber cX5_readNumber 3 (some .int) :: wsL_law) ({ frames := 1, cells := 0, slots := 0, locals := 20 } : Room) (va_Pc [jR G l0] (fun U => jRep G M U)) (jQ G (some (vI fin.1)) fin.2) 0 0 (jA G) := by
  refine Met.ofW (cc := cX5_readNumber) (maxL := 3) (ret := (some .int)) (by decide) rfl ?_
  intro p e s m args below meth c s₁ B hml hv
  obtain ⟨rfl, hR0⟩ := hv
  have C : jCx p s m ([jR G l0] : List Value).toArray meth c cX5_readNumber 3 RX5 (Cond.code yX5_readNumber cX5_readNumber 3 (some .int)) (some .int) := ⟨B.exec, B.bytes, hml, findClass_of_methodNamed B.named, atoms_spec B.pre, B.returns, B.notSynchronized⟩
  have hO := hR0.ok
  have hl := lv_entry ([jR G l0]) (n := 3) (Nat.le_of_ble_eq_true rfl)
  rw [lg_entry_eq]
  generalize (lg_sl ([jR G l0]) ++ List.replicate (3 - (lg_sl ([jR G l0])).length) Slot.unset).toArray = ls at hl ⊢
  have hl : lv_has ls 3 [(0, jR G l0)] := hl
  exact w_X5_readNumber C (Nat.le_refl _) (Nat.le_refl _) M l0 h0 h hO hl
set_option maxHeartbeats 4000000 in
theorem w_X5_takeOneOf_L7 {p : Program} {l : Launch} {e : Env} {R : Room} {s : State} {m : MethodId} {args : Array Value} {below : List Frame} {meth : Method} {c : Code} {H : Heap} {locs : List Loc} {ls : Array Slot} {G : jG}  (C : jCx p s m args meth c cX5_takeOneOf 4 RX5 (Cond.code yX5_takeOneOf cX5_takeOneOf 4 (some .int)) (some .int)) (hRf : 6 ≤ R.frames) (hRl : 200 ≤ R.locals)  (M : jM) (l0 l1 l2 : Int) (h0 : jkd l0 = (5, 0)) (h1 : 0 ≤ l1 ∧ l1 < 6) {fin : Int × jM} (S : Int) {rr : (Int) ⊕ (Unit ⊕ Unit)} (hf : f_X5_takeOneOf_L7 M l0 l1 l2 S = some rr) (kc : ∀ q : Int, rr = .inl q → ∀ (H : Heap) (locs : List Loc) (ls : Array Slot), jOk G M s H locs → lv_has ls 4 [(0, jR G l0), (1, jS G l1), (2, vI l2), (3, vI q)] → W p l e R s m args below meth c H locs 0 0 (MQ below (jQ G (some (vI fin.1)) fin.2) args s 0 0 (jA G)) (F0 m 7 ls [])) (kx0 : ∀ q : Unit, rr = .inr (.inl q) → ∀ (H : Heap) (locs : List Loc) (ls : Array Slot), jOk G M s H locs → lv_has ls 4 [(0, jR G l0)] → W p l e R s m args below meth c H locs 0 0 (MQ below (jQ G (some (vI fin.1)) fin.2) args s 0 0 (jA G)) (F0 m 49 ls [])) (kx1 : ∀ q : Unit, rr = .inr (.inr q) → ∀ (H : Heap) (locs : List Loc) (ls : Array Slot), jOk G M s H locs → lv_has ls 4 [(0, jR G l0), (2, vI l2)] → W p l e R s m args below meth c H locs 0 0 (MQ below (jQ G (some (vI fin.1)) fin.2) args s 0 0 (jA G)) (F0 m 31 ls [])) (hO : jOk G M s H locs) (hl : lv_has ls 4 [(0, jR G l0), (1, jS G l1), (2, vI l2), (3, vI S)]) : W p l e R s m args below meth c H locs 0 0 (MQ below (jQ G (some (vI fin.1)) fin.2) args s 0 0 (jA G)) (F0 m 7 ls []) := by
  unfold f_X5_takeOneOf_L7 at hf
  refine lv_iload_n C.1 C.2.1 dX5_takeOneOf_7 rfl (lv_at hl 3 rfl) ?_
  refine lv_aload_n C.1 C.2.1 dX5_takeOneOf_8 rfl (lv_at hl 1 rfl) ?_
  refine j_slen C hO h1 hl.1 (Nat.le_trans (by decide) hRf) (Nat.le_trans (by decide) hRl) kM_8_14 (Nat.le_of_ble_eq_true rfl) ⟨Nat.zero_le _, Nat.zero_le _⟩ dX5_takeOneOf_9 (fun H locs hO => ?_)
  refine j_icmp_ge (tgt := 49) C rfl rfl dX5_takeOneOf_12 (by decide) (fun c2 => ?_) (fun c2 => ?_)
  · have hf := (if_pos c2).symm.trans hf
    exact kx0 _ (som_e hf).symm _ _ _ hO (lv_sub hl [0] rfl)
  · have hf := (if_neg c2).symm.trans hf
    refine lv_aload_n C.1 C.2.1 dX5_takeOneOf_15 rfl (lv_at hl 0 rfl) ?_
    refine j_get C hO (ci := 5) (k := 3) (v := vI (M l0 3)) h0 rfl inlX5 (by decide) kF_7_20 rfl rfl dX5_takeOneOf_16 ?_
    refine j_if_ne (tgt := 49) C rfl dX5_takeOneOf_19 (by decide) (fun c3 => ?_) (fun c3 => ?_)
    · have hf := (if_neg c3).symm.trans hf
      exact kx0 _ (som_e hf).symm _ _ _ hO (lv_sub hl [0] rfl)
    · have hf := (if_pos c3).symm.trans hf
      refine lv_aload_n C.1 C.2.1 dX5_takeOneOf_22 rfl (lv_at hl 1 rfl) ?_
      refine lv_iload_n C.1 C.2.1 dX5_takeOneOf_23 rfl (lv_at hl 3 rfl) ?_
      obtain ⟨g4, hf⟩ := grd_e hf
      refine j_schar C hO h1 rfl g4.1 g4.2 hl.1 (Nat.le_trans (by decide) hRf) (Nat.le_trans (by decide) hRl) kM_9_2 (Nat.le_of_ble_eq_true rfl) ⟨Nat.zero_le _, Nat.zero_le _⟩ dX5_takeOneOf_24 (fun H locs hO => ?_)
      refine lv_iload_n C.1 C.2.1 dX5_takeOneOf_27 rfl (lv_at hl 2 rfl) ?_
      refine j_icmp_ne (tgt := 43) C rfl rfl dX5_takeOneOf_28 (by decide) (fun c5 => ?_) (fun c5 => ?_)
      · have hf := (if_neg c5).symm.trans hf
        refine lv_iinc (v := Int32.ofInt (S + 1)) (lv' := [(3, vI (S + 1)), (0, jR G l0), (1, jS G l1), (2, vI l2)]) C.1 C.2.1 dX5_takeOneOf_43 hl (k := 3) rfl (Int32.ofInt_add _ _).symm (by decide) rfl (fun ls hl => ?_)
        refine lv_goto (tgt := 7) C.1 C.2.1 dX5_takeOneOf_46 (by decide) ?_
        exact kc _ (som_e hf).symm _ _ _ hO (lv_sub hl [1, 2, 3, 0] rfl)
      · have hf := (if_pos c5).symm.trans hf
        exact kx1 _ (som_e hf).symm _ _ _ hO (lv_sub hl [0, 2] rfl)
set_option maxHeartbeats 4000000 in
theorem w_X5_takeOneOf {p : Program} {l : Launch} {e : Env} {R : Room} {s : State} {m : MethodId} {args : Array Value} {below : List Frame} {meth : Method} {c : Code} {H : Heap} {locs : List Loc} {ls : Array Slot} {G : jG}  (C : jCx p s m args meth c cX5_takeOneOf 4 RX5 (Cond.code yX5_takeOneOf cX5_takeOneOf 4 (some .int)) (some .int)) (hRf : 6 ≤ R.frames) (hRl : 200 ≤ R.locals)  (M : jM) (l0 l1 : Int) (h0 : jkd l0 = (5, 0)) (h1 : 0 ≤ l1 ∧ l1 < 6) {fin : Int × jM} (hf : f_X5_takeOneOf M l0 l1 = some fin) (hO : jOk G M s H locs) (hl : lv_has ls 4 [(0, jR G l0), (1, jS G l1)]) : W p l e R s m args below meth c H locs 0 0 (MQ below (jQ G (some (vI fin.1)) fin.2) args s 0 0 (jA G)) (F0 m 0 ls []) := by
  unfold f_X5_takeOneOf at hf
  refine lv_aload_n C.1 C.2.1 dX5_takeOneOf_0 rfl (lv_at hl 0 rfl) ?_
  obtain ⟨r1, hr1, hf⟩ := bnd_e hf
  refine j_callV C hO (n := 0) (As := []) (st1 := [vI r1]) (c_X5_next l G M l0 h0 hr1) h0 rfl kC_8_9 kM_8_6 kI_8_7 kS_8_8 kN_2_0 ⟨by decide, by decide, by decide⟩ ⟨Nat.le_trans (by decide) hRf, Nat.le_trans (by decide) hRl⟩ rfl rfl rfl hl.1 rfl (Nat.le_of_ble_eq_true rfl) ⟨Nat.zero_le _, Nat.zero_le _⟩ dX5_takeOneOf_1 rfl (fun H locs hO => ?_)
  refine lv_istore_n (lv' := [(2, vI r1), (0, jR G l0), (1, jS G l1)]) C.1 C.2.1 dX5_takeOneOf_4 rfl hl (by decide) rfl (fun ls hl => ?_)
  refine lv_iconst (v := Int32.ofInt 0) C.1 C.2.1 dX5_takeOneOf_5 rfl ?_
  refine lv_istore_n (lv' := [(3, vI 0), (2, vI r1), (0, jR G l0), (1, jS G l1)]) C.1 C.2.1 dX5_takeOneOf_6 rfl hl (by decide) rfl (fun ls hl => ?_)
  obtain ⟨x6, hx6, hf⟩ := bnd_e hf
  refine iter_e (P := fun Z => ∀ (H : Heap) (locs : List Loc) (ls : Array Slot), jOk G M s H locs → lv_has ls 4 [(0, jR G l0), (1, jS G l1), (2, vI r1), (3, vI Z)] → W p l e R s m args below meth c H locs 0 0 (MQ below (jQ G (some (vI fin.1)) fin.2) args s 0 0 (jA G)) (F0 m 7 ls [])) (E := fun x => (∀ q : Unit, x = (.inl q) → ∀ (H : Heap) (locs : List Loc) (ls : Array Slot), jOk G M s H locs → lv_has ls 4 [(0, jR G l0)] → W p l e R s m args below meth c H locs 0 0 (MQ below (jQ G (some (vI fin.1)) fin.2) args s 0 0 (jA G)) (F0 m 49 ls [])) ∧ (∀ q : Unit, x = (.inr q) → ∀ (H : Heap) (locs : List Loc) (ls : Array Slot), jOk G M s H locs → lv_has ls 4 [(0, jR G l0), (2, vI r1)] → W p l e R s m args below meth c H locs 0 0 (MQ below (jQ G (some (vI fin.1)) fin.2) args s 0 0 (jA G)) (F0 m 31 ls []))) (fun Z rr hb kc kx H locs ls hO hl => w_X5_takeOneOf_L7 C hRf hRl M l0 l1 r1 h0 h1 Z hb kc (fun q e => (kx _ e).1 q rfl) (fun q e => (kx _ e).2 q rfl) hO hl) 5000 0 x6 hx6 ?_ _ _ _ hO (lv_sub hl [2, 3, 1, 0] rfl)
  clear hO hl
  refine ⟨?_, ?_⟩
  · intro q7 eq7 H locs ls hO hl
    subst eq7
    have hf := sel_l hf
    refine lv_aload_n C.1 C.2.1 dX5_takeOneOf_49 rfl (lv_at hl 0 rfl) ?_
    refine lv_iconst (v := Int32.ofInt 1) C.1 C.2.1 dX5_takeOneOf_50 rfl ?_
    obtain ⟨M8, hM8, hf⟩ := lt1_e hf
    refine j_put C hO (ci := 5) (k := 3) (x := 1) h0 rfl inlX5 tyX5_ok nmX5 (by decide) kF_7_20 rfl rfl (jz_n (Or.inr rfl)) (jz_f (Or.inr rfl)) (by simp [jfl]) (fs_5_3) dX5_takeOneOf_51 (fun H locs hO => ?_)
    rw [← hM8] at hO
    refine lv_iconst (v := Int32.ofInt 0) C.1 C.2.1 dX5_takeOneOf_54 rfl ?_
    have hf := som_e hf
    subst hf
    exact j_iret C hO dX5_takeOneOf_55
  · intro q9 eq9 H locs ls hO hl
    subst eq9
    have hf := sel_r hf
    refine lv_aload_n C.1 C.2.1 dX5_takeOneOf_31 rfl (lv_at hl 0 rfl) ?_
    refine lv_dup C.1 C.2.1 dX5_takeOneOf_32 rfl ?_
    refine j_get C hO (ci := 5) (k := 2) (v := vI (M l0 2)) h0 rfl inlX5 (by decide) kF_7_19 rfl rfl dX5_takeOneOf_33 ?_
    refine lv_iconst (v := Int32.ofInt 1) C.1 C.2.1 dX5_takeOneOf_36 rfl ?_
    refine j_iadd C dX5_takeOneOf_37 ?_
    obtain ⟨M10, hM10, hf⟩ := lt1_e hf
    refine j_put C hO (ci := 5) (k := 2) (x := (M l0 2) + 1) h0 rfl inlX5 tyX5_ok nmX5 (by decide) kF_7_19 rfl rfl rfl rfl (by simp [jfl]) (fs_5_2) dX5_takeOneOf_38 (fun H locs hO => ?_)
    rw [← hM10] at hO
    refine lv_iload_n C.1 C.2.1 dX5_takeOneOf_41 rfl (lv_at hl 1 rfl) ?_
    have hf := som_e hf
    subst hf
    exact j_iret C hO dX5_takeOneOf_42
set_option maxHeartbeats 1000000 in
theorem c_X5_takeOneOf (l : Launch) (G : jG)  (M : jM) (l0 l1 : Int) (h0 : jkd l0 = (5, 0)) (h1 : 0 ≤ l1 ∧ l1 < 6) {fin : Int × jM} (h : f_X5_takeOneOf M l0 l1 = some fin) : Met l yX5_takeOneOf (Cond.code yX5_takeOneOf cX5_takeOneOf 4 (some .int) :: wsL_law) ({ frames := 6, cells := 0, slots := 0, locals := 200 } : Room) (va_Pc [jR G l0, jS G l1] (fun U => jRep G M U)) (jQ G (some (vI fin.1)) fin.2) 0 0 (jA G) := by
  refine Met.ofW (cc := cX5_takeOneOf) (maxL := 4) (ret := (some .int)) (by decide) rfl ?_
  intro p e s m args below meth c s₁ B hml hv
  obtain ⟨rfl, hR0⟩ := hv
  have C : jCx p s m ([jR G l0, jS G l1] : List Value).toArray meth c cX5_takeOneOf 4 RX5 (Cond.code yX5_takeOneOf cX5_takeOneOf 4 (some .int)) (some .int) := ⟨B.exec, B.bytes, hml, findClass_of_methodNamed B.named, atoms_spec B.pre, B.returns, B.notSynchronized⟩
  have hO := hR0.ok
  have hl := lv_entry ([jR G l0, jS G l1]) (n := 4) (Nat.le_of_ble_eq_true rfl)
  rw [lg_entry_eq]
  generalize (lg_sl ([jR G l0, jS G l1]) ++ List.replicate (4 - (lg_sl ([jR G l0, jS G l1])).length) Slot.unset).toArray = ls at hl ⊢
  have hl : lv_has ls 4 [(0, jR G l0), (1, jS G l1)] := hl
  exact w_X5_takeOneOf C (Nat.le_refl _) (Nat.le_refl _) M l0 l1 h0 h1 h hO hl
set_option maxHeartbeats 4000000 in
theorem w_X5_readE_L9 {p : Program} {l : Launch} {e : Env} {R : Room} {s : State} {m : MethodId} {args : Array Value} {below : List Frame} {meth : Method} {c : Code} {H : Heap} {locs : List Loc} {ls : Array Slot} {G : jG} {Fd Ld : Nat} {r_X5_readE : jM → Int → Int → Option (Int × jM)} {r_X5_readT : jM → Int → Int → Option (Int × jM)} {r_X5_readF : jM → Int → Int → Option (Int × jM)} (C : jCx p s m args meth c cX5_readE 5 RX5 (Cond.code yX5_readE cX5_readE 5 (some .long)) (some .long)) (hRf : 1 ≤ R.frames) (hRl : 20 ≤ R.locals) (Hr_X5_readE : ∀ (G : jG) (M : jM) (a0 a1 : Int) (q : Int × jM), r_X5_readE M a0 a1 = some q → jkd a0 = (5, 0) → Met l yX5_readE (Cond.code yX5_readE cX5_readE 5 (some .long) :: wsL_law) ({ frames := Fd, cells := 0, slots := 0, locals := Ld } : Room) (va_Pc [jR G a0, vI a1] (fun U => jRep G M U)) (jQ G (some (vL q.1)) q.2) 0 0 (jA G)) (Hr_X5_readT : ∀ (G : jG) (M : jM) (a0 a1 : Int) (q : Int × jM), r_X5_readT M a0 a1 = some q → jkd a0 = (5, 0) → Met l yX5_readT (Cond.code yX5_readT cX5_readT 5 (some .long) :: wsL_law) ({ frames := Fd, cells := 0, slots := 0, locals := Ld } : Room) (va_Pc [jR G a0, vI a1] (fun U => jRep G M U)) (jQ G (some (vL q.1)) q.2) 0 0 (jA G)) (Hr_X5_readF : ∀ (G : jG) (M : jM) (a0 a1 : Int) (q : Int × jM), r_X5_readF M a0 a1 = some q → jkd a0 = (5, 0) → Met l yX5_readF (Cond.code yX5_readF cX5_readF 6 (some .long) :: wsL_law) ({ frames := Fd, cells := 0, slots := 0, locals := Ld } : Room) (va_Pc [jR G a0, vI a1] (fun U => jRep G M U)) (jQ G (some (vL q.1)) q.2) 0 0 (jA G)) (hFd : Fd + 1 ≤ R.frames) (hLd : Ld + 25 ≤ R.locals) (M : jM) (l0 l1 : Int) (h0 : jkd l0 = (5, 0)) {fin : Int × jM} (S : jM × Int × Int) {rr : (jM × Int × Int) ⊕ ((jM × Int))} (hf : f_X5_readE_L9 r_X5_readE r_X5_readT r_X5_readF M l0 l1 S = some rr) (kc : ∀ q : jM × Int × Int, rr = .inl q → ∀ (H : Heap) (locs : List Loc) (ls : Array Slot), jOk G q.1 s H locs → lv_has ls 5 [(0, jR G l0), (1, vI l1), (2, vL q.2.1), (4, vI q.2.2)] → W p l e R s m args below meth c H locs 0 0 (MQ below (jQ G (some (vL fin.1)) fin.2) args s 0 0 (jA G)) (F0 m 9 ls [])) (kx0 : ∀ q : jM × Int, rr = .inr q → ∀ (H : Heap) (locs : List Loc) (ls : Array Slot), jOk G q.1 s H locs → lv_has ls 5 [(2, vL q.2)] → W p l e R s m args below meth c H locs 0 0 (MQ below (jQ G (some (vL fin.1)) fin.2) args s 0 0 (jA G)) (F0 m 56 ls [])) (hO : jOk G S.1 s H locs) (hl : lv_has ls 5 [(0, jR G l0), (1, vI l1), (2, vL S.2.1), (4, vI S.2.2)]) : W p l e R s m args below meth c H locs 0 0 (MQ below (jQ G (some (vL fin.1)) fin.2) args s 0 0 (jA G)) (F0 m 9 ls []) := by
  unfold f_X5_readE_L9 at hf
  refine lv_iload C.1 C.2.1 dX5_readE_9 (lv_at hl 3 rfl) ?_
  refine lv_bipush (v := Int32.ofInt 100) C.1 C.2.1 dX5_readE_11 (by decide) ?_
  refine j_icmp_ge (tgt := 56) C rfl (w32_id (by decide) (by decide)) dX5_readE_13 (by decide) (fun c2 => ?_) (fun c2 => ?_)
  · have hf := (if_pos c2).symm.trans hf
    exact kx0 _ (som_e hf).symm _ _ _ hO (lv_sub hl [2] rfl)
  · have hf := (if_neg c2).symm.trans hf
    refine lv_aload_n C.1 C.2.1 dX5_readE_16 rfl (lv_at hl 0 rfl) ?_
    refine j_get C hO (ci := 5) (k := 3) (v := vI (S.1 l0 3)) h0 rfl inlX5 (by decide) kF_7_20 rfl rfl dX5_readE_17 ?_
    refine j_if_ne (tgt := 56) C rfl dX5_readE_20 (by decide) (fun c3 => ?_) (fun c3 => ?_)
    · have hf := (if_neg c3).symm.trans hf
      exact kx0 _ (som_e hf).symm _ _ _ hO (lv_sub hl [2] rfl)
    · have hf := (if_pos c3).symm.trans hf
      refine lv_aload_n C.1 C.2.1 dX5_readE_23 rfl (lv_at hl 0 rfl) ?_
      obtain ⟨r4, hr4, hf⟩ := bnd_e hf
      refine j_callV C hO (n := 0) (As := []) (st1 := [vI r4]) (c_X5_next l G S.1 l0 h0 hr4) h0 rfl kC_8_9 kM_8_6 kI_8_7 kS_8_8 kN_2_0 ⟨by decide, by decide, by decide⟩ ⟨Nat.le_trans (by decide) hRf, Nat.le_trans (by decide) hRl⟩ rfl rfl rfl hl.1 rfl (Nat.le_of_ble_eq_true rfl) ⟨Nat.zero_le _, Nat.zero_le _⟩ dX5_readE_24 rfl (fun H locs hO => ?_)
      refine lv_bipush (v := Int32.ofInt 124) C.1 C.2.1 dX5_readE_27 (by decide) ?_
      refine j_icmp_ne (tgt := 56) C rfl (w32_id (by decide) (by decide)) dX5_readE_29 (by decide) (fun c5 => ?_) (fun c5 => ?_)
      · have hf := (if_neg c5).symm.trans hf
        exact kx0 _ (som_e hf).symm _ _ _ hO (lv_sub hl [2] rfl)
      · have hf := (if_pos c5).symm.trans hf
        refine lv_aload_n C.1 C.2.1 dX5_readE_32 rfl (lv_at hl 0 rfl) ?_
        refine lv_dup C.1 C.2.1 dX5_readE_33 rfl ?_
        refine j_get C hO (ci := 5) (k := 2) (v := vI (S.1 l0 2)) h0 rfl inlX5 (by decide) kF_7_19 rfl rfl dX5_readE_34 ?_
        refine lv_iconst (v := Int32.ofInt 1) C.1 C.2.1 dX5_readE_37 rfl ?_
        refine j_iadd C dX5_readE_38 ?_
        obtain ⟨M6, hM6, hf⟩ := lt1_e hf
        refine j_put C hO (ci := 5) (k := 2) (x := (S.1 l0 2) + 1) h0 rfl inlX5 tyX5_ok nmX5 (by decide) kF_7_19 rfl rfl rfl rfl (by simp [jfl]) (fs_5_2) dX5_readE_39 (fun H locs hO => ?_)
        rw [← hM6] at hO
        refine lv_lload_n C.1 C.2.1 dX5_readE_42 rfl (lv_at hl 2 rfl) ?_
        refine lv_aload_n C.1 C.2.1 dX5_readE_43 rfl (lv_at hl 0 rfl) ?_
        refine lv_iload_n C.1 C.2.1 dX5_readE_44 rfl (lv_at hl 1 rfl) ?_
        obtain ⟨r7, hr7, hf⟩ := bnd_e hf
        refine j_callV C hO (n := 1) (As := [vI l1]) (st1 := [vL r7.1, vL S.2.1]) (Hr_X5_readT G M6 l0 l1 r7 hr7 h0) h0 rfl kC_12_0 kM_11_3 kI_11_4 kS_11_5 kN_2_0 ⟨by decide, by decide, by decide⟩ ⟨hFd, jle (by decide) hLd⟩ rfl rfl rfl hl.1 rfl (Nat.le_of_ble_eq_true rfl) ⟨Nat.zero_le _, Nat.zero_le _⟩ dX5_readE_45 rfl (fun H locs hO => ?_)
        refine j_lor C dX5_readE_48 ?_
        refine lv_lstore_n (lv' := [(2, vL (lor S.2.1 r7.1)), (0, jR G l0), (1, vI l1), (4, vI S.2.2)]) C.1 C.2.1 dX5_readE_49 rfl hl (by decide) rfl (fun ls hl => ?_)
        refine lv_iinc (v := Int32.ofInt (S.2.2 + 1)) (lv' := [(4, vI (S.2.2 + 1)), (2, vL (lor S.2.1 r7.1)), (0, jR G l0), (1, vI l1)]) C.1 C.2.1 dX5_readE_50 hl (k := 3) rfl (Int32.ofInt_add _ _).symm (by decide) rfl (fun ls hl => ?_)
        refine lv_goto (tgt := 9) C.1 C.2.1 dX5_readE_53 (by decide) ?_
        exact kc _ (som_e hf).symm _ _ _ hO (lv_sub hl [2, 3, 1, 0] rfl)
set_option maxHeartbeats 4000000 in
theorem w_X5_readE {p : Program} {l : Launch} {e : Env} {R : Room} {s : State} {m : MethodId} {args : Array Value} {below : List Frame} {meth : Method} {c : Code} {H : Heap} {locs : List Loc} {ls : Array Slot} {G : jG} {Fd Ld : Nat} {r_X5_readE : jM → Int → Int → Option (Int × jM)} {r_X5_readT : jM → Int → Int → Option (Int × jM)} {r_X5_readF : jM → Int → Int → Option (Int × jM)} (C : jCx p s m args meth c cX5_readE 5 RX5 (Cond.code yX5_readE cX5_readE 5 (some .long)) (some .long)) (hRf : 1 ≤ R.frames) (hRl : 20 ≤ R.locals) (Hr_X5_readE : ∀ (G : jG) (M : jM) (a0 a1 : Int) (q : Int × jM), r_X5_readE M a0 a1 = some q → jkd a0 = (5, 0) → Met l yX5_readE (Cond.code yX5_readE cX5_readE 5 (some .long) :: wsL_law) ({ frames := Fd, cells := 0, slots := 0, locals := Ld } : Room) (va_Pc [jR G a0, vI a1] (fun U => jRep G M U)) (jQ G (some (vL q.1)) q.2) 0 0 (jA G)) (Hr_X5_readT : ∀ (G : jG) (M : jM) (a0 a1 : Int) (q : Int × jM), r_X5_readT M a0 a1 = some q → jkd a0 = (5, 0) → Met l yX5_readT (Cond.code yX5_readT cX5_readT 5 (some .long) :: wsL_law) ({ frames := Fd, cells := 0, slots := 0, locals := Ld } : Room) (va_Pc [jR G a0, vI a1] (fun U => jRep G M U)) (jQ G (some (vL q.1)) q.2) 0 0 (jA G)) (Hr_X5_readF : ∀ (G : jG) (M : jM) (a0 a1 : Int) (q : Int × jM), r_X5_readF M a0 a1 = some q → jkd a0 = (5, 0) → Met l yX5_readF (Cond.code yX5_readF cX5_readF 6 (some .long) :: wsL_law) ({ frames := Fd, cells := 0, slots := 0, locals := Ld } : Room) (va_Pc [jR G a0, vI a1] (fun U => jRep G M U)) (jQ G (some (vL q.1)) q.2) 0 0 (jA G)) (hFd : Fd + 1 ≤ R.frames) (hLd : Ld + 25 ≤ R.locals) (M : jM) (l0 l1 : Int) (h0 : jkd l0 = (5, 0)) {fin : Int × jM} (hf : fb_X5_readE r_X5_readE r_X5_readT r_X5_readF M l0 l1 = some fin) (hO : jOk G M s H locs) (hl : lv_has ls 5 [(0, jR G l0), (1, vI l1)]) : W p l e R s m args below meth c H locs 0 0 (MQ below (jQ G (some (vL fin.1)) fin.2) args s 0 0 (jA G)) (F0 m 0 ls []) := by
  unfold fb_X5_readE at hf
  refine lv_aload_n C.1 C.2.1 dX5_readE_0 rfl (lv_at hl 0 rfl) ?_
  refine lv_iload_n C.1 C.2.1 dX5_readE_1 rfl (lv_at hl 1 rfl) ?_
  obtain ⟨r1, hr1, hf⟩ := bnd_e hf
  refine j_callV C hO (n := 1) (As := [vI l1]) (st1 := [vL r1.1]) (Hr_X5_readT G M l0 l1 r1 hr1 h0) h0 rfl kC_12_0 kM_11_3 kI_11_4 kS_11_5 kN_2_0 ⟨by decide, by decide, by decide⟩ ⟨hFd, jle (by decide) hLd⟩ rfl rfl rfl hl.1 rfl (Nat.le_of_ble_eq_true rfl) ⟨Nat.zero_le _, Nat.zero_le _⟩ dX5_readE_2 rfl (fun H locs hO => ?_)
  refine lv_lstore_n (lv' := [(2, vL r1.1), (0, jR G l0), (1, vI l1)]) C.1 C.2.1 dX5_readE_5 rfl hl (by decide) rfl (fun ls hl => ?_)
  refine lv_iconst (v := Int32.ofInt 0) C.1 C.2.1 dX5_readE_6 rfl ?_
  refine lv_istore (lv' := [(4, vI 0), (2, vL r1.1), (0, jR G l0), (1, vI l1)]) C.1 C.2.1 dX5_readE_7 hl (by decide) rfl (fun ls hl => ?_)
  obtain ⟨x8, hx8, hf⟩ := bnd_e hf
  refine iter_e (P := fun Z => ∀ (H : Heap) (locs : List Loc) (ls : Array Slot), jOk G Z.1 s H locs → lv_has ls 5 [(0, jR G l0), (1, vI l1), (2, vL Z.2.1), (4, vI Z.2.2)] → W p l e R s m args below meth c H locs 0 0 (MQ below (jQ G (some (vL fin.1)) fin.2) args s 0 0 (jA G)) (F0 m 9 ls [])) (E := fun q => ∀ (H : Heap) (locs : List Loc) (ls : Array Slot), jOk G q.1 s H locs → lv_has ls 5 [(2, vL q.2)] → W p l e R s m args below meth c H locs 0 0 (MQ below (jQ G (some (vL fin.1)) fin.2) args s 0 0 (jA G)) (F0 m 56 ls [])) (fun Z rr hb kc kx H locs ls hO hl => w_X5_readE_L9 C hRf hRl Hr_X5_readE Hr_X5_readT Hr_X5_readF hFd hLd r1.2 l0 l1 h0 Z hb kc (fun q e => kx q e) hO hl) 5000 (r1.2, r1.1, 0) x8 hx8 ?_ _ _ _ hO (lv_sub hl [2, 3, 1, 0] rfl)
  clear hO hl
  intro H locs ls hO hl
  refine lv_lload_n C.1 C.2.1 dX5_readE_56 rfl (lv_at hl 0 rfl) ?_
  have hf := som_e hf
  subst hf
  exact j_lret C hO dX5_readE_57
set_option maxHeartbeats 1000000 in
theorem cb_X5_readE (l : Launch) (G : jG) {Fd Ld F0 L0 : Nat} (hF0 : 1 ≤ F0) (hL0 : 20 ≤ L0) (r_X5_readE : jM → Int → Int → Option (Int × jM)) (r_X5_readT : jM → Int → Int → Option (Int × jM)) (r_X5_readF : jM → Int → Int → Option (Int × jM)) (Hr_X5_readE : ∀ (G : jG) (M : jM) (a0 a1 : Int) (q : Int × jM), r_X5_readE M a0 a1 = some q → jkd a0 = (5, 0) → Met l yX5_readE (Cond.code yX5_readE cX5_readE 5 (some .long) :: wsL_law) ({ frames := Fd, cells := 0, slots := 0, locals := Ld } : Room) (va_Pc [jR G a0, vI a1] (fun U => jRep G M U)) (jQ G (some (vL q.1)) q.2) 0 0 (jA G)) (Hr_X5_readT : ∀ (G : jG) (M : jM) (a0 a1 : Int) (q : Int × jM), r_X5_readT M a0 a1 = some q → jkd a0 = (5, 0) → Met l yX5_readT (Cond.code yX5_readT cX5_readT 5 (some .long) :: wsL_law) ({ frames := Fd, cells := 0, slots := 0, locals := Ld } : Room) (va_Pc [jR G a0, vI a1] (fun U => jRep G M U)) (jQ G (some (vL q.1)) q.2) 0 0 (jA G)) (Hr_X5_readF : ∀ (G : jG) (M : jM) (a0 a1 : Int) (q : Int × jM), r_X5_readF M a0 a1 = some q → jkd a0 = (5, 0) → Met l yX5_readF (Cond.code yX5_readF cX5_readF 6 (some .long) :: wsL_law) ({ frames := Fd, cells := 0, slots := 0, locals := Ld } : Room) (va_Pc [jR G a0, vI a1] (fun U => jRep G M U)) (jQ G (some (vL q.1)) q.2) 0 0 (jA G)) (hFd : Fd + 1 ≤ F0) (hLd : Ld + 25 ≤ L0) (M : jM) (l0 l1 : Int) (h0 : jkd l0 = (5, 0)) {fin : Int × jM} (h : fb_X5_readE r_X5_readE r_X5_readT r_X5_readF M l0 l1 = some fin) : Met l yX5_readE (Cond.code yX5_readE cX5_readE 5 (some .long) :: wsL_law) ({ frames := F0, cells := 0, slots := 0, locals := L0 } : Room) (va_Pc [jR G l0, vI l1] (fun U => jRep G M U)) (jQ G (some (vL fin.1)) fin.2) 0 0 (jA G) := by
  refine Met.ofW (cc := cX5_readE) (maxL := 5) (ret := (some .long)) (by decide) rfl ?_
  intro p e s m args below meth c s₁ B hml hv
  obtain ⟨rfl, hR0⟩ := hv
  have C : jCx p s m ([jR G l0, vI l1] : List Value).toArray meth c cX5_readE 5 RX5 (Cond.code yX5_readE cX5_readE 5 (some .long)) (some .long) := ⟨B.exec, B.bytes, hml, findClass_of_methodNamed B.named, atoms_spec B.pre, B.returns, B.notSynchronized⟩
  have hO := hR0.ok
  have hl := lv_entry ([jR G l0, vI l1]) (n := 5) (Nat.le_of_ble_eq_true rfl)
  rw [lg_entry_eq]
  generalize (lg_sl ([jR G l0, vI l1]) ++ List.replicate (5 - (lg_sl ([jR G l0, vI l1])).length) Slot.unset).toArray = ls at hl ⊢
  have hl : lv_has ls 5 [(0, jR G l0), (1, vI l1)] := hl
  exact w_X5_readE C hF0 hL0 Hr_X5_readE Hr_X5_readT Hr_X5_readF hFd hLd M l0 l1 h0 h hO hl
set_option maxHeartbeats 4000000 in
theorem w_X5_readT_L9 {p : Program} {l : Launch} {e : Env} {R : Room} {s : State} {m : MethodId} {args : Array Value} {below : List Frame} {meth : Method} {c : Code} {H : Heap} {locs : List Loc} {ls : Array Slot} {G : jG} {Fd Ld : Nat} {r_X5_readE : jM → Int → Int → Option (Int × jM)} {r_X5_readT : jM → Int → Int → Option (Int × jM)} {r_X5_readF : jM → Int → Int → Option (Int × jM)} (C : jCx p s m args meth c cX5_readT 5 RX5 (Cond.code yX5_readT cX5_readT 5 (some .long)) (some .long)) (hRf : 1 ≤ R.frames) (hRl : 20 ≤ R.locals) (Hr_X5_readE : ∀ (G : jG) (M : jM) (a0 a1 : Int) (q : Int × jM), r_X5_readE M a0 a1 = some q → jkd a0 = (5, 0) → Met l yX5_readE (Cond.code yX5_readE cX5_readE 5 (some .long) :: wsL_law) ({ frames := Fd, cells := 0, slots := 0, locals := Ld } : Room) (va_Pc [jR G a0, vI a1] (fun U => jRep G M U)) (jQ G (some (vL q.1)) q.2) 0 0 (jA G)) (Hr_X5_readT : ∀ (G : jG) (M : jM) (a0 a1 : Int) (q : Int × jM), r_X5_readT M a0 a1 = some q → jkd a0 = (5, 0) → Met l yX5_readT (Cond.code yX5_readT cX5_readT 5 (some .long) :: wsL_law) ({ frames := Fd, cells := 0, slots := 0, locals := Ld } : Room) (va_Pc [jR G a0, vI a1] (fun U => jRep G M U)) (jQ G (some (vL q.1)) q.2) 0 0 (jA G)) (Hr_X5_readF : ∀ (G : jG) (M : jM) (a0 a1 : Int) (q : Int × jM), r_X5_readF M a0 a1 = some q → jkd a0 = (5, 0) → Met l yX5_readF (Cond.code yX5_readF cX5_readF 6 (some .long) :: wsL_law) ({ frames := Fd, cells := 0, slots := 0, locals := Ld } : Room) (va_Pc [jR G a0, vI a1] (fun U => jRep G M U)) (jQ G (some (vL q.1)) q.2) 0 0 (jA G)) (hFd : Fd + 1 ≤ R.frames) (hLd : Ld + 25 ≤ R.locals) (M : jM) (l0 l1 : Int) (h0 : jkd l0 = (5, 0)) {fin : Int × jM} (S : jM × Int × Int) {rr : (jM × Int × Int) ⊕ ((jM × Int))} (hf : f_X5_readT_L9 r_X5_readE r_X5_readT r_X5_readF M l0 l1 S = some rr) (kc : ∀ q : jM × Int × Int, rr = .inl q → ∀ (H : Heap) (locs : List Loc) (ls : Array Slot), jOk G q.1 s H locs → lv_has ls 5 [(0, jR G l0), (1, vI l1), (2, vL q.2.1), (4, vI q.2.2)] → W p l e R s m args below meth c H locs 0 0 (MQ below (jQ G (some (vL fin.1)) fin.2) args s 0 0 (jA G)) (F0 m 9 ls [])) (kx0 : ∀ q : jM × Int, rr = .inr q → ∀ (H : Heap) (locs : List Loc) (ls : Array Slot), jOk G q.1 s H locs → lv_has ls 5 [(2, vL q.2)] → W p l e R s m args below meth c H locs 0 0 (MQ below (jQ G (some (vL fin.1)) fin.2) args s 0 0 (jA G)) (F0 m 56 ls [])) (hO : jOk G S.1 s H locs) (hl : lv_has ls 5 [(0, jR G l0), (1, vI l1), (2, vL S.2.1), (4, vI S.2.2)]) : W p l e R s m args below meth c H locs 0 0 (MQ below (jQ G (some (vL fin.1)) fin.2) args s 0 0 (jA G)) (F0 m 9 ls []) := by
  unfold f_X5_readT_L9 at hf
  refine lv_iload C.1 C.2.1 dX5_readT_9 (lv_at hl 3 rfl) ?_
  refine lv_bipush (v := Int32.ofInt 100) C.1 C.2.1 dX5_readT_11 (by decide) ?_
  refine j_icmp_ge (tgt := 56) C rfl (w32_id (by decide) (by decide)) dX5_readT_13 (by decide) (fun c2 => ?_) (fun c2 => ?_)
  · have hf := (if_pos c2).symm.trans hf
    exact kx0 _ (som_e hf).symm _ _ _ hO (lv_sub hl [2] rfl)
  · have hf := (if_neg c2).symm.trans hf
    refine lv_aload_n C.1 C.2.1 dX5_readT_16 rfl (lv_at hl 0 rfl) ?_
    refine j_get C hO (ci := 5) (k := 3) (v := vI (S.1 l0 3)) h0 rfl inlX5 (by decide) kF_7_20 rfl rfl dX5_readT_17 ?_
    refine j_if_ne (tgt := 56) C rfl dX5_readT_20 (by decide) (fun c3 => ?_) (fun c3 => ?_)
    · have hf := (if_neg c3).symm.trans hf
      exact kx0 _ (som_e hf).symm _ _ _ hO (lv_sub hl [2] rfl)
    · have hf := (if_pos c3).symm.trans hf
      refine lv_aload_n C.1 C.2.1 dX5_readT_23 rfl (lv_at hl 0 rfl) ?_
      obtain ⟨r4, hr4, hf⟩ := bnd_e hf
      refine j_callV C hO (n := 0) (As := []) (st1 := [vI r4]) (c_X5_next l G S.1 l0 h0 hr4) h0 rfl kC_8_9 kM_8_6 kI_8_7 kS_8_8 kN_2_0 ⟨by decide, by decide, by decide⟩ ⟨Nat.le_trans (by decide) hRf, Nat.le_trans (by decide) hRl⟩ rfl rfl rfl hl.1 rfl (Nat.le_of_ble_eq_true rfl) ⟨Nat.zero_le _, Nat.zero_le _⟩ dX5_readT_24 rfl (fun H locs hO => ?_)
      refine lv_bipush (v := Int32.ofInt 38) C.1 C.2.1 dX5_readT_27 (by decide) ?_
      refine j_icmp_ne (tgt := 56) C rfl (w32_id (by decide) (by decide)) dX5_readT_29 (by decide) (fun c5 => ?_) (fun c5 => ?_)
      · have hf := (if_neg c5).symm.trans hf
        exact kx0 _ (som_e hf).symm _ _ _ hO (lv_sub hl [2] rfl)
      · have hf := (if_pos c5).symm.trans hf
        refine lv_aload_n C.1 C.2.1 dX5_readT_32 rfl (lv_at hl 0 rfl) ?_
        refine lv_dup C.1 C.2.1 dX5_readT_33 rfl ?_
        refine j_get C hO (ci := 5) (k := 2) (v := vI (S.1 l0 2)) h0 rfl inlX5 (by decide) kF_7_19 rfl rfl dX5_readT_34 ?_
        refine lv_iconst (v := Int32.ofInt 1) C.1 C.2.1 dX5_readT_37 rfl ?_
        refine j_iadd C dX5_readT_38 ?_
        obtain ⟨M6, hM6, hf⟩ := lt1_e hf
        refine j_put C hO (ci := 5) (k := 2) (x := (S.1 l0 2) + 1) h0 rfl inlX5 tyX5_ok nmX5 (by decide) kF_7_19 rfl rfl rfl rfl (by simp [jfl]) (fs_5_2) dX5_readT_39 (fun H locs hO => ?_)
        rw [← hM6] at hO
        refine lv_lload_n C.1 C.2.1 dX5_readT_42 rfl (lv_at hl 2 rfl) ?_
        refine lv_aload_n C.1 C.2.1 dX5_readT_43 rfl (lv_at hl 0 rfl) ?_
        refine lv_iload_n C.1 C.2.1 dX5_readT_44 rfl (lv_at hl 1 rfl) ?_
        obtain ⟨r7, hr7, hf⟩ := bnd_e hf
        refine j_callV C hO (n := 1) (As := [vI l1]) (st1 := [vL r7.1, vL S.2.1]) (Hr_X5_readF G M6 l0 l1 r7 hr7 h0) h0 rfl kC_11_6 kM_11_8 kI_11_9 kS_11_10 kN_2_0 ⟨by decide, by decide, by decide⟩ ⟨hFd, jle (by decide) hLd⟩ rfl rfl rfl hl.1 rfl (Nat.le_of_ble_eq_true rfl) ⟨Nat.zero_le _, Nat.zero_le _⟩ dX5_readT_45 rfl (fun H locs hO => ?_)
        refine j_land C dX5_readT_48 ?_
        refine lv_lstore_n (lv' := [(2, vL (land S.2.1 r7.1)), (0, jR G l0), (1, vI l1), (4, vI S.2.2)]) C.1 C.2.1 dX5_readT_49 rfl hl (by decide) rfl (fun ls hl => ?_)
        refine lv_iinc (v := Int32.ofInt (S.2.2 + 1)) (lv' := [(4, vI (S.2.2 + 1)), (2, vL (land S.2.1 r7.1)), (0, jR G l0), (1, vI l1)]) C.1 C.2.1 dX5_readT_50 hl (k := 3) rfl (Int32.ofInt_add _ _).symm (by decide) rfl (fun ls hl => ?_)
        refine lv_goto (tgt := 9) C.1 C.2.1 dX5_readT_53 (by decide) ?_
        exact kc _ (som_e hf).symm _ _ _ hO (lv_sub hl [2, 3, 1, 0] rfl)
set_option maxHeartbeats 4000000 in
theorem w_X5_readT {p : Program} {l : Launch} {e : Env} {R : Room} {s : State} {m : MethodId} {args : Array Value} {below : List Frame} {meth : Method} {c : Code} {H : Heap} {locs : List Loc} {ls : Array Slot} {G : jG} {Fd Ld : Nat} {r_X5_readE : jM → Int → Int → Option (Int × jM)} {r_X5_readT : jM → Int → Int → Option (Int × jM)} {r_X5_readF : jM → Int → Int → Option (Int × jM)} (C : jCx p s m args meth c cX5_readT 5 RX5 (Cond.code yX5_readT cX5_readT 5 (some .long)) (some .long)) (hRf : 1 ≤ R.frames) (hRl : 20 ≤ R.locals) (Hr_X5_readE : ∀ (G : jG) (M : jM) (a0 a1 : Int) (q : Int × jM), r_X5_readE M a0 a1 = some q → jkd a0 = (5, 0) → Met l yX5_readE (Cond.code yX5_readE cX5_readE 5 (some .long) :: wsL_law) ({ frames := Fd, cells := 0, slots := 0, locals := Ld } : Room) (va_Pc [jR G a0, vI a1] (fun U => jRep G M U)) (jQ G (some (vL q.1)) q.2) 0 0 (jA G)) (Hr_X5_readT : ∀ (G : jG) (M : jM) (a0 a1 : Int) (q : Int × jM), r_X5_readT M a0 a1 = some q → jkd a0 = (5, 0) → Met l yX5_readT (Cond.code yX5_readT cX5_readT 5 (some .long) :: wsL_law) ({ frames := Fd, cells := 0, slots := 0, locals := Ld } : Room) (va_Pc [jR G a0, vI a1] (fun U => jRep G M U)) (jQ G (some (vL q.1)) q.2) 0 0 (jA G)) (Hr_X5_readF : ∀ (G : jG) (M : jM) (a0 a1 : Int) (q : Int × jM), r_X5_readF M a0 a1 = some q → jkd a0 = (5, 0) → Met l yX5_readF (Cond.code yX5_readF cX5_readF 6 (some .long) :: wsL_law) ({ frames := Fd, cells := 0, slots := 0, locals := Ld } : Room) (va_Pc [jR G a0, vI a1] (fun U => jRep G M U)) (jQ G (some (vL q.1)) q.2) 0 0 (jA G)) (hFd : Fd + 1 ≤ R.frames) (hLd : Ld + 25 ≤ R.locals) (M : jM) (l0 l1 : Int) (h0 : jkd l0 = (5, 0)) {fin : Int × jM} (hf : fb_X5_readT r_X5_readE r_X5_readT r_X5_readF M l0 l1 = some fin) (hO : jOk G M s H locs) (hl : lv_has ls 5 [(0, jR G l0), (1, vI l1)]) : W p l e R s m args below meth c H locs 0 0 (MQ below (jQ G (some (vL fin.1)) fin.2) args s 0 0 (jA G)) (F0 m 0 ls []) := by
  unfold fb_X5_readT at hf
  refine lv_aload_n C.1 C.2.1 dX5_readT_0 rfl (lv_at hl 0 rfl) ?_
  refine lv_iload_n C.1 C.2.1 dX5_readT_1 rfl (lv_at hl 1 rfl) ?_
  obtain ⟨r1, hr1, hf⟩ := bnd_e hf
  refine j_callV C hO (n := 1) (As := [vI l1]) (st1 := [vL r1.1]) (Hr_X5_readF G M l0 l1 r1 hr1 h0) h0 rfl kC_11_6 kM_11_8 kI_11_9 kS_11_10 kN_2_0 ⟨by decide, by decide, by decide⟩ ⟨hFd, jle (by decide) hLd⟩ rfl rfl rfl hl.1 rfl (Nat.le_of_ble_eq_true rfl) ⟨Nat.zero_le _, Nat.zero_le _⟩ dX5_readT_2 rfl (fun H locs hO => ?_)
  refine lv_lstore_n (lv' := [(2, vL r1.1), (0, jR G l0), (1, vI l1)]) C.1 C.2.1 dX5_readT_5 rfl hl (by decide) rfl (fun ls hl => ?_)
  refine lv_iconst (v := Int32.ofInt 0) C.1 C.2.1 dX5_readT_6 rfl ?_
  refine lv_istore (lv' := [(4, vI 0), (2, vL r1.1), (0, jR G l0), (1, vI l1)]) C.1 C.2.1 dX5_readT_7 hl (by decide) rfl (fun ls hl => ?_)
  obtain ⟨x8, hx8, hf⟩ := bnd_e hf
  refine iter_e (P := fun Z => ∀ (H : Heap) (locs : List Loc) (ls : Array Slot), jOk G Z.1 s H locs → lv_has ls 5 [(0, jR G l0), (1, vI l1), (2, vL Z.2.1), (4, vI Z.2.2)] → W p l e R s m args below meth c H locs 0 0 (MQ below (jQ G (some (vL fin.1)) fin.2) args s 0 0 (jA G)) (F0 m 9 ls [])) (E := fun q => ∀ (H : Heap) (locs : List Loc) (ls : Array Slot), jOk G q.1 s H locs → lv_has ls 5 [(2, vL q.2)] → W p l e R s m args below meth c H locs 0 0 (MQ below (jQ G (some (vL fin.1)) fin.2) args s 0 0 (jA G)) (F0 m 56 ls [])) (fun Z rr hb kc kx H locs ls hO hl => w_X5_readT_L9 C hRf hRl Hr_X5_readE Hr_X5_readT Hr_X5_readF hFd hLd r1.2 l0 l1 h0 Z hb kc (fun q e => kx q e) hO hl) 5000 (r1.2, r1.1, 0) x8 hx8 ?_ _ _ _ hO (lv_sub hl [2, 3, 1, 0] rfl)
  clear hO hl
  intro H locs ls hO hl
  refine lv_lload_n C.1 C.2.1 dX5_readT_56 rfl (lv_at hl 0 rfl) ?_
  have hf := som_e hf
  subst hf
  exact j_lret C hO dX5_readT_57
set_option maxHeartbeats 1000000 in
theorem cb_X5_readT (l : Launch) (G : jG) {Fd Ld F0 L0 : Nat} (hF0 : 1 ≤ F0) (hL0 : 20 ≤ L0) (r_X5_readE : jM → Int → Int → Option (Int × jM)) (r_X5_readT : jM → Int → Int → Option (Int × jM)) (r_X5_readF : jM → Int → Int → Option (Int × jM)) (Hr_X5_readE : ∀ (G : jG) (M : jM) (a0 a1 : Int) (q : Int × jM), r_X5_readE M a0 a1 = some q → jkd a0 = (5, 0) → Met l yX5_readE (Cond.code yX5_readE cX5_readE 5 (some .long) :: wsL_law) ({ frames := Fd, cells := 0, slots := 0, locals := Ld } : Room) (va_Pc [jR G a0, vI a1] (fun U => jRep G M U)) (jQ G (some (vL q.1)) q.2) 0 0 (jA G)) (Hr_X5_readT : ∀ (G : jG) (M : jM) (a0 a1 : Int) (q : Int × jM), r_X5_readT M a0 a1 = some q → jkd a0 = (5, 0) → Met l yX5_readT (Cond.code yX5_readT cX5_readT 5 (some .long) :: wsL_law) ({ frames := Fd, cells := 0, slots := 0, locals := Ld } : Room) (va_Pc [jR G a0, vI a1] (fun U => jRep G M U)) (jQ G (some (vL q.1)) q.2) 0 0 (jA G)) (Hr_X5_readF : ∀ (G : jG) (M : jM) (a0 a1 : Int) (q : Int × jM), r_X5_readF M a0 a1 = some q → jkd a0 = (5, 0) → Met l yX5_readF (Cond.code yX5_readF cX5_readF 6 (some .long) :: wsL_law) ({ frames := Fd, cells := 0, slots := 0, locals := Ld } : Room) (va_Pc [jR G a0, vI a1] (fun U => jRep G M U)) (jQ G (some (vL q.1)) q.2) 0 0 (jA G)) (hFd : Fd + 1 ≤ F0) (hLd : Ld + 25 ≤ L0) (M : jM) (l0 l1 : Int) (h0 : jkd l0 = (5, 0)) {fin : Int × jM} (h : fb_X5_readT r_X5_readE r_X5_readT r_X5_readF M l0 l1 = some fin) : Met l yX5_readT (Cond.code yX5_readT cX5_readT 5 (some .long) :: wsL_law) ({ frames := F0, cells := 0, slots := 0, locals := L0 } : Room) (va_Pc [jR G l0, vI l1] (fun U => jRep G M U)) (jQ G (some (vL fin.1)) fin.2) 0 0 (jA G) := by
  refine Met.ofW (cc := cX5_readT) (maxL := 5) (ret := (some .long)) (by decide) rfl ?_
  intro p e s m args below meth c s₁ B hml hv
  obtain ⟨rfl, hR0⟩ := hv
  have C : jCx p s m ([jR G l0, vI l1] : List Value).toArray meth c cX5_readT 5 RX5 (Cond.code yX5_readT cX5_readT 5 (some .long)) (some .long) := ⟨B.exec, B.bytes, hml, findClass_of_methodNamed B.named, atoms_spec B.pre, B.returns, B.notSynchronized⟩
  have hO := hR0.ok
  have hl := lv_entry ([jR G l0, vI l1]) (n := 5) (Nat.le_of_ble_eq_true rfl)
  rw [lg_entry_eq]
  generalize (lg_sl ([jR G l0, vI l1]) ++ List.replicate (5 - (lg_sl ([jR G l0, vI l1])).length) Slot.unset).toArray = ls at hl ⊢
  have hl : lv_has ls 5 [(0, jR G l0), (1, vI l1)] := hl
  exact w_X5_readT C hF0 hL0 Hr_X5_readE Hr_X5_readT Hr_X5_readF hFd hLd M l0 l1 h0 h hO hl
