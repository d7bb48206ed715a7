theorem dJ9_abs_067f4_0 : decode cJ9_abs_067f4 0 = .ok (.lload_n 0, 1) := by decide +kernel
theorem dJ9_abs_067f4_1 : decode cJ9_abs_067f4 1 = .ok (.lconst 0, 1) := by decide +kernel
theorem dJ9_abs_067f4_2 : decode cJ9_abs_067f4 2 = .ok (.lcmp, 1) := by decide +kernel
theorem dJ9_abs_067f4_3 : decode cJ9_abs_067f4 3 = .ok (.ifCond .ge 8, 3) := by decide +kernel
theorem dJ9_abs_067f4_6 : decode cJ9_abs_067f4 6 = .ok (.lload_n 0, 1) := by decide +kernel
theorem dJ9_abs_067f4_7 : decode cJ9_abs_067f4 7 = .ok (.lneg, 1) := by decide +kernel
theorem dJ9_abs_067f4_8 : decode cJ9_abs_067f4 8 = .ok (.goto 4, 3) := by decide +kernel
theorem dJ9_abs_067f4_11 : decode cJ9_abs_067f4 11 = .ok (.lload_n 0, 1) := by decide +kernel
theorem dJ9_abs_067f4_12 : decode cJ9_abs_067f4 12 = .ok (.lreturn, 1) := by decide +kernel
theorem dJ9_max_7cf53_0 : decode cJ9_max_7cf53 0 = .ok (.iload_n 0, 1) := by decide +kernel
theorem dJ9_max_7cf53_1 : decode cJ9_max_7cf53 1 = .ok (.iload_n 1, 1) := by decide +kernel
theorem dJ9_max_7cf53_2 : decode cJ9_max_7cf53 2 = .ok (.if_icmp .lt 7, 3) := by decide +kernel
theorem dJ9_max_7cf53_5 : decode cJ9_max_7cf53 5 = .ok (.iload_n 0, 1) := by decide +kernel
theorem dJ9_max_7cf53_6 : decode cJ9_max_7cf53 6 = .ok (.goto 4, 3) := by decide +kernel
theorem dJ9_max_7cf53_9 : decode cJ9_max_7cf53 9 = .ok (.iload_n 1, 1) := by decide +kernel
theorem dJ9_max_7cf53_10 : decode cJ9_max_7cf53 10 = .ok (.ireturn, 1) := by decide +kernel
theorem dJ9_min_7cf53_0 : decode cJ9_min_7cf53 0 = .ok (.iload_n 0, 1) := by decide +kernel
theorem dJ9_min_7cf53_1 : decode cJ9_min_7cf53 1 = .ok (.iload_n 1, 1) := by decide +kernel
theorem dJ9_min_7cf53_2 : decode cJ9_min_7cf53 2 = .ok (.if_icmp .gt 7, 3) := by decide +kernel
theorem dJ9_min_7cf53_5 : decode cJ9_min_7cf53 5 = .ok (.iload_n 0, 1) := by decide +kernel
theorem dJ9_min_7cf53_6 : decode cJ9_min_7cf53 6 = .ok (.goto 4, 3) := by decide +kernel
theorem dJ9_min_7cf53_9 : decode cJ9_min_7cf53 9 = .ok (.iload_n 1, 1) := by decide +kernel
theorem dJ9_min_7cf53_10 : decode cJ9_min_7cf53 10 = .ok (.ireturn, 1) := by decide +kernel
theorem dJ0_length_8abf5_0 : decode cJ0_length_8abf5 0 = .ok (.aload_n 0, 1) := by decide +kernel
theorem dJ0_length_8abf5_1 : decode cJ0_length_8abf5 1 = .ok (.getfield 9, 3) := by decide +kernel
theorem dJ0_length_8abf5_4 : decode cJ0_length_8abf5 4 = .ok (.arraylength, 1) := by decide +kernel
theorem dJ0_length_8abf5_5 : decode cJ0_length_8abf5 5 = .ok (.aload_n 0, 1) := by decide +kernel
theorem dJ0_length_8abf5_6 : decode cJ0_length_8abf5 6 = .ok (.invokevirtual 335, 3) := by decide +kernel
theorem dJ0_length_8abf5_9 : decode cJ0_length_8abf5 9 = .ok (.ishr, 1) := by decide +kernel
theorem dJ0_length_8abf5_10 : decode cJ0_length_8abf5 10 = .ok (.ireturn, 1) := by decide +kernel
theorem dJ0_charAt_5068e_0 : decode cJ0_charAt_5068e 0 = .ok (.aload_n 0, 1) := by decide +kernel
theorem dJ0_charAt_5068e_1 : decode cJ0_charAt_5068e 1 = .ok (.invokevirtual 492, 3) := by decide +kernel
theorem dJ0_charAt_5068e_4 : decode cJ0_charAt_5068e 4 = .ok (.ifCond .eq 12, 3) := by decide +kernel
theorem dJ0_charAt_5068e_7 : decode cJ0_charAt_5068e 7 = .ok (.aload_n 0, 1) := by decide +kernel
theorem dJ0_charAt_5068e_8 : decode cJ0_charAt_5068e 8 = .ok (.getfield 9, 3) := by decide +kernel
theorem dJ0_charAt_5068e_11 : decode cJ0_charAt_5068e 11 = .ok (.iload_n 1, 1) := by decide +kernel
theorem dJ0_charAt_5068e_12 : decode cJ0_charAt_5068e 12 = .ok (.invokestatic 495, 3) := by decide +kernel
theorem dJ0_charAt_5068e_15 : decode cJ0_charAt_5068e 15 = .ok (.ireturn, 1) := by decide +kernel
theorem dJ0_charAt_5068e_16 : decode cJ0_charAt_5068e 16 = .ok (.aload_n 0, 1) := by decide +kernel
theorem dJ0_charAt_5068e_17 : decode cJ0_charAt_5068e 17 = .ok (.getfield 9, 3) := by decide +kernel
theorem dJ0_charAt_5068e_20 : decode cJ0_charAt_5068e 20 = .ok (.iload_n 1, 1) := by decide +kernel
theorem dJ0_charAt_5068e_21 : decode cJ0_charAt_5068e 21 = .ok (.invokestatic 498, 3) := by decide +kernel
theorem dJ0_charAt_5068e_24 : decode cJ0_charAt_5068e 24 = .ok (.ireturn, 1) := by decide +kernel
theorem dJ0_coder_7d493_0 : decode cJ0_coder_7d493 0 = .ok (.getstatic 38, 3) := by decide +kernel
theorem dJ0_coder_7d493_3 : decode cJ0_coder_7d493 3 = .ok (.ifCond .eq 10, 3) := by decide +kernel
theorem dJ0_coder_7d493_6 : decode cJ0_coder_7d493 6 = .ok (.aload_n 0, 1) := by decide +kernel
theorem dJ0_coder_7d493_7 : decode cJ0_coder_7d493 7 = .ok (.getfield 15, 3) := by decide +kernel
theorem dJ0_coder_7d493_10 : decode cJ0_coder_7d493 10 = .ok (.goto 4, 3) := by decide +kernel
theorem dJ0_coder_7d493_13 : decode cJ0_coder_7d493 13 = .ok (.iconst 1, 1) := by decide +kernel
theorem dJ0_coder_7d493_14 : decode cJ0_coder_7d493 14 = .ok (.ireturn, 1) := by decide +kernel
theorem dJ0_isLatin1_aae02_0 : decode cJ0_isLatin1_aae02 0 = .ok (.getstatic 38, 3) := by decide +kernel
theorem dJ0_isLatin1_aae02_3 : decode cJ0_isLatin1_aae02 3 = .ok (.ifCond .eq 14, 3) := by decide +kernel
theorem dJ0_isLatin1_aae02_6 : decode cJ0_isLatin1_aae02 6 = .ok (.aload_n 0, 1) := by decide +kernel
theorem dJ0_isLatin1_aae02_7 : decode cJ0_isLatin1_aae02 7 = .ok (.getfield 15, 3) := by decide +kernel
theorem dJ0_isLatin1_aae02_10 : decode cJ0_isLatin1_aae02 10 = .ok (.ifCond .ne 7, 3) := by decide +kernel
theorem dJ0_isLatin1_aae02_13 : decode cJ0_isLatin1_aae02 13 = .ok (.iconst 1, 1) := by decide +kernel
theorem dJ0_isLatin1_aae02_14 : decode cJ0_isLatin1_aae02 14 = .ok (.goto 4, 3) := by decide +kernel
theorem dJ0_isLatin1_aae02_17 : decode cJ0_isLatin1_aae02 17 = .ok (.iconst 0, 1) := by decide +kernel
theorem dJ0_isLatin1_aae02_18 : decode cJ0_isLatin1_aae02 18 = .ok (.ireturn, 1) := by decide +kernel
theorem dJ0_checkIndex_df160_0 : decode cJ0_checkIndex_df160 0 = .ok (.iload_n 0, 1) := by decide +kernel
theorem dJ0_checkIndex_df160_1 : decode cJ0_checkIndex_df160 1 = .ok (.iload_n 1, 1) := by decide +kernel
theorem dJ0_checkIndex_df160_2 : decode cJ0_checkIndex_df160 2 = .ok (.getstatic 1053, 3) := by decide +kernel
theorem dJ0_checkIndex_df160_5 : decode cJ0_checkIndex_df160 5 = .ok (.invokestatic 1059, 3) := by decide +kernel
theorem dJ0_checkIndex_df160_8 : decode cJ0_checkIndex_df160 8 = .ok (.pop, 1) := by decide +kernel
theorem dJ0_checkIndex_df160_9 : decode cJ0_checkIndex_df160 9 = .ok (.return_, 1) := by decide +kernel
theorem dJ1_charAt_3b067_0 : decode cJ1_charAt_3b067 0 = .ok (.iload_n 1, 1) := by decide +kernel
theorem dJ1_charAt_3b067_1 : decode cJ1_charAt_3b067 1 = .ok (.aload_n 0, 1) := by decide +kernel
theorem dJ1_charAt_3b067_2 : decode cJ1_charAt_3b067 2 = .ok (.arraylength, 1) := by decide +kernel
theorem dJ1_charAt_3b067_3 : decode cJ1_charAt_3b067 3 = .ok (.invokestatic 9, 3) := by decide +kernel
theorem dJ1_charAt_3b067_6 : decode cJ1_charAt_3b067 6 = .ok (.aload_n 0, 1) := by decide +kernel
theorem dJ1_charAt_3b067_7 : decode cJ1_charAt_3b067 7 = .ok (.iload_n 1, 1) := by decide +kernel
theorem dJ1_charAt_3b067_8 : decode cJ1_charAt_3b067 8 = .ok (.baload, 1) := by decide +kernel
theorem dJ1_charAt_3b067_9 : decode cJ1_charAt_3b067 9 = .ok (.sipush 255, 3) := by decide +kernel
theorem dJ1_charAt_3b067_12 : decode cJ1_charAt_3b067 12 = .ok (.iand, 1) := by decide +kernel
theorem dJ1_charAt_3b067_13 : decode cJ1_charAt_3b067 13 = .ok (.i2c, 1) := by decide +kernel
theorem dJ1_charAt_3b067_14 : decode cJ1_charAt_3b067 14 = .ok (.ireturn, 1) := by decide +kernel
theorem dJ2_getChar_3b067_0 : decode cJ2_getChar_3b067 0 = .ok (.getstatic 44, 3) := by decide +kernel
theorem dJ2_getChar_3b067_3 : decode cJ2_getChar_3b067 3 = .ok (.ifCond .ne 25, 3) := by decide +kernel
theorem dJ2_getChar_3b067_6 : decode cJ2_getChar_3b067 6 = .ok (.iload_n 1, 1) := by decide +kernel
theorem dJ2_getChar_3b067_7 : decode cJ2_getChar_3b067 7 = .ok (.ifCond .lt 11, 3) := by decide +kernel
theorem dJ2_getChar_3b067_10 : decode cJ2_getChar_3b067 10 = .ok (.iload_n 1, 1) := by decide +kernel
theorem dJ2_getChar_3b067_11 : decode cJ2_getChar_3b067 11 = .ok (.aload_n 0, 1) := by decide +kernel
theorem dJ2_getChar_3b067_12 : decode cJ2_getChar_3b067 12 = .ok (.invokestatic 48, 3) := by decide +kernel
theorem dJ2_getChar_3b067_15 : decode cJ2_getChar_3b067 15 = .ok (.if_icmp .lt 13, 3) := by decide +kernel
theorem dJ2_getChar_3b067_18 : decode cJ2_getChar_3b067 18 = .ok (.new 52, 3) := by decide +kernel
theorem dJ2_getChar_3b067_21 : decode cJ2_getChar_3b067 21 = .ok (.dup, 1) := by decide +kernel
theorem dJ2_getChar_3b067_22 : decode cJ2_getChar_3b067 22 = .ok (.ldc 54, 2) := by decide +kernel
theorem dJ2_getChar_3b067_24 : decode cJ2_getChar_3b067 24 = .ok (.invokespecial 56, 3) := by decide +kernel
theorem dJ2_getChar_3b067_27 : decode cJ2_getChar_3b067 27 = .ok (.athrow, 1) := by decide +kernel
theorem dJ2_getChar_3b067_28 : decode cJ2_getChar_3b067 28 = .ok (.iload_n 1, 1) := by decide +kernel
theorem dJ2_getChar_3b067_29 : decode cJ2_getChar_3b067 29 = .ok (.iconst 1, 1) := by decide +kernel
theorem dJ2_getChar_3b067_30 : decode cJ2_getChar_3b067 30 = .ok (.ishl, 1) := by decide +kernel
theorem dJ2_getChar_3b067_31 : decode cJ2_getChar_3b067 31 = .ok (.istore_n 1, 1) := by decide +kernel
theorem dJ2_getChar_3b067_32 : decode cJ2_getChar_3b067 32 = .ok (.aload_n 0, 1) := by decide +kernel
theorem dJ2_getChar_3b067_33 : decode cJ2_getChar_3b067 33 = .ok (.iload_n 1, 1) := by decide +kernel
theorem dJ2_getChar_3b067_34 : decode cJ2_getChar_3b067 34 = .ok (.iinc 1 1, 3) := by decide +kernel
theorem dJ2_getChar_3b067_37 : decode cJ2_getChar_3b067 37 = .ok (.baload, 1) := by decide +kernel
theorem dJ2_getChar_3b067_38 : decode cJ2_getChar_3b067 38 = .ok (.sipush 255, 3) := by decide +kernel
theorem dJ2_getChar_3b067_41 : decode cJ2_getChar_3b067 41 = .ok (.iand, 1) := by decide +kernel
theorem dJ2_getChar_3b067_42 : decode cJ2_getChar_3b067 42 = .ok (.getstatic 59, 3) := by decide +kernel
theorem dJ2_getChar_3b067_45 : decode cJ2_getChar_3b067 45 = .ok (.ishl, 1) := by decide +kernel
theorem dJ2_getChar_3b067_46 : decode cJ2_getChar_3b067 46 = .ok (.aload_n 0, 1) := by decide +kernel
theorem dJ2_getChar_3b067_47 : decode cJ2_getChar_3b067 47 = .ok (.iload_n 1, 1) := by decide +kernel
theorem dJ2_getChar_3b067_48 : decode cJ2_getChar_3b067 48 = .ok (.baload, 1) := by decide +kernel
theorem dJ2_getChar_3b067_49 : decode cJ2_getChar_3b067 49 = .ok (.sipush 255, 3) := by decide +kernel
theorem dJ2_getChar_3b067_52 : decode cJ2_getChar_3b067 52 = .ok (.iand, 1) := by decide +kernel
theorem dJ2_getChar_3b067_53 : decode cJ2_getChar_3b067 53 = .ok (.getstatic 63, 3) := by decide +kernel
theorem dJ2_getChar_3b067_56 : decode cJ2_getChar_3b067 56 = .ok (.ishl, 1) := by decide +kernel
theorem dJ2_getChar_3b067_57 : decode cJ2_getChar_3b067 57 = .ok (.ior, 1) := by decide +kernel
theorem dJ2_getChar_3b067_58 : decode cJ2_getChar_3b067 58 = .ok (.i2c, 1) := by decide +kernel
theorem dJ2_getChar_3b067_59 : decode cJ2_getChar_3b067 59 = .ok (.ireturn, 1) := by decide +kernel
theorem dJ2_length_9d52b_0 : decode cJ2_length_9d52b 0 = .ok (.aload_n 0, 1) := by decide +kernel
theorem dJ2_length_9d52b_1 : decode cJ2_length_9d52b 1 = .ok (.arraylength, 1) := by decide +kernel
theorem dJ2_length_9d52b_2 : decode cJ2_length_9d52b 2 = .ok (.iconst 1, 1) := by decide +kernel
theorem dJ2_length_9d52b_3 : decode cJ2_length_9d52b 3 = .ok (.ishr, 1) := by decide +kernel
theorem dJ2_length_9d52b_4 : decode cJ2_length_9d52b 4 = .ok (.ireturn, 1) := by decide +kernel
theorem dJ2_charAt_3b067_0 : decode cJ2_charAt_3b067 0 = .ok (.iload_n 1, 1) := by decide +kernel
theorem dJ2_charAt_3b067_1 : decode cJ2_charAt_3b067 1 = .ok (.aload_n 0, 1) := by decide +kernel
theorem dJ2_charAt_3b067_2 : decode cJ2_charAt_3b067 2 = .ok (.invokestatic 67, 3) := by decide +kernel
theorem dJ2_charAt_3b067_5 : decode cJ2_charAt_3b067 5 = .ok (.aload_n 0, 1) := by decide +kernel
theorem dJ2_charAt_3b067_6 : decode cJ2_charAt_3b067 6 = .ok (.iload_n 1, 1) := by decide +kernel
theorem dJ2_charAt_3b067_7 : decode cJ2_charAt_3b067 7 = .ok (.invokestatic 71, 3) := by decide +kernel
theorem dJ2_charAt_3b067_10 : decode cJ2_charAt_3b067 10 = .ok (.ireturn, 1) := by decide +kernel
theorem dJ2_checkIndex_2214a_0 : decode cJ2_checkIndex_2214a 0 = .ok (.iload_n 0, 1) := by decide +kernel
theorem dJ2_checkIndex_2214a_1 : decode cJ2_checkIndex_2214a 1 = .ok (.aload_n 1, 1) := by decide +kernel
theorem dJ2_checkIndex_2214a_2 : decode cJ2_checkIndex_2214a 2 = .ok (.invokestatic 48, 3) := by decide +kernel
theorem dJ2_checkIndex_2214a_5 : decode cJ2_checkIndex_2214a 5 = .ok (.invokestatic 414, 3) := by decide +kernel
theorem dJ2_checkIndex_2214a_8 : decode cJ2_checkIndex_2214a 8 = .ok (.return_, 1) := by decide +kernel
theorem dJ3_checkIndex_8e157_0 : decode cJ3_checkIndex_8e157 0 = .ok (.iload_n 0, 1) := by decide +kernel
theorem dJ3_checkIndex_8e157_1 : decode cJ3_checkIndex_8e157 1 = .ok (.ifCond .lt 8, 3) := by decide +kernel
theorem dJ3_checkIndex_8e157_4 : decode cJ3_checkIndex_8e157 4 = .ok (.iload_n 0, 1) := by decide +kernel
theorem dJ3_checkIndex_8e157_5 : decode cJ3_checkIndex_8e157 5 = .ok (.iload_n 1, 1) := by decide +kernel
theorem dJ3_checkIndex_8e157_6 : decode cJ3_checkIndex_8e157 6 = .ok (.if_icmp .lt 10, 3) := by decide +kernel
theorem dJ3_checkIndex_8e157_9 : decode cJ3_checkIndex_8e157 9 = .ok (.aload_n 2, 1) := by decide +kernel
theorem dJ3_checkIndex_8e157_10 : decode cJ3_checkIndex_8e157 10 = .ok (.iload_n 0, 1) := by decide +kernel
theorem dJ3_checkIndex_8e157_11 : decode cJ3_checkIndex_8e157 11 = .ok (.iload_n 1, 1) := by decide +kernel
theorem dJ3_checkIndex_8e157_12 : decode cJ3_checkIndex_8e157 12 = .ok (.invokestatic 95, 3) := by decide +kernel
theorem dJ3_checkIndex_8e157_15 : decode cJ3_checkIndex_8e157 15 = .ok (.athrow, 1) := by decide +kernel
theorem dJ3_checkIndex_8e157_16 : decode cJ3_checkIndex_8e157 16 = .ok (.iload_n 0, 1) := by decide +kernel
theorem dJ3_checkIndex_8e157_17 : decode cJ3_checkIndex_8e157 17 = .ok (.ireturn, 1) := by decide +kernel
section JS
variable {p : Program} {l : Launch} {e : Env} {R : Room} {s : State} {m : MethodId} {args : Array Value} {below : List Frame} {meth : Method} {c : Code} {H : Heap} {locs : List Loc} {cells slots : Nat} {Q : State → Prop}
variable {cc : ByteArray} {nL : Nat} {own : String} {w0 : Cond} {ret : Option FieldType} {pc : Nat} {ls : Array Slot} {rest : List Value} {G : jG} {M : jM}

theorem jtx_len {i : Int} (h : 0 ≤ i ∧ i < 6) : ((jtxt.map List.length).getD i.toNat 0 : Int) = jtxL i := by
  have key : ∀ k : Nat, k < 6 → (((jtxt.map List.length).getD k 0 : Nat) : Int) = ((jtxt.getD k []).length : Int) := by decide +kernel
  exact key i.toNat (by omega)
theorem jtx_rng {i : Int} (h : 0 ≤ i ∧ i < 6) : 3 ≤ jtxL i ∧ jtxL i ≤ 6 := by
  have key : ∀ k : Nat, k < 6 → 3 ≤ ((jtxt.getD k []).length : Int) ∧ ((jtxt.getD k []).length : Int) ≤ 6 := by decide +kernel
  exact key i.toNat (by omega)
theorem jtx_chr {i k : Int} (h : 0 ≤ i ∧ i < 6) (hk : 0 ≤ k ∧ k < 6) : ((((jtxt.map (fun x => x.map Int32.ofInt)).getD i.toNat []).getD k.toNat 0 &&& 255).toUInt32 % 65536).toInt32 = Int32.ofInt (jtxC i k) ∧ narrow .char (.int (Int32.ofInt (jtxC i k))) = .int (Int32.ofInt (jtxC i k)) := by
  have key : ∀ a : Nat, a < 6 → ∀ b : Nat, b < 6 → ((((jtxt.map (fun x => x.map Int32.ofInt)).getD a []).getD b 0 &&& 255).toUInt32 % 65536).toInt32 = Int32.ofInt ((jtxt.getD a []).getD b 0) ∧ narrow .char (.int (Int32.ofInt ((jtxt.getD a []).getD b 0))) = .int (Int32.ofInt ((jtxt.getD a []).getD b 0)) := by decide +kernel
  exact key i.toNat (by omega) k.toNat (by omega)
theorem j_nret {ty : FieldType} (C : jCx p s m args meth c cc nL own w0 (some ty)) (hO : jOk G M s H locs) {r : Int} (hn : narrow ty (vI r) = vI r) (hdg : decode cc pc = .ok (.ireturn, 1)) : W p l e R s m args below meth c H locs cells slots (MQ below (jQ G (some (vI r)) M) args s cells slots (jA G)) (F0 m pc ls [vI r]) := W.zret C.1 C.2.1 C.2.2.2.2.2.1 hn (fun t ht _ => jq_of hO ht) hO.2.2.2.2.2.2 hdg C.2.2.2.2.2.2
theorem j_gets_cs (C : jCx p s m args meth c cc nL own w0 ret)(hO : jOk G M s H locs) {idx : Nat} (hlink : Cond.fieldLink own idx "java/lang/String" "COMPACT_STRINGS" "Z" ∈ wsL_law) (hdg : decode cc pc = .ok (.getstatic idx, 3)) (kk : W p l e R s m args below meth c H locs cells slots Q (F0 m (pc + 3) ls (.int 1 :: rest))) : W p l e R s m args below meth c H locs cells slots Q (F0 m pc ls rest) := va_gets C.1 C.2.1 hO.2.2.2.1.2.2.2.2.2.2.2.1 hO.2.2.2.2 C.2.2.2.1 (C.2.2.2.2.1 _ (jpcM hlink)) (fun _ h => h) hdg kk
theorem j_gets_si (C : jCx p s m args meth c cc nL own w0 ret)(hO : jOk G M s H locs) {idx : Nat} (hlink : Cond.fieldLink own idx "jdk/internal/util/Preconditions" "SIOOBE_FORMATTER" "Ljava/util/function/BiFunction;" ∈ wsL_law) (hdg : decode cc pc = .ok (.getstatic idx, 3)) (kn : W p l e R s m args below meth c H locs cells slots Q (F0 m (pc + 3) ls (.null :: rest))) (ka : ∀ a : Nat, W p l e R s m args below meth c H locs cells slots Q (F0 m (pc + 3) ls (.ref a :: rest))) : W p l e R s m args below meth c H locs cells slots Q (F0 m pc ls rest) := by
  rcases hO.2.2.2.1.2.2.2.2.2.2.2.2 with h | ⟨t, h⟩
  · exact va_gets C.1 C.2.1 h hO.2.2.2.2 C.2.2.2.1 (C.2.2.2.2.1 _ (jpcM hlink)) (fun _ h => h) hdg kn
  · exact va_gets C.1 C.2.1 h hO.2.2.2.2 C.2.2.2.1 (C.2.2.2.2.1 _ (jpcM hlink)) (fun _ h => h) hdg (ka t)
theorem j_sval (C : jCx p s m args meth c cc nL own w0 ret)(hO : jOk G M s H locs) {i : Int} (hi : 0 ≤ i ∧ i < 6) {idx : Nat} (hlink : Cond.fieldLink own idx "java/lang/String" "value" "[B" ∈ wsL_law) (hdg : decode cc pc = .ok (.getfield idx, 3)) (kk : W p l e R s m args below meth c H locs cells slots Q (F0 m (pc + 3) ls (.ref (G.2.2.2.2.2 i.toNat) :: rest))) : W p l e R s m args below meth c H locs cells slots Q (F0 m pc ls (jS G i :: rest)) := vk_getf C.1 C.2.1 (hO.2.2.2.1.2.2.2.2.1.1 i.toNat (by omega)).2.2.1 hO.2.2.2.2 C.2.2.2.1 (C.2.2.2.2.1 _ (jpcM hlink)) (fun _ h => h) hdg kk
theorem j_scod (C : jCx p s m args meth c cc nL own w0 ret)(hO : jOk G M s H locs) {i : Int} (hi : 0 ≤ i ∧ i < 6) {idx : Nat} (hlink : Cond.fieldLink own idx "java/lang/String" "coder" "B" ∈ wsL_law) (hdg : decode cc pc = .ok (.getfield idx, 3)) (kk : W p l e R s m args below meth c H locs cells slots Q (F0 m (pc + 3) ls (.int 0 :: rest))) : W p l e R s m args below meth c H locs cells slots Q (F0 m pc ls (jS G i :: rest)) := vk_getf C.1 C.2.1 (hO.2.2.2.1.2.2.2.2.1.1 i.toNat (by omega)).2.1 hO.2.2.2.2 C.2.2.2.1 (C.2.2.2.2.1 _ (jpcM hlink)) (fun _ h => h) hdg kk
theorem j_bytlen (C : jCx p s m args meth c cc nL own w0 ret)(hO : jOk G M s H locs) {i : Int} (hi : 0 ≤ i ∧ i < 6) (hdg : decode cc pc = .ok (.arraylength, 1)) (kk : W p l e R s m args below meth c H locs cells slots Q (F0 m (pc + 1) ls (vI (jtxL i) :: rest))) : W p l e R s m args below meth c H locs cells slots Q (F0 m pc ls (.ref (G.2.2.2.2.2 i.toNat) :: rest)) := va_tlen C.1 C.2.1 (hO.2.2.2.1.2.2.2.2.1.1 i.toNat (by omega)).2.2.2 hO.2.2.2.2 (by rw [← jtx_len hi]; rfl) hdg kk
theorem j_bytld (C : jCx p s m args meth c cc nL own w0 ret)(hO : jOk G M s H locs) {i k K : Int} (hi : 0 ≤ i ∧ i < 6) (hk : w32 k = K) (h0 : 0 ≤ K) (h1 : K < jtxL i) (hdg : decode cc pc = .ok (.baload, 1)) (kk : W p l e R s m args below meth c H locs cells slots Q (F0 m (pc + 1) ls (.int (((jtxt.map (fun x => x.map Int32.ofInt)).getD i.toNat []).getD K.toNat 0) :: rest))) : W p l e R s m args below meth c H locs cells slots Q (F0 m pc ls (vI k :: .ref (G.2.2.2.2.2 i.toNat) :: rest)) := by
  subst hk
  exact va_tb C.1 C.2.1 (hO.2.2.2.1.2.2.2.2.1.1 i.toNat (by omega)).2.2.2 hO.2.2.2.2 (w32_in h0 (by have := jtx_len hi; omega)) rfl hdg kk
theorem j_srec (hO : jOk G M s H locs) {i : Int} (hi : 0 ≤ i ∧ i < 6) : ∃ cellB : Cell, H[G.2.2.2.2.1 i.toNat]? = some cellB ∧ cellB.vm.isStatics = false ∧ s.vm.findClass "java/lang/String" = some cellB.cls := vk_recv hO.2.2.2.1.2.2.2.2.1 (by omega) hO.2.2.2.2
theorem j_ldcS (C : jCx p s m args meth c cc nL own w0 ret)(hO : jOk G M s H locs) {tx : String} {x : Int} {index : Nat} (hk : (own, index, tx, x.toNat) ∈ jstrs) (hdg : decode cc pc = .ok (.ldc index, 2)) (kk : W p l e R s m args below meth c H locs cells slots Q (F0 m (pc + 2) ls (jS G x :: rest))) : W p l e R s m args below meth c H locs cells slots Q (F0 m pc ls rest) := va_ldcS C.1 C.2.1 C.2.2.2.1 (hO.2.2.2.1.2.2.2.2.2.1 _ hk) hdg kk
end JS
theorem c_J0_coder_7d493 (l : Launch) (G : jG) (M : jM) (i : Int) (hi : 0 ≤ i ∧ i < 6) : Met l yJ0_coder_7d493 (Cond.code yJ0_coder_7d493 cJ0_coder_7d493 1 (some .byte) :: wsL_law) ({ frames := 0, cells := 0, slots := 0, locals := 0 } : Room) (va_Pc [jS G i] (fun U => jRep G M U)) (jQ G (some (vI 0)) M) 0 0 (jA G) := by
  refine Met.ofW (cc := cJ0_coder_7d493) (maxL := 1) (ret := (some .byte)) (by decide) rfl ?_
  intro p e s m args below meth c s₁ B hml hv
  obtain ⟨rfl, hR0⟩ := hv
  have C : jCx p s m ([jS G i] : List Value).toArray meth c cJ0_coder_7d493 1 RJ0 (Cond.code yJ0_coder_7d493 cJ0_coder_7d493 1 (some .byte)) (some .byte) := ⟨B.exec, B.bytes, hml, findClass_of_methodNamed B.named, atoms_spec B.pre, B.returns, B.notSynchronized⟩
  have hO := hR0.ok
  have hl := lv_entry [jS G i] (n := 1) (Nat.le_of_ble_eq_true rfl)
  rw [lg_entry_eq]
  generalize (lg_sl [jS G i] ++ List.replicate (1 - (lg_sl [jS G i]).length) Slot.unset).toArray = ls at hl ⊢
  have hl : lv_has ls 1 [(0, jS G i)] := hl
  refine j_gets_cs C hO kF_9_0 dJ0_coder_7d493_0 ?_
  refine lv_if_eq (tgt := 13) C.1 C.2.1 dJ0_coder_7d493_3 (by decide) (fun h => absurd h (by decide)) (fun _ => ?_)
  refine lv_aload_n C.1 C.2.1 dJ0_coder_7d493_6 rfl (lv_at hl 0 rfl) ?_
  refine j_scod C hO hi kF_9_1 dJ0_coder_7d493_7 ?_
  refine lv_goto (tgt := 14) C.1 C.2.1 dJ0_coder_7d493_10 (by decide) ?_
  exact j_nret C hO (r := 0) rfl dJ0_coder_7d493_14
theorem c_J0_isLatin1_aae02 (l : Launch) (G : jG) (M : jM) (i : Int) (hi : 0 ≤ i ∧ i < 6) : Met l yJ0_isLatin1_aae02 (Cond.code yJ0_isLatin1_aae02 cJ0_isLatin1_aae02 1 (some .boolean) :: wsL_law) ({ frames := 0, cells := 0, slots := 0, locals := 0 } : Room) (va_Pc [jS G i] (fun U => jRep G M U)) (jQ G (some (vI 1)) M) 0 0 (jA G) := by
  refine Met.ofW (cc := cJ0_isLatin1_aae02) (maxL := 1) (ret := (some .boolean)) (by decide) rfl ?_
  intro p e s m args below meth c s₁ B hml hv
  obtain ⟨rfl, hR0⟩ := hv
  have C : jCx p s m ([jS G i] : List Value).toArray meth c cJ0_isLatin1_aae02 1 RJ0 (Cond.code yJ0_isLatin1_aae02 cJ0_isLatin1_aae02 1 (some .boolean)) (some .boolean) := ⟨B.exec, B.bytes, hml, findClass_of_methodNamed B.named, atoms_spec B.pre, B.returns, B.notSynchronized⟩
  have hO := hR0.ok
  have hl := lv_entry [jS G i] (n := 1) (Nat.le_of_ble_eq_true rfl)
  rw [lg_entry_eq]
  generalize (lg_sl [jS G i] ++ List.replicate (1 - (lg_sl [jS G i]).length) Slot.unset).toArray = ls at hl ⊢
  have hl : lv_has ls 1 [(0, jS G i)] := hl
  refine j_gets_cs C hO kF_9_0 dJ0_isLatin1_aae02_0 ?_
  refine lv_if_eq (tgt := 17) C.1 C.2.1 dJ0_isLatin1_aae02_3 (by decide) (fun h => absurd h (by decide)) (fun _ => ?_)
  refine lv_aload_n C.1 C.2.1 dJ0_isLatin1_aae02_6 rfl (lv_at hl 0 rfl) ?_
  refine j_scod C hO hi kF_9_1 dJ0_isLatin1_aae02_7 ?_
  refine lv_if_ne (tgt := 17) C.1 C.2.1 dJ0_isLatin1_aae02_10 (by decide) (fun h => absurd rfl h) (fun _ => ?_)
  refine lv_iconst (v := Int32.ofInt 1) C.1 C.2.1 dJ0_isLatin1_aae02_13 rfl ?_
  refine lv_goto (tgt := 18) C.1 C.2.1 dJ0_isLatin1_aae02_14 (by decide) ?_
  exact j_zret C hO (Or.inr rfl) dJ0_isLatin1_aae02_18
theorem c_J0_length_8abf5 (l : Launch) (G : jG) (M : jM) (i : Int) (hi : 0 ≤ i ∧ i < 6) : Met l yJ0_length_8abf5 (Cond.code yJ0_length_8abf5 cJ0_length_8abf5 1 (some .int) :: wsL_law) ({ frames := 1, cells := 0, slots := 0, locals := 21 } : Room) (va_Pc [jS G i] (fun U => jRep G M U)) (jQ G (some (vI (jtxL i))) M) 0 0 (jA G) := by
  refine Met.ofW (cc := cJ0_length_8abf5) (maxL := 1) (ret := (some .int)) (by decide) rfl ?_
  intro p e s m args below meth c s₁ B hml hv
  obtain ⟨rfl, hR0⟩ := hv
  have C : jCx p s m ([jS G i] : List Value).toArray meth c cJ0_length_8abf5 1 RJ0 (Cond.code yJ0_length_8abf5 cJ0_length_8abf5 1 (some .int)) (some .int) := ⟨B.exec, B.bytes, hml, findClass_of_methodNamed B.named, atoms_spec B.pre, B.returns, B.notSynchronized⟩
  have hO := hR0.ok
  have hl := lv_entry [jS G i] (n := 1) (Nat.le_of_ble_eq_true rfl)
  rw [lg_entry_eq]
  generalize (lg_sl [jS G i] ++ List.replicate (1 - (lg_sl [jS G i]).length) Slot.unset).toArray = ls at hl ⊢
  have hl : lv_has ls 1 [(0, jS G i)] := hl
  refine lv_aload_n C.1 C.2.1 dJ0_length_8abf5_0 rfl (lv_at hl 0 rfl) ?_
  refine j_sval C hO hi kF_8_19 dJ0_length_8abf5_1 ?_
  refine j_bytlen C hO hi dJ0_length_8abf5_4 ?_
  refine lv_aload_n C.1 C.2.1 dJ0_length_8abf5_5 rfl (lv_at hl 0 rfl) ?_
  refine j_callVg C hO (n := 0) (As := []) (st1 := [vI 0, vI (jtxL i)]) (c_J0_coder_7d493 l G M i hi) (j_srec hO hi) kC_8_23 kM_8_20 kI_8_21 kS_8_22 kN_8_17 ⟨by decide, by decide, by decide⟩ ⟨by decide, by decide⟩ rfl rfl rfl hl.1 rfl (Nat.le_of_ble_eq_true rfl) ⟨Nat.zero_le _, Nat.zero_le _⟩ dJ0_length_8abf5_6 rfl (fun H locs hO => ?_)
  refine lv_ishr C.1 C.2.1 dJ0_length_8abf5_9 ?_
  have e : Int32.ofInt (jtxL i) >>> (Int32.ofInt 0 &&& 31) = Int32.ofInt (jtxL i) := sb_shr0 _
  rw [e]
  exact j_iret C hO dJ0_length_8abf5_10
theorem c_J3_checkIndex_8e157_n (l : Launch) (G : jG) (M : jM) (k n : Int) (h0 : 0 ≤ w32 k) (h1 : w32 k < w32 n) : Met l yJ3_checkIndex_8e157 (Cond.code yJ3_checkIndex_8e157 cJ3_checkIndex_8e157 3 (some .int) :: wsL_law) ({ frames := 0, cells := 0, slots := 0, locals := 0 } : Room) (va_Pc [vI k, vI n, .null] (fun U => jRep G M U)) (jQ G (some (vI k)) M) 0 0 (jA G) := by
  refine Met.ofW (cc := cJ3_checkIndex_8e157) (maxL := 3) (ret := (some .int)) (by decide) rfl ?_
  intro p e s m args below meth c s₁ B hml hv
  obtain ⟨rfl, hR0⟩ := hv
  have C : jCx p s m ([vI k, vI n, .null] : List Value).toArray meth c cJ3_checkIndex_8e157 3 RJ3 (Cond.code yJ3_checkIndex_8e157 cJ3_checkIndex_8e157 3 (some .int)) (some .int) := ⟨B.exec, B.bytes, hml, findClass_of_methodNamed B.named, atoms_spec B.pre, B.returns, B.notSynchronized⟩
  have hO := hR0.ok
  have hl := lv_entry [vI k, vI n, .null] (n := 3) (Nat.le_of_ble_eq_true rfl)
  rw [lg_entry_eq]
  generalize (lg_sl [vI k, vI n, .null] ++ List.replicate (3 - (lg_sl [vI k, vI n, .null]).length) Slot.unset).toArray = ls at hl ⊢
  have hl : lv_has ls 3 [(0, vI k), (1, vI n), (2, .null)] := hl
  refine lv_iload_n C.1 C.2.1 dJ3_checkIndex_8e157_0 rfl (lv_at hl 0 rfl) ?_
  refine j_if_lt (tgt := 9) C rfl dJ3_checkIndex_8e157_1 (by decide) (fun h => absurd h (by omega)) (fun _ => ?_)
  refine lv_iload_n C.1 C.2.1 dJ3_checkIndex_8e157_4 rfl (lv_at hl 0 rfl) ?_
  refine lv_iload_n C.1 C.2.1 dJ3_checkIndex_8e157_5 rfl (lv_at hl 1 rfl) ?_
  refine j_icmp_lt (tgt := 16) C rfl rfl dJ3_checkIndex_8e157_6 (by decide) (fun _ => ?_) (fun h => absurd h1 h)
  refine lv_iload_n C.1 C.2.1 dJ3_checkIndex_8e157_16 rfl (lv_at hl 0 rfl) ?_
  exact j_iret C hO dJ3_checkIndex_8e157_17
theorem c_J3_checkIndex_8e157_a (l : Launch) (G : jG) (M : jM) (k n : Int) (a : Nat) (h0 : 0 ≤ w32 k) (h1 : w32 k < w32 n) : Met l yJ3_checkIndex_8e157 (Cond.code yJ3_checkIndex_8e157 cJ3_checkIndex_8e157 3 (some .int) :: wsL_law) ({ frames := 0, cells := 0, slots := 0, locals := 0 } : Room) (va_Pc [vI k, vI n, (.ref a)] (fun U => jRep G M U)) (jQ G (some (vI k)) M) 0 0 (jA G) := by
  refine Met.ofW (cc := cJ3_checkIndex_8e157) (maxL := 3) (ret := (some .int)) (by decide) rfl ?_
  intro p e s m args below meth c s₁ B hml hv
  obtain ⟨rfl, hR0⟩ := hv
  have C : jCx p s m ([vI k, vI n, (.ref a)] : List Value).toArray meth c cJ3_checkIndex_8e157 3 RJ3 (Cond.code yJ3_checkIndex_8e157 cJ3_checkIndex_8e157 3 (some .int)) (some .int) := ⟨B.exec, B.bytes, hml, findClass_of_methodNamed B.named, atoms_spec B.pre, B.returns, B.notSynchronized⟩
  have hO := hR0.ok
  have hl := lv_entry [vI k, vI n, (.ref a)] (n := 3) (Nat.le_of_ble_eq_true rfl)
  rw [lg_entry_eq]
  generalize (lg_sl [vI k, vI n, (.ref a)] ++ List.replicate (3 - (lg_sl [vI k, vI n, (.ref a)]).length) Slot.unset).toArray = ls at hl ⊢
  have hl : lv_has ls 3 [(0, vI k), (1, vI n), (2, (.ref a))] := hl
  refine lv_iload_n C.1 C.2.1 dJ3_checkIndex_8e157_0 rfl (lv_at hl 0 rfl) ?_
  refine j_if_lt (tgt := 9) C rfl dJ3_checkIndex_8e157_1 (by decide) (fun h => absurd h (by omega)) (fun _ => ?_)
  refine lv_iload_n C.1 C.2.1 dJ3_checkIndex_8e157_4 rfl (lv_at hl 0 rfl) ?_
  refine lv_iload_n C.1 C.2.1 dJ3_checkIndex_8e157_5 rfl (lv_at hl 1 rfl) ?_
  refine j_icmp_lt (tgt := 16) C rfl rfl dJ3_checkIndex_8e157_6 (by decide) (fun _ => ?_) (fun h => absurd h1 h)
  refine lv_iload_n C.1 C.2.1 dJ3_checkIndex_8e157_16 rfl (lv_at hl 0 rfl) ?_
  exact j_iret C hO dJ3_checkIndex_8e157_17
theorem c_J0_checkIndex_df160 (l : Launch) (G : jG) (M : jM) (k n : Int) (h0 : 0 ≤ w32 k) (h1 : w32 k < w32 n) : Met l yJ0_checkIndex_df160 (Cond.code yJ0_checkIndex_df160 cJ0_checkIndex_df160 2 none :: wsL_law) ({ frames := 1, cells := 0, slots := 0, locals := 30 } : Room) (va_Pc [vI k, vI n] (fun U => jRep G M U)) (jQ G none M) 0 0 (jA G) := by
  refine Met.ofW (cc := cJ0_checkIndex_df160) (maxL := 2) (ret := none) (by decide) rfl ?_
  intro p e s m args below meth c s₁ B hml hv
  obtain ⟨rfl, hR0⟩ := hv
  have C : jCx p s m ([vI k, vI n] : List Value).toArray meth c cJ0_checkIndex_df160 2 RJ0 (Cond.code yJ0_checkIndex_df160 cJ0_checkIndex_df160 2 none) none := ⟨B.exec, B.bytes, hml, findClass_of_methodNamed B.named, atoms_spec B.pre, B.returns, B.notSynchronized⟩
  have hO := hR0.ok
  have hl := lv_entry [vI k, vI n] (n := 2) (Nat.le_of_ble_eq_true rfl)
  rw [lg_entry_eq]
  generalize (lg_sl [vI k, vI n] ++ List.replicate (2 - (lg_sl [vI k, vI n]).length) Slot.unset).toArray = ls at hl ⊢
  have hl : lv_has ls 2 [(0, vI k), (1, vI n)] := hl
  refine lv_iload_n C.1 C.2.1 dJ0_checkIndex_df160_0 rfl (lv_at hl 0 rfl) ?_
  refine lv_iload_n C.1 C.2.1 dJ0_checkIndex_df160_1 rfl (lv_at hl 1 rfl) ?_
  refine j_gets_si C hO kF_9_17 dJ0_checkIndex_df160_2 ?_ (fun a => ?_)
  · refine j_callS C hO (n := 3) (As := [vI k, vI n, .null]) (st1 := [vI k]) (c_J3_checkIndex_8e157_n l G M k n h0 h1) kC_9_21 kM_9_18 kT_9_19 kN_9_20 ⟨by decide, by decide, by decide⟩ ⟨by decide, by decide⟩ rfl rfl rfl hl.1 rfl (Nat.le_of_ble_eq_true rfl) ⟨Nat.zero_le _, Nat.zero_le _⟩ dJ0_checkIndex_df160_5 rfl (fun H locs hO => ?_)
    refine lv_pop C.1 C.2.1 dJ0_checkIndex_df160_8 rfl ?_
    exact j_vret C hO dJ0_checkIndex_df160_9
  · refine j_callS C hO (n := 3) (As := [vI k, vI n, .ref a]) (st1 := [vI k]) (c_J3_checkIndex_8e157_a l G M k n a h0 h1) kC_9_21 kM_9_18 kT_9_19 kN_9_20 ⟨by decide, by decide, by decide⟩ ⟨by decide, by decide⟩ rfl rfl rfl hl.1 rfl (Nat.le_of_ble_eq_true rfl) ⟨Nat.zero_le _, Nat.zero_le _⟩ dJ0_checkIndex_df160_5 rfl (fun H locs hO => ?_)
    refine lv_pop C.1 C.2.1 dJ0_checkIndex_df160_8 rfl ?_
    exact j_vret C hO dJ0_checkIndex_df160_9
theorem c_J1_charAt_3b067 (l : Launch) (G : jG) (M : jM) (i k : Int) (hi : 0 ≤ i ∧ i < 6) (h0 : 0 ≤ w32 k) (h1 : w32 k < jtxL i) : Met l yJ1_charAt_3b067 (Cond.code yJ1_charAt_3b067 cJ1_charAt_3b067 2 (some .char) :: wsL_law) ({ frames := 2, cells := 0, slots := 0, locals := 60 } : Room) (va_Pc [.ref (G.2.2.2.2.2 i.toNat), vI k] (fun U => jRep G M U)) (jQ G (some (vI (jtxC i (w32 k)))) M) 0 0 (jA G) := by
  refine Met.ofW (cc := cJ1_charAt_3b067) (maxL := 2) (ret := (some .char)) (by decide) rfl ?_
  intro p e s m args below meth c s₁ B hml hv
  obtain ⟨rfl, hR0⟩ := hv
  have C : jCx p s m ([.ref (G.2.2.2.2.2 i.toNat), vI k] : List Value).toArray meth c cJ1_charAt_3b067 2 RJ1 (Cond.code yJ1_charAt_3b067 cJ1_charAt_3b067 2 (some .char)) (some .char) := ⟨B.exec, B.bytes, hml, findClass_of_methodNamed B.named, atoms_spec B.pre, B.returns, B.notSynchronized⟩
  have hO := hR0.ok
  have hl := lv_entry [.ref (G.2.2.2.2.2 i.toNat), vI k] (n := 2) (Nat.le_of_ble_eq_true rfl)
  rw [lg_entry_eq]
  generalize (lg_sl [.ref (G.2.2.2.2.2 i.toNat), vI k] ++ List.replicate (2 - (lg_sl [.ref (G.2.2.2.2.2 i.toNat), vI k]).length) Slot.unset).toArray = ls at hl ⊢
  have hl : lv_has ls 2 [(0, .ref (G.2.2.2.2.2 i.toNat)), (1, vI k)] := hl
  have hr := jtx_rng hi
  have hw : w32 (jtxL i) = jtxL i := w32_id (by omega) (by omega)
  refine lv_iload_n C.1 C.2.1 dJ1_charAt_3b067_0 rfl (lv_at hl 1 rfl) ?_
  refine lv_aload_n C.1 C.2.1 dJ1_charAt_3b067_1 rfl (lv_at hl 0 rfl) ?_
  refine j_bytlen C hO hi dJ1_charAt_3b067_2 ?_
  refine j_callS C hO (n := 2) (As := [vI k, vI (jtxL i)]) (st1 := []) (c_J0_checkIndex_df160 l G M k (jtxL i) h0 (by rw [hw]; exact h1)) kC_9_16 kM_9_14 kT_9_15 kN_8_17 ⟨by decide, by decide, by decide⟩ ⟨by decide, by decide⟩ rfl rfl rfl hl.1 rfl (Nat.le_of_ble_eq_true rfl) ⟨Nat.zero_le _, Nat.zero_le _⟩ dJ1_charAt_3b067_3 rfl (fun H locs hO => ?_)
  refine lv_aload_n C.1 C.2.1 dJ1_charAt_3b067_6 rfl (lv_at hl 0 rfl) ?_
  refine lv_iload_n C.1 C.2.1 dJ1_charAt_3b067_7 rfl (lv_at hl 1 rfl) ?_
  refine j_bytld C hO hi rfl h0 h1 dJ1_charAt_3b067_8 ?_
  refine lv_sipush (v := 255) C.1 C.2.1 dJ1_charAt_3b067_9 (by decide) ?_
  refine lv_iand C.1 C.2.1 dJ1_charAt_3b067_12 ?_
  obtain ⟨e1, e2⟩ := jtx_chr hi (k := w32 k) ⟨h0, by omega⟩
  refine lv_i2c (v := Int32.ofInt (jtxC i (w32 k))) C.1 C.2.1 dJ1_charAt_3b067_13 e1 ?_
  exact j_nret C hO e2 dJ1_charAt_3b067_14
theorem c_J0_charAt_5068e (l : Launch) (G : jG) (M : jM) (i k : Int) (hi : 0 ≤ i ∧ i < 6) (h0 : 0 ≤ w32 k) (h1 : w32 k < jtxL i) : Met l yJ0_charAt_5068e (Cond.code yJ0_charAt_5068e cJ0_charAt_5068e 2 (some .char) :: wsL_law) ({ frames := 3, cells := 0, slots := 0, locals := 90 } : Room) (va_Pc [jS G i, vI k] (fun U => jRep G M U)) (jQ G (some (vI (jtxC i (w32 k)))) M) 0 0 (jA G) := by
  refine Met.ofW (cc := cJ0_charAt_5068e) (maxL := 2) (ret := (some .char)) (by decide) rfl ?_
  intro p e s m args below meth c s₁ B hml hv
  obtain ⟨rfl, hR0⟩ := hv
  have C : jCx p s m ([jS G i, vI k] : List Value).toArray meth c cJ0_charAt_5068e 2 RJ0 (Cond.code yJ0_charAt_5068e cJ0_charAt_5068e 2 (some .char)) (some .char) := ⟨B.exec, B.bytes, hml, findClass_of_methodNamed B.named, atoms_spec B.pre, B.returns, B.notSynchronized⟩
  have hO := hR0.ok
  have hl := lv_entry [jS G i, vI k] (n := 2) (Nat.le_of_ble_eq_true rfl)
  rw [lg_entry_eq]
  generalize (lg_sl [jS G i, vI k] ++ List.replicate (2 - (lg_sl [jS G i, vI k]).length) Slot.unset).toArray = ls at hl ⊢
  have hl : lv_has ls 2 [(0, jS G i), (1, vI k)] := hl
  refine lv_aload_n C.1 C.2.1 dJ0_charAt_5068e_0 rfl (lv_at hl 0 rfl) ?_
  refine j_callVg C hO (n := 0) (As := []) (st1 := [vI 1]) (c_J0_isLatin1_aae02 l G M i hi) (j_srec hO hi) kC_9_9 kM_9_6 kI_9_7 kS_9_8 kN_8_17 ⟨by decide, by decide, by decide⟩ ⟨by decide, by decide⟩ rfl rfl rfl hl.1 rfl (Nat.le_of_ble_eq_true rfl) ⟨Nat.zero_le _, Nat.zero_le _⟩ dJ0_charAt_5068e_1 rfl (fun H locs hO => ?_)
  refine lv_if_eq (tgt := 16) C.1 C.2.1 dJ0_charAt_5068e_4 (by decide) (fun h => absurd h (by decide)) (fun _ => ?_)
  refine lv_aload_n C.1 C.2.1 dJ0_charAt_5068e_7 rfl (lv_at hl 0 rfl) ?_
  refine j_sval C hO hi kF_8_19 dJ0_charAt_5068e_8 ?_
  refine lv_iload_n C.1 C.2.1 dJ0_charAt_5068e_11 rfl (lv_at hl 1 rfl) ?_
  refine j_callS C hO (n := 2) (As := [.ref (G.2.2.2.2.2 i.toNat), vI k]) (st1 := [vI (jtxC i (w32 k))]) (c_J1_charAt_3b067 l G M i k hi h0 h1) kC_9_13 kM_9_10 kT_9_11 kN_9_12 ⟨by decide, by decide, by decide⟩ ⟨by decide, by decide⟩ rfl rfl rfl hl.1 rfl (Nat.le_of_ble_eq_true rfl) ⟨Nat.zero_le _, Nat.zero_le _⟩ dJ0_charAt_5068e_12 rfl (fun H locs hO => ?_)
  have hr := jtx_rng hi
  obtain ⟨e1, e2⟩ := jtx_chr hi (k := w32 k) ⟨h0, by omega⟩
  exact j_nret C hO e2 dJ0_charAt_5068e_15
section JT
variable {p : Program} {l : Launch} {e : Env} {R : Room} {s : State} {m : MethodId} {args : Array Value} {below : List Frame} {meth : Method} {c : Code} {H : Heap} {locs : List Loc} {cells slots : Nat} {Q : State → Prop}
variable {cc : ByteArray} {nL : Nat} {own : String} {w0 : Cond} {ret : Option FieldType} {pc : Nat} {ls : Array Slot} {rest : List Value} {G : jG} {M : jM}

theorem j_slen (C : jCx p s m args meth c cc nL own w0 ret)(hO : jOk G M s H locs) {i : Int} {index : Nat} (hi : 0 ≤ i ∧ i < 6) (hsz : ls.size = nL) (hfr : 6 ≤ R.frames) (hlo : 200 ≤ R.locals) (hli : Cond.methodLink own index yJ0_length_8abf5 ∈ wsL_law) (hW : (rest.map fun v => v.category).sum ≤ 8) (hcs : cells ≤ R.cells ∧ slots ≤ R.slots) (hdg : decode cc pc = .ok (.invokevirtual index, 3)) (kk : ∀ (H : Heap) (locs : List Loc), jOk G M s H locs → W p l e R s m args below meth c H locs cells slots Q (F0 m (pc + 3) ls (vI (jtxL i) :: rest))) : W p l e R s m args below meth c H locs cells slots Q (F0 m pc ls (jS G i :: rest)) := by
  exact j_callVg C hO (n := 0) (As := []) (st1 := vI (jtxL i) :: rest) (c_J0_length_8abf5 l G M i hi) (j_srec hO hi) kC_8_18 hli kI_8_15 kS_8_16 kN_8_17 ⟨by decide, by decide, by decide⟩ ⟨Nat.le_trans (by decide) hfr, Nat.le_trans (by decide) hlo⟩ rfl rfl rfl hsz rfl hW hcs hdg rfl kk
theorem j_schar (C : jCx p s m args meth c cc nL own w0 ret)(hO : jOk G M s H locs) {k K : Int}  {i : Int} {index : Nat} (hi : 0 ≤ i ∧ i < 6) (hk : w32 k = K) (h0 : 0 ≤ K) (h1 : K < jtxL i) (hsz : ls.size = nL) (hfr : 6 ≤ R.frames) (hlo : 200 ≤ R.locals) (hli : Cond.methodLink own index yJ0_charAt_5068e ∈ wsL_law) (hW : (rest.map fun v => v.category).sum ≤ 8) (hcs : cells ≤ R.cells ∧ slots ≤ R.slots) (hdg : decode cc pc = .ok (.invokevirtual index, 3)) (kk : ∀ (H : Heap) (locs : List Loc), jOk G M s H locs → W p l e R s m args below meth c H locs cells slots Q (F0 m (pc + 3) ls (vI (jtxC i K) :: rest))) : W p l e R s m args below meth c H locs cells slots Q (F0 m pc ls (vI k :: jS G i :: rest)) := by
  subst hk
  exact j_callVg C hO (n := 1) (As := [vI k]) (st1 := vI (jtxC i (w32 k)) :: rest) (c_J0_charAt_5068e l G M i k hi h0 h1) (j_srec hO hi) kC_9_5 hli kI_9_3 kS_9_4 kN_8_17 ⟨by decide, by decide, by decide⟩ ⟨Nat.le_trans (by decide) hfr, Nat.le_trans (by decide) hlo⟩ rfl rfl rfl hsz rfl hW hcs hdg rfl kk
end JT
