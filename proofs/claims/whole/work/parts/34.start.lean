theorem kA_1_0 : Cond.classLink RL 7 RX9 ∈ wsL_law := cin1 _ (List.mem_of_getElem? (i := 0) rfl)
theorem kA_1_1 : Cond.instantiable RX9 10 ∈ wsL_law := cin1 _ (List.mem_of_getElem? (i := 1) rfl)
theorem kA_1_3 : Cond.classLink RL 10 RX10 ∈ wsL_law := cin1 _ (List.mem_of_getElem? (i := 3) rfl)
theorem kA_1_4 : Cond.instantiable RX10 23 ∈ wsL_law := cin1 _ (List.mem_of_getElem? (i := 4) rfl)
theorem kM_1_6 : Cond.methodLink RL 9 yX9_init ∈ wsL_law := cin1 _ (List.mem_of_getElem? (i := 6) rfl)
theorem kI_1_7 : Cond.instanceMethod yX9_init ∈ wsL_law := cin1 _ (List.mem_of_getElem? (i := 7) rfl)
theorem kC_1_8 : Cond.code yX9_init cX9_init 1 none ∈ wsL_law := cin1 _ (List.mem_of_getElem? (i := 8) rfl)
theorem kM_5_19 : Cond.methodLink RL 12 yX10_init ∈ wsL_law := cin5 _ (List.mem_of_getElem? (i := 19) rfl)
theorem kI_5_20 : Cond.instanceMethod yX10_init ∈ wsL_law := cin5 _ (List.mem_of_getElem? (i := 20) rfl)
theorem kC_5_21 : Cond.code yX10_init cX10_init 1 none ∈ wsL_law := cin5 _ (List.mem_of_getElem? (i := 21) rfl)
theorem jarr_o {cA : ClassId} {n : Nat} {f g : Nat → Option Nat} (h : ∀ j, j < n → f j = g j) : vp_cell cA (n, .inr (.inr (.inr (.inr f)))) = vp_cell cA (n, .inr (.inr (.inr (.inr g)))) := by
  rw [vp_cell_q, vp_cell_q]
  have e : (fun j : Fin n => va_rf (f j.val)) = (fun j : Fin n => va_rf (g j.val)) := by funext j; rw [h j.val j.isLt]
  unfold arrV
  rw [e]
theorem jarr_i {cA : ClassId} {n : Nat} {f g : Nat → Int32} (h : ∀ j, f j = g j) : vp_cell cA (n, .inl f) = vp_cell cA (n, .inl g) := by
  rw [funext h]
set_option maxHeartbeats 8000000 in
set_option maxRecDepth 100000 in
/-- the statics and the texts, out of the Statement's premises -/
theorem j_statics {s : State} {b : Nat} (hts : ∀ w ∈ lw_tbl, w.before #[Value.ref b] s = true) (hgv : (Jvm.Cond.and given_1 narrow_1).before #[Value.ref b] s = true) : ∃ (t1 t2 : Nat) (adK adV : Nat → Nat),
    va_Z "RowFirst" "ABOVE" "[I" (.ref t1) (fun q => s.heap.size ≤ q) s s.heap ∧ va_T .int t1 7 (fun j => vI (jabove j)) (fun q => s.heap.size ≤ q) s s.heap ∧
    va_Z "RowFirst$Actor" "BODIES" "[I" (.ref t2) (fun q => s.heap.size ≤ q) s s.heap ∧ va_T .int t2 21 (fun j => vI (jbodies j)) (fun q => s.heap.size ≤ q) s s.heap ∧
    vk_S 6 (jtxt.map List.length) (jtxt.map (fun x => x.map Int32.ofInt)) adK adV (fun q => s.heap.size ≤ q) s s.heap ∧
    (∀ q ∈ jstrs, vk_R q.1 q.2.1 q.2.2.1 (adK q.2.2.2) s) ∧ (∀ q ∈ jnests, va_Nw (.methodLinkNest q.1 q.2.1 q.2.2.1 q.2.2.2) s) ∧
    va_Z "java/lang/String" "COMPACT_STRINGS" "Z" (.int 1) (fun q => s.heap.size ≤ q) s s.heap ∧ va_Zq "jdk/internal/util/Preconditions" "SIOOBE_FORMATTER" "Ljava/util/function/BiFunction;" (fun q => s.heap.size ≤ q) s s.heap := by
  have hs := flat_of_before _ hgv
  have hA : ∀ a : Nat, a < s.heap.size → ¬ (fun q : Nat => s.heap.size ≤ q) a := fun a h => Nat.not_le.mpr h
  have k1 : ∀ j, j < 7 → Cond.eq (.elem (.static "RowFirst" "ABOVE" "[I") (.int (Int32.ofNat j))) (.int (Int32.ofInt (jabove j))) ∈ flatC (Jvm.Cond.and given_1 narrow_1) := by decide +kernel
  have a1 : Cond.arrayOf (.static "RowFirst" "ABOVE" "[I") .int ∈ flatC (Jvm.Cond.and given_1 narrow_1) := by decide +kernel
  have n1 : Cond.eq (.length (.static "RowFirst" "ABOVE" "[I")) (.int (Int32.ofNat 7)) ∈ flatC (Jvm.Cond.and given_1 narrow_1) := by decide +kernel
  obtain ⟨t1, e1, h1⟩ := va_Tof (A := fun q : Nat => s.heap.size ≤ q) (ty := .int) (tm := .static "RowFirst" "ABOVE" "[I") (N := 7) (f := fun j => vI (jabove j)) (by decide) (hs _ a1) (va_eqt (hs _ n1)) (fun j hj => va_eqt (hs _ (k1 j hj))) hA
  have k2 : ∀ j, j < 21 → Cond.eq (.elem (.static "RowFirst$Actor" "BODIES" "[I") (.int (Int32.ofNat j))) (.int (Int32.ofInt (jbodies j))) ∈ flatC (Jvm.Cond.and given_1 narrow_1) := by decide +kernel
  have a2 : Cond.arrayOf (.static "RowFirst$Actor" "BODIES" "[I") .int ∈ flatC (Jvm.Cond.and given_1 narrow_1) := by decide +kernel
  have n2 : Cond.eq (.length (.static "RowFirst$Actor" "BODIES" "[I")) (.int (Int32.ofNat 21)) ∈ flatC (Jvm.Cond.and given_1 narrow_1) := by decide +kernel
  obtain ⟨t2, e2, h2⟩ := va_Tof (A := fun q : Nat => s.heap.size ≤ q) (ty := .int) (tm := .static "RowFirst$Actor" "BODIES" "[I") (N := 21) (f := fun j => vI (jbodies j)) (by decide) (hs _ a2) (va_eqt (hs _ n2)) (fun j hj => va_eqt (hs _ (k2 j hj))) hA
  have x1 : ∀ i, i < 6 → Cond.exactly (.string "RowFirst$Reader" (([48, 69, 74, 79, 92, 98] : List Nat).getD i 0)) "java/lang/String" ∈ flatC (Jvm.Cond.and given_1 narrow_1) := by decide +kernel
  have x2 : ∀ i, i < 6 → Cond.eq (.field (.string "RowFirst$Reader" (([48, 69, 74, 79, 92, 98] : List Nat).getD i 0)) "java/lang/String" "coder" "B") (.int 0) ∈ flatC (Jvm.Cond.and given_1 narrow_1) := by decide +kernel
  have x3 : ∀ i, i < 6 → Cond.arrayOf (.field (.string "RowFirst$Reader" (([48, 69, 74, 79, 92, 98] : List Nat).getD i 0)) "java/lang/String" "value" "[B") .byte ∈ flatC (Jvm.Cond.and given_1 narrow_1) := by decide +kernel
  have x4 : ∀ i, i < 6 → Cond.eq (.length (.field (.string "RowFirst$Reader" (([48, 69, 74, 79, 92, 98] : List Nat).getD i 0)) "java/lang/String" "value" "[B")) (.int (Int32.ofNat ((jtxt.map List.length).getD i 0))) ∈ flatC (Jvm.Cond.and given_1 narrow_1) := by decide +kernel
  have x5 : ∀ i, i < 6 → ∀ j, j < (jtxt.map List.length).getD i 0 → Cond.eq (.elem (.field (.string "RowFirst$Reader" (([48, 69, 74, 79, 92, 98] : List Nat).getD i 0)) "java/lang/String" "value" "[B") (.int (Int32.ofNat j))) (.int (((jtxt.map (fun x => x.map Int32.ofInt)).getD i []).getD j 0)) ∈ flatC (Jvm.Cond.and given_1 narrow_1) := by decide +kernel
  have x6 : ∀ i, i < 6 → ∀ j, j < 6 → i ≠ j → (Cond.not (Cond.eq (.string "RowFirst$Reader" (([48, 69, 74, 79, 92, 98] : List Nat).getD i 0)) (.string "RowFirst$Reader" (([48, 69, 74, 79, 92, 98] : List Nat).getD j 0))) ∈ flatC (Jvm.Cond.and given_1 narrow_1) ∨ Cond.not (Cond.eq (.string "RowFirst$Reader" (([48, 69, 74, 79, 92, 98] : List Nat).getD j 0)) (.string "RowFirst$Reader" (([48, 69, 74, 79, 92, 98] : List Nat).getD i 0))) ∈ flatC (Jvm.Cond.and given_1 narrow_1)) := by decide +kernel
  obtain ⟨adK, adV, hSt, hK⟩ := vk_Sof (N := 6) (tm := fun i => .string "RowFirst$Reader" (([48, 69, 74, 79, 92, 98] : List Nat).getD i 0)) (len := jtxt.map List.length) (byt := jtxt.map (fun x => x.map Int32.ofInt)) (A := fun q : Nat => s.heap.size ≤ q) (by decide) (fun i hi => hs _ (x1 i hi)) (fun i hi => hs _ (x2 i hi)) (fun i hi => hs _ (x3 i hi)) (fun i hi => hs _ (x4 i hi)) (fun i hi j hj => hs _ (x5 i hi j hj)) (fun i j hi hj hn => (x6 i hi j hj hn).imp (fun h => hs _ h) (fun h => hs _ h)) hA
  have y0 : Cond.eq (.string "RowFirst$Reader" 48) (.string "RowFirstModel" 109) ∈ flatC (Jvm.Cond.and given_1 narrow_1) := by decide +kernel
  have y1 : Cond.eq (.string "RowFirst$Reader" 69) (.string "RowFirstModel" 111) ∈ flatC (Jvm.Cond.and given_1 narrow_1) := by decide +kernel
  have y2 : Cond.eq (.string "RowFirst$Reader" 74) (.string "RowFirstModel" 117) ∈ flatC (Jvm.Cond.and given_1 narrow_1) := by decide +kernel
  have y3 : Cond.eq (.string "RowFirst$Reader" 79) (.string "RowFirstModel" 119) ∈ flatC (Jvm.Cond.and given_1 narrow_1) := by decide +kernel
  have y4 : Cond.eq (.string "RowFirst$Reader" 92) (.string "RowFirstModel" 91) ∈ flatC (Jvm.Cond.and given_1 narrow_1) := by decide +kernel
  have y5 : Cond.eq (.string "RowFirst$Reader" 98) (.string "RowFirstModel" 97) ∈ flatC (Jvm.Cond.and given_1 narrow_1) := by decide +kernel
  have hR : ∀ q ∈ jstrs, vk_R q.1 q.2.1 q.2.2.1 (adK q.2.2.2) s := (List.forall_mem_cons.mpr ⟨vk_R.of (hts (.stringRef "RowFirst$Reader" 48 "heavy ") (by decide +kernel)) (hK 0 (by decide)), (List.forall_mem_cons.mpr ⟨vk_R.of (hts (.stringRef "RowFirst$Reader" 69 "signs ") (by decide +kernel)) (hK 1 (by decide)), (List.forall_mem_cons.mpr ⟨vk_R.of (hts (.stringRef "RowFirst$Reader" 74 "fee ") (by decide +kernel)) (hK 2 (by decide)), (List.forall_mem_cons.mpr ⟨vk_R.of (hts (.stringRef "RowFirst$Reader" 79 "prize ") (by decide +kernel)) (hK 3 (by decide)), (List.forall_mem_cons.mpr ⟨vk_R.of (hts (.stringRef "RowFirst$Reader" 92 "sgd") (by decide +kernel)) (hK 4 (by decide)), (List.forall_mem_cons.mpr ⟨vk_R.of (hts (.stringRef "RowFirst$Reader" 98 "<=>") (by decide +kernel)) (hK 5 (by decide)), (List.forall_mem_cons.mpr ⟨vk_R.of (hts (.stringRef "RowFirstModel" 109 "heavy ") (by decide +kernel)) (va_eqR (hs _ y0) (hK 0 (by decide))), (List.forall_mem_cons.mpr ⟨vk_R.of (hts (.stringRef "RowFirstModel" 111 "signs ") (by decide +kernel)) (va_eqR (hs _ y1) (hK 1 (by decide))), (List.forall_mem_cons.mpr ⟨vk_R.of (hts (.stringRef "RowFirstModel" 117 "fee ") (by decide +kernel)) (va_eqR (hs _ y2) (hK 2 (by decide))), (List.forall_mem_cons.mpr ⟨vk_R.of (hts (.stringRef "RowFirstModel" 119 "prize ") (by decide +kernel)) (va_eqR (hs _ y3) (hK 3 (by decide))), (List.forall_mem_cons.mpr ⟨vk_R.of (hts (.stringRef "RowFirstModel" 91 "sgd") (by decide +kernel)) (va_eqR (hs _ y4) (hK 4 (by decide))), (List.forall_mem_cons.mpr ⟨vk_R.of (hts (.stringRef "RowFirstModel" 97 "<=>") (by decide +kernel)) (va_eqR (hs _ y5) (hK 5 (by decide))), (fun _ h => absurd h List.not_mem_nil)⟩)⟩)⟩)⟩)⟩)⟩)⟩)⟩)⟩)⟩)⟩)⟩)
  have hN : ∀ q ∈ jnests, va_Nw (.methodLinkNest q.1 q.2.1 q.2.2.1 q.2.2.2) s := (List.forall_mem_cons.mpr ⟨va_Nw.of rfl (hts (.methodLinkNest RX0 51 yX9_above RX9) (by decide +kernel)), (List.forall_mem_cons.mpr ⟨va_Nw.of rfl (hts (.methodLinkNest RX1 34 yX9_compare RX9) (by decide +kernel)), (fun _ h => absurd h List.not_mem_nil)⟩)⟩)
  exact ⟨t1, t2, adK, adV, va_Zref (hts _ (by decide +kernel)) (hts _ (by decide +kernel)) e1 hA, h1, va_Zref (hts _ (by decide +kernel)) (hts _ (by decide +kernel)) e2 hA, h2, hSt, hR, hN, va_Zof (hts _ (by decide +kernel)) (hts _ (by decide +kernel)) (va_eqi (hs _ (by decide +kernel))) hA, va_Zqof (hts _ (by decide +kernel)) (hts _ (by decide +kernel)) (hs _ (by decide +kernel)) hA⟩
theorem lw_class {s : State} {b : Nat} (hts : ∀ w ∈ lw_tbl, w.before #[Value.ref b] s = true) : ∃ (D : va_G) (c4 : ClassId × ClassId × ClassId × ClassId), jK0 D c4 s := by
  obtain ⟨c0, i0, k0⟩ := u_known (C := RX0) (T := TX0) (N := 5) (n := 5) hts (fun w h => wsL_law_in w (inlX0 w h)) (hts (.instantiable RX0 5) (wsL_law_in _ kA_2_19))
  obtain ⟨c1, i1, k1⟩ := u_known (C := RX1) (T := TX1) (N := 5) (n := 5) hts (fun w h => wsL_law_in w (inlX1 w h)) (hts (.instantiable RX1 5) (wsL_law_in _ kA_2_11))
  obtain ⟨c2, i2, k2⟩ := u_known (C := RX2) (T := TX2) (N := 4) (n := 4) hts (fun w h => wsL_law_in w (inlX2 w h)) (hts (.instantiable RX2 4) (wsL_law_in _ kA_2_7))
  obtain ⟨c3, i3, k3⟩ := u_known (C := RX3) (T := TX3) (N := 2) (n := 2) hts (fun w h => wsL_law_in w (inlX3 w h)) (hts (.instantiable RX3 2) (wsL_law_in _ kA_3_7))
  obtain ⟨c4, i4, k4⟩ := u_known (C := RX4) (T := TX4) (N := 9) (n := 9) hts (fun w h => wsL_law_in w (inlX4 w h)) (hts (.instantiable RX4 9) (wsL_law_in _ kA_2_15))
  obtain ⟨c5, i5, k5⟩ := u_known (C := RX5) (T := TX5) (N := 5) (n := 5) hts (fun w h => wsL_law_in w (inlX5 w h)) (hts (.instantiable RX5 5) (wsL_law_in _ kA_1_23))
  obtain ⟨c6, i6, k6⟩ := u_known (C := RX6) (T := TX6) (N := 3) (n := 3) hts (fun w h => wsL_law_in w (inlX6 w h)) (hts (.instantiable RX6 3) (wsL_law_in _ kA_2_3))
  obtain ⟨c7, i7, k7⟩ := u_known (C := RX7) (T := TX7) (N := 6) (n := 6) hts (fun w h => wsL_law_in w (inlX7 w h)) (hts (.instantiable RX7 6) (wsL_law_in _ kA_1_19))
  obtain ⟨c8, i8, k8⟩ := u_known (C := RX8) (T := TX8) (N := 13) (n := 13) hts (fun w h => wsL_law_in w (inlX8 w h)) (hts (.instantiable RX8 13) (wsL_law_in _ kA_1_13))
  obtain ⟨c9, i9, k9⟩ := u_known (C := RX9) (T := TX9) (N := 10) (n := 10) hts (fun w h => wsL_law_in w (inlX9 w h)) (hts (.instantiable RX9 10) (wsL_law_in _ kA_1_1))
  obtain ⟨c10, i10, k10⟩ := u_known (C := RX10) (T := TX10) (N := 23) (n := 23) hts (fun w h => wsL_law_in w (inlX10 w h)) (hts (.instantiable RX10 23) (wsL_law_in _ kA_1_4))
  obtain ⟨dI, kAI, cpI, fI, gI, hI⟩ := Cond.arrayClass_spec (hts (.arrayClass .int) (wsL_law_in _ kA_3_2))
  obtain ⟨dJ, kAJ, cpJ, fJ, gJ, hJ⟩ := Cond.arrayClass_spec (hts (.arrayClass .long) (wsL_law_in _ kA_3_20))
  obtain ⟨dZ, kAZ, cpZ, fZ, gZ, hZ⟩ := Cond.arrayClass_spec (hts (.arrayClass .boolean) (wsL_law_in _ kA_6_2))
  have hao : (Cond.arrayOver (.object "RowFirst$Line")).before #[Value.ref b] s = true := hts _ (by decide +kernel)
  obtain ⟨cpO, dO, kAO, e1, e2, e3, e4, e5⟩ := Cond.arrayOver_spec hao
  refine ⟨(fun k => ([c0, c1, c2, c3, c4, c5, c6, c7, c8, c9, c10] : List ClassId).getD k 0, fun k => ([i0, i1, i2, i3, i4, i5, i6, i7, i8, i9, i10] : List (Nat → Nat)).getD k i0), (dI, dJ, dZ, dO), ⟨fun k q hq => ?_, fun k q hq => ?_⟩, va_AO.of hao, ?_⟩
  · match k, hq with
    | 0, hq => cases hq; exact k0
    | 1, hq => cases hq; exact k1
    | 2, hq => cases hq; exact k2
    | 3, hq => cases hq; exact k3
    | 4, hq => cases hq; exact k4
    | 5, hq => cases hq; exact k5
    | 6, hq => cases hq; exact k6
    | 7, hq => cases hq; exact k7
    | 8, hq => cases hq; exact k8
    | 9, hq => cases hq; exact k9
    | 10, hq => cases hq; exact k10
    | k + 11, hq => simp [jcl] at hq
  · match k, hq with
    | 0, hq => cases hq; exact ⟨fun n z => ⟨fun k h => (by cases h), kAI, gI, cpI, hI⟩, fI⟩
    | 1, hq => cases hq; exact ⟨fun n z => ⟨fun k h => (by cases h), kAJ, gJ, cpJ, hJ⟩, fJ⟩
    | 2, hq => cases hq; exact ⟨fun n z => ⟨fun k h => (by cases h), kAZ, gZ, cpZ, hZ⟩, fZ⟩
    | 3, hq => cases hq; exact ⟨fun n z => ⟨fun k h => (by cases h), kAO, e3, cpO, e4⟩, kAO, cpO, e3, e4, e1, e5⟩
    | k + 4, hq => simp [jt4] at hq
  · exact (List.forall_mem_cons.mpr ⟨va_Nw.of rfl (hts (.methodLinkNest RX9 34 yX5_init RX9) (by decide +kernel)), (List.forall_mem_cons.mpr ⟨va_Nw.of rfl (hts (.methodLinkNest RX9 48 yX2_init RX9) (by decide +kernel)), (List.forall_mem_cons.mpr ⟨va_Nw.of rfl (hts (.methodLinkNest RX1 9 yX3_init RX9) (by decide +kernel)), (List.forall_mem_cons.mpr ⟨va_Nw.of rfl (hts (.methodLinkNest RX8 24 yX3_init RX9) (by decide +kernel)), (fun _ h => absurd h List.not_mem_nil)⟩)⟩)⟩)⟩)
def jM0 : jM := fun a b => if a = 3 ∧ b = 0 then 2 else if a = 3 ∧ b = 1 then 1 else if a = 3 ∧ b = 2 then 10 else if a = 24 ∧ b = 0 then 2 else if a = 24 ∧ b = 1 then 1 else if a = 24 ∧ b = 2 then 10 else if a = 43 ∧ b = 0 then 2 else if a = 43 ∧ b = 1 then 1 else if a = 43 ∧ b = 2 then 10 else if a = 46 ∧ b = 0 then (-1) else if a = 46 ∧ b = 4 then (-1) else if a = 53 ∧ b = 4 then 58 else if a = 53 ∧ b = 5 then 59 else if a = 53 ∧ b = 8 then (-1) else if a = 62 ∧ b = 15 then 68 else if a = 62 ∧ b = 16 then 69 else if a = 63 ∧ b = 6 then (-1) else 0
def jad0 (q1 q3 : Nat) (u2 u4 : Nat → Nat) (k : Nat) : Nat := ([q1, (u2 0), (u2 1), (u2 4), (u2 2), (u2 3), (u2 5), (u2 6), (u2 7), (u2 8), (u2 9), (u2 10), (u2 11), (u2 12), (u2 13), (u2 14), (u2 15), (u2 16), (u2 17), (u2 18), (u2 19), (u2 20), (u2 21), (u2 22), (u2 25), (u2 23), (u2 24), (u2 26), (u2 27), (u2 28), (u2 29), (u2 30), (u2 31), (u2 32), (u2 33), (u2 34), (u2 35), (u2 36), (u2 37), (u2 38), (u2 39), (u2 40), (u2 41), (u2 44), (u2 42), (u2 43), (u2 45), (u2 46), (u2 47), (u2 48), (u2 49), (u2 50), (u2 51), (u2 52), (u2 53), (u2 54), (u2 55), (u2 56), (u2 57), (u2 58), (u2 59), (u2 60), q3, (u4 0), (u4 1), (u4 2), (u4 3), (u4 4), (u4 5), (u4 6), (u4 7), (u4 8)] : List Nat).getD k 0
def jpos0 : List Nat := [0, 1, 2, 5, 3, 4, 6, 7, 8, 9, 10, 11, 12, 13, 14, 15, 16, 17, 18, 19, 20, 21, 22, 23, 26, 24, 25, 27, 28, 29, 30, 31, 32, 33, 34, 35, 36, 37, 38, 39, 40, 41, 42, 45, 43, 44, 46, 47, 48, 49, 50, 51, 52, 53, 54, 55, 56, 57, 58, 59, 60, 61, 62, 63, 64, 65, 66, 67, 68, 69, 70, 71]
set_option maxHeartbeats 8000000 in
set_option maxRecDepth 100000 in
theorem j_enc0 {D : va_G} {c4 : ClassId × ClassId × ClassId × ClassId} {t1 t2 : Nat} {adK adV : Nat → Nat} {q1 q3 : Nat} {u2 u4 : Nat → Nat} {H : Heap} (hP : va_P D jcl [(q1, .inr (9, [.ref (u2 0), .ref (u2 21), .int (Int32.ofInt 0), .ref (u2 44), .ref (u2 45), .ref (u2 46), .ref (u2 48), .ref (u2 49), .ref (u2 52), .ref (u2 59)])), ((u2 0), .inr (8, [.ref (u2 1), .int 0, .ref (u2 4), .int 0, .int 0, .ref (u2 5), .ref (u2 6), .int 0, .ref (u2 13), .ref (u2 14), .ref (u2 15), .int 0, .ref (u2 20)])), ((u2 1), .inl (c4.1, 100, .inl (fun _ => 0))), ((u2 2), .inl (c4.1, 10, .inl (fun _ => 0))), ((u2 3), .inl (c4.2.1, 10, .inr (.inl (fun _ => 0)))), ((u2 4), .inr (7, [.int (Int32.ofInt 2), .int (Int32.ofInt 1), .int (Int32.ofInt 10), .int (Int32.ofInt 0), .ref (u2 2), .ref (u2 3)])), ((u2 5), .inr (3, [.int 0, .long 0])), ((u2 6), .inl (c4.2.2.2, 6, .inr (.inr (.inr (.inr (va_up (va_up (va_up (va_up (va_up (va_up (fun _ => none) 0 (some (u2 7))) 1 (some (u2 8))) 2 (some (u2 9))) 3 (some (u2 10))) 4 (some (u2 11))) 5 (some (u2 12)))))))), ((u2 7), .inr (3, [.int 0, .long 0])), ((u2 8), .inr (3, [.int 0, .long 0])), ((u2 9), .inr (3, [.int 0, .long 0])), ((u2 10), .inr (3, [.int 0, .long 0])), ((u2 11), .inr (3, [.int 0, .long 0])), ((u2 12), .inr (3, [.int 0, .long 0])), ((u2 13), .inl (c4.1, 4, .inl (fun _ => 0))), ((u2 14), .inl (c4.1, 4, .inl (fun _ => 0))), ((u2 15), .inl (c4.2.2.2, 4, .inr (.inr (.inr (.inr (va_up (va_up (va_up (va_up (fun _ => none) 0 (some (u2 16))) 1 (some (u2 17))) 2 (some (u2 18))) 3 (some (u2 19)))))))), ((u2 16), .inr (3, [.int 0, .long 0])), ((u2 17), .inr (3, [.int 0, .long 0])), ((u2 18), .inr (3, [.int 0, .long 0])), ((u2 19), .inr (3, [.int 0, .long 0])), ((u2 20), .inr (3, [.int 0, .long 0])), ((u2 21), .inr (8, [.ref (u2 22), .int 0, .ref (u2 25), .int 0, .int 0, .ref (u2 26), .ref (u2 27), .int 0, .ref (u2 34), .ref (u2 35), .ref (u2 36), .int 0, .ref (u2 41)])), ((u2 22), .inl (c4.1, 100, .inl (fun _ => 0))), ((u2 23), .inl (c4.1, 10, .inl (fun _ => 0))), ((u2 24), .inl (c4.2.1, 10, .inr (.inl (fun _ => 0)))), ((u2 25), .inr (7, [.int (Int32.ofInt 2), .int (Int32.ofInt 1), .int (Int32.ofInt 10), .int (Int32.ofInt 0), .ref (u2 23), .ref (u2 24)])), ((u2 26), .inr (3, [.int 0, .long 0])), ((u2 27), .inl (c4.2.2.2, 6, .inr (.inr (.inr (.inr (va_up (va_up (va_up (va_up (va_up (va_up (fun _ => none) 0 (some (u2 28))) 1 (some (u2 29))) 2 (some (u2 30))) 3 (some (u2 31))) 4 (some (u2 32))) 5 (some (u2 33)))))))), ((u2 28), .inr (3, [.int 0, .long 0])), ((u2 29), .inr (3, [.int 0, .long 0])), ((u2 30), .inr (3, [.int 0, .long 0])), ((u2 31), .inr (3, [.int 0, .long 0])), ((u2 32), .inr (3, [.int 0, .long 0])), ((u2 33), .inr (3, [.int 0, .long 0])), ((u2 34), .inl (c4.1, 4, .inl (fun _ => 0))), ((u2 35), .inl (c4.1, 4, .inl (fun _ => 0))), ((u2 36), .inl (c4.2.2.2, 4, .inr (.inr (.inr (.inr (va_up (va_up (va_up (va_up (fun _ => none) 0 (some (u2 37))) 1 (some (u2 38))) 2 (some (u2 39))) 3 (some (u2 40)))))))), ((u2 37), .inr (3, [.int 0, .long 0])), ((u2 38), .inr (3, [.int 0, .long 0])), ((u2 39), .inr (3, [.int 0, .long 0])), ((u2 40), .inr (3, [.int 0, .long 0])), ((u2 41), .inr (3, [.int 0, .long 0])), ((u2 42), .inl (c4.1, 10, .inl (fun _ => 0))), ((u2 43), .inl (c4.2.1, 10, .inr (.inl (fun _ => 0)))), ((u2 44), .inr (7, [.int (Int32.ofInt 2), .int (Int32.ofInt 1), .int (Int32.ofInt 10), .int (Int32.ofInt 0), .ref (u2 42), .ref (u2 43)])), ((u2 45), .inr (5, [.null, .int 0, .int 0, .int 0, .null])), ((u2 46), .inr (6, [.int 0, .int 0, .ref (u2 47)])), ((u2 47), .inl (c4.1, 3, .inl (fun _ => 0))), ((u2 48), .inr (2, [.long 0, .long 0, .long 0, .long 0])), ((u2 49), .inr (1, [.ref (u2 50), .ref (u2 51), .int 0, .long 0, .long 0])), ((u2 50), .inr (3, [.int 0, .long 0])), ((u2 51), .inr (3, [.int 0, .long 0])), ((u2 52), .inr (4, [.ref (u2 53), .ref (u2 54), .ref (u2 55), .ref (u2 56), .ref (u2 57), .ref (u2 58), .int 0, .int 0, .null])), ((u2 53), .inl (c4.1, 111, .inl (fun _ => 0))), ((u2 54), .inl (c4.1, 37, .inl (fun _ => 0))), ((u2 55), .inl (c4.1, 37, .inl (fun _ => 0))), ((u2 56), .inl (c4.1, 6, .inl (fun _ => 0))), ((u2 57), .inl (c4.2.1, 37, .inr (.inl (fun _ => 0)))), ((u2 58), .inl (c4.2.1, 37, .inr (.inl (fun _ => 0)))), ((u2 59), .inr (0, [.ref (u2 60), .int 0, .int 0, .int 0, .int 0])), ((u2 60), .inl (c4.1, 20, .inl (fun _ => 0))), (q3, .inr (10, [.int 0, .ref (u4 0), .ref (u4 1), .int 0, .int 0, .int 0, .int 0, .int 0, .int 0, .ref (u4 2), .ref (u4 3), .ref (u4 4), .int 0, .long 0, .long 0, .ref (u4 5), .ref (u4 6), .ref (u4 7), .ref (u4 8), .int 0, .int 0, .int 0, .int 0])), ((u4 0), .inl (c4.1, 952, .inl (upd (fun _ => 0) 6 (Int32.ofInt (-1))))), ((u4 1), .inl (c4.1, 952, .inl (fun _ => 0))), ((u4 2), .inl (c4.1, 3, .inl (fun _ => 0))), ((u4 3), .inl (c4.2.2.1, 64, .inl (fun _ => 0))), ((u4 4), .inl (c4.1, 3, .inl (fun _ => 0))), ((u4 5), .inl (c4.2.1, 486, .inr (.inl (fun _ => 0)))), ((u4 6), .inl (c4.2.1, 486, .inr (.inl (fun _ => 0)))), ((u4 7), .inl (c4.1, 1458, .inl (fun _ => 0))), ((u4 8), .inl (c4.1, 20, .inl (fun _ => 0)))] H) : va_P D jcl (jenc ((D, c4, jad0 q1 q3 u2 u4, (t1, t2), adK, adV) : jG) jM0) H := by
  have key : ∀ k : Nat, k < 72 → va_at D jcl (jad ((D, c4, jad0 q1 q3 u2 u4, (t1, t2), adK, adV) : jG) (k : Int), jcell ((D, c4, jad0 q1 q3 u2 u4, (t1, t2), adK, adV) : jG) jM0 (k : Int)) H := by
    intro k hk
    match k, hk with
    | 0, _ => exact hP 0 _ rfl
    | 1, _ => exact hP 1 _ rfl
    | 2, _ => exact hP 2 _ rfl
    | 3, _ => exact hP 5 _ rfl
    | 4, _ => exact hP 3 _ rfl
    | 5, _ => exact hP 4 _ rfl
    | 6, _ => exact hP 6 _ rfl
    | 7, _ =>
      have h0 := hP 7 _ rfl
      show H[_]? = some (vp_cell _ _)
      refine Eq.trans h0 (congrArg some (jarr_o (f := va_up (va_up (va_up (va_up (va_up (va_up (fun _ => none) 0 (some (u2 7))) 1 (some (u2 8))) 2 (some (u2 9))) 3 (some (u2 10))) 4 (some (u2 11))) 5 (some (u2 12))) (fun j hj => ?_)))
      match j, hj with
      | 0, _ => rfl
      | 1, _ => rfl
      | 2, _ => rfl
      | 3, _ => rfl
      | 4, _ => rfl
      | 5, _ => rfl
    | 8, _ => exact hP 8 _ rfl
    | 9, _ => exact hP 9 _ rfl
    | 10, _ => exact hP 10 _ rfl
    | 11, _ => exact hP 11 _ rfl
    | 12, _ => exact hP 12 _ rfl
    | 13, _ => exact hP 13 _ rfl
    | 14, _ => exact hP 14 _ rfl
    | 15, _ => exact hP 15 _ rfl
    | 16, _ =>
      have h0 := hP 16 _ rfl
      show H[_]? = some (vp_cell _ _)
      refine Eq.trans h0 (congrArg some (jarr_o (f := va_up (va_up (va_up (va_up (fun _ => none) 0 (some (u2 16))) 1 (some (u2 17))) 2 (some (u2 18))) 3 (some (u2 19))) (fun j hj => ?_)))
      match j, hj with
      | 0, _ => rfl
      | 1, _ => rfl
      | 2, _ => rfl
      | 3, _ => rfl
    | 17, _ => exact hP 17 _ rfl
    | 18, _ => exact hP 18 _ rfl
    | 19, _ => exact hP 19 _ rfl
    | 20, _ => exact hP 20 _ rfl
    | 21, _ => exact hP 21 _ rfl
    | 22, _ => exact hP 22 _ rfl
    | 23, _ => exact hP 23 _ rfl
    | 24, _ => exact hP 26 _ rfl
    | 25, _ => exact hP 24 _ rfl
    | 26, _ => exact hP 25 _ rfl
    | 27, _ => exact hP 27 _ rfl
    | 28, _ =>
      have h0 := hP 28 _ rfl
      show H[_]? = some (vp_cell _ _)
      refine Eq.trans h0 (congrArg some (jarr_o (f := va_up (va_up (va_up (va_up (va_up (va_up (fun _ => none) 0 (some (u2 28))) 1 (some (u2 29))) 2 (some (u2 30))) 3 (some (u2 31))) 4 (some (u2 32))) 5 (some (u2 33))) (fun j hj => ?_)))
      match j, hj with
      | 0, _ => rfl
      | 1, _ => rfl
      | 2, _ => rfl
      | 3, _ => rfl
      | 4, _ => rfl
      | 5, _ => rfl
    | 29, _ => exact hP 29 _ rfl
    | 30, _ => exact hP 30 _ rfl
    | 31, _ => exact hP 31 _ rfl
    | 32, _ => exact hP 32 _ rfl
    | 33, _ => exact hP 33 _ rfl
    | 34, _ => exact hP 34 _ rfl
    | 35, _ => exact hP 35 _ rfl
    | 36, _ => exact hP 36 _ rfl
    | 37, _ =>
      have h0 := hP 37 _ rfl
      show H[_]? = some (vp_cell _ _)
      refine Eq.trans h0 (congrArg some (jarr_o (f := va_up (va_up (va_up (va_up (fun _ => none) 0 (some (u2 37))) 1 (some (u2 38))) 2 (some (u2 39))) 3 (some (u2 40))) (fun j hj => ?_)))
      match j, hj with
      | 0, _ => rfl
      | 1, _ => rfl
      | 2, _ => rfl
      | 3, _ => rfl
    | 38, _ => exact hP 38 _ rfl
    | 39, _ => exact hP 39 _ rfl
    | 40, _ => exact hP 40 _ rfl
    | 41, _ => exact hP 41 _ rfl
    | 42, _ => exact hP 42 _ rfl
    | 43, _ => exact hP 45 _ rfl
    | 44, _ => exact hP 43 _ rfl
    | 45, _ => exact hP 44 _ rfl
    | 46, _ => exact hP 46 _ rfl
    | 47, _ => exact hP 47 _ rfl
    | 48, _ => exact hP 48 _ rfl
    | 49, _ => exact hP 49 _ rfl
    | 50, _ => exact hP 50 _ rfl
    | 51, _ => exact hP 51 _ rfl
    | 52, _ => exact hP 52 _ rfl
    | 53, _ => exact hP 53 _ rfl
    | 54, _ => exact hP 54 _ rfl
    | 55, _ => exact hP 55 _ rfl
    | 56, _ => exact hP 56 _ rfl
    | 57, _ => exact hP 57 _ rfl
    | 58, _ => exact hP 58 _ rfl
    | 59, _ => exact hP 59 _ rfl
    | 60, _ => exact hP 60 _ rfl
    | 61, _ => exact hP 61 _ rfl
    | 62, _ => exact hP 62 _ rfl
    | 63, _ =>
      have h0 := hP 63 _ rfl
      show H[_]? = some (vp_cell _ _)
      refine Eq.trans h0 (congrArg some (jarr_i (f := upd (fun _ => 0) 6 (Int32.ofInt (-1))) (fun j => ?_)))
      show (if j = 6 then Int32.ofInt (-1) else 0) = Int32.ofInt (jM0 63 (j : Int))
      unfold jM0
      by_cases hj : j = 6
      · subst hj; rfl
      · rw [if_neg hj]; simp; split <;> first | rfl | (exfalso; omega)
    | 64, _ => exact hP 64 _ rfl
    | 65, _ => exact hP 65 _ rfl
    | 66, _ => exact hP 66 _ rfl
    | 67, _ => exact hP 67 _ rfl
    | 68, _ => exact hP 68 _ rfl
    | 69, _ => exact hP 69 _ rfl
    | 70, _ => exact hP 70 _ rfl
    | 71, _ => exact hP 71 _ rfl
    | k + 72, hk => exact absurd hk (by omega)
  intro k q hk
  unfold jenc at hk
  rw [List.getElem?_map] at hk
  rcases Nat.lt_or_ge k 72 with h | h
  · rw [List.getElem?_range h] at hk
    cases hk
    exact key k h
  · rw [List.getElem?_eq_none (by simpa using h)] at hk
    cases hk
set_option maxHeartbeats 8000000 in
set_option maxRecDepth 100000 in
theorem j_dis0 {A : Nat → Prop} {D : va_G} {c4 : ClassId × ClassId × ClassId × ClassId} {t1 t2 : Nat} {adK adV : Nat → Nat} {q1 q3 : Nat} {u2 u4 : Nat → Nat} (hD : va_D A [(q1, .inr (9, [.ref (u2 0), .ref (u2 21), .int (Int32.ofInt 0), .ref (u2 44), .ref (u2 45), .ref (u2 46), .ref (u2 48), .ref (u2 49), .ref (u2 52), .ref (u2 59)])), ((u2 0), .inr (8, [.ref (u2 1), .int 0, .ref (u2 4), .int 0, .int 0, .ref (u2 5), .ref (u2 6), .int 0, .ref (u2 13), .ref (u2 14), .ref (u2 15), .int 0, .ref (u2 20)])), ((u2 1), .inl (c4.1, 100, .inl (fun _ => 0))), ((u2 2), .inl (c4.1, 10, .inl (fun _ => 0))), ((u2 3), .inl (c4.2.1, 10, .inr (.inl (fun _ => 0)))), ((u2 4), .inr (7, [.int (Int32.ofInt 2), .int (Int32.ofInt 1), .int (Int32.ofInt 10), .int (Int32.ofInt 0), .ref (u2 2), .ref (u2 3)])), ((u2 5), .inr (3, [.int 0, .long 0])), ((u2 6), .inl (c4.2.2.2, 6, .inr (.inr (.inr (.inr (va_up (va_up (va_up (va_up (va_up (va_up (fun _ => none) 0 (some (u2 7))) 1 (some (u2 8))) 2 (some (u2 9))) 3 (some (u2 10))) 4 (some (u2 11))) 5 (some (u2 12)))))))), ((u2 7), .inr (3, [.int 0, .long 0])), ((u2 8), .inr (3, [.int 0, .long 0])), ((u2 9), .inr (3, [.int 0, .long 0])), ((u2 10), .inr (3, [.int 0, .long 0])), ((u2 11), .inr (3, [.int 0, .long 0])), ((u2 12), .inr (3, [.int 0, .long 0])), ((u2 13), .inl (c4.1, 4, .inl (fun _ => 0))), ((u2 14), .inl (c4.1, 4, .inl (fun _ => 0))), ((u2 15), .inl (c4.2.2.2, 4, .inr (.inr (.inr (.inr (va_up (va_up (va_up (va_up (fun _ => none) 0 (some (u2 16))) 1 (some (u2 17))) 2 (some (u2 18))) 3 (some (u2 19)))))))), ((u2 16), .inr (3, [.int 0, .long 0])), ((u2 17), .inr (3, [.int 0, .long 0])), ((u2 18), .inr (3, [.int 0, .long 0])), ((u2 19), .inr (3, [.int 0, .long 0])), ((u2 20), .inr (3, [.int 0, .long 0])), ((u2 21), .inr (8, [.ref (u2 22), .int 0, .ref (u2 25), .int 0, .int 0, .ref (u2 26), .ref (u2 27), .int 0, .ref (u2 34), .ref (u2 35), .ref (u2 36), .int 0, .ref (u2 41)])), ((u2 22), .inl (c4.1, 100, .inl (fun _ => 0))), ((u2 23), .inl (c4.1, 10, .inl (fun _ => 0))), ((u2 24), .inl (c4.2.1, 10, .inr (.inl (fun _ => 0)))), ((u2 25), .inr (7, [.int (Int32.ofInt 2), .int (Int32.ofInt 1), .int (Int32.ofInt 10), .int (Int32.ofInt 0), .ref (u2 23), .ref (u2 24)])), ((u2 26), .inr (3, [.int 0, .long 0])), ((u2 27), .inl (c4.2.2.2, 6, .inr (.inr (.inr (.inr (va_up (va_up (va_up (va_up (va_up (va_up (fun _ => none) 0 (some (u2 28))) 1 (some (u2 29))) 2 (some (u2 30))) 3 (some (u2 31))) 4 (some (u2 32))) 5 (some (u2 33)))))))), ((u2 28), .inr (3, [.int 0, .long 0])), ((u2 29), .inr (3, [.int 0, .long 0])), ((u2 30), .inr (3, [.int 0, .long 0])), ((u2 31), .inr (3, [.int 0, .long 0])), ((u2 32), .inr (3, [.int 0, .long 0])), ((u2 33), .inr (3, [.int 0, .long 0])), ((u2 34), .inl (c4.1, 4, .inl (fun _ => 0))), ((u2 35), .inl (c4.1, 4, .inl (fun _ => 0))), ((u2 36), .inl (c4.2.2.2, 4, .inr (.inr (.inr (.inr (va_up (va_up (va_up (va_up (fun _ => none) 0 (some (u2 37))) 1 (some (u2 38))) 2 (some (u2 39))) 3 (some (u2 40)))))))), ((u2 37), .inr (3, [.int 0, .long 0])), ((u2 38), .inr (3, [.int 0, .long 0])), ((u2 39), .inr (3, [.int 0, .long 0])), ((u2 40), .inr (3, [.int 0, .long 0])), ((u2 41), .inr (3, [.int 0, .long 0])), ((u2 42), .inl (c4.1, 10, .inl (fun _ => 0))), ((u2 43), .inl (c4.2.1, 10, .inr (.inl (fun _ => 0)))), ((u2 44), .inr (7, [.int (Int32.ofInt 2), .int (Int32.ofInt 1), .int (Int32.ofInt 10), .int (Int32.ofInt 0), .ref (u2 42), .ref (u2 43)])), ((u2 45), .inr (5, [.null, .int 0, .int 0, .int 0, .null])), ((u2 46), .inr (6, [.int 0, .int 0, .ref (u2 47)])), ((u2 47), .inl (c4.1, 3, .inl (fun _ => 0))), ((u2 48), .inr (2, [.long 0, .long 0, .long 0, .long 0])), ((u2 49), .inr (1, [.ref (u2 50), .ref (u2 51), .int 0, .long 0, .long 0])), ((u2 50), .inr (3, [.int 0, .long 0])), ((u2 51), .inr (3, [.int 0, .long 0])), ((u2 52), .inr (4, [.ref (u2 53), .ref (u2 54), .ref (u2 55), .ref (u2 56), .ref (u2 57), .ref (u2 58), .int 0, .int 0, .null])), ((u2 53), .inl (c4.1, 111, .inl (fun _ => 0))), ((u2 54), .inl (c4.1, 37, .inl (fun _ => 0))), ((u2 55), .inl (c4.1, 37, .inl (fun _ => 0))), ((u2 56), .inl (c4.1, 6, .inl (fun _ => 0))), ((u2 57), .inl (c4.2.1, 37, .inr (.inl (fun _ => 0)))), ((u2 58), .inl (c4.2.1, 37, .inr (.inl (fun _ => 0)))), ((u2 59), .inr (0, [.ref (u2 60), .int 0, .int 0, .int 0, .int 0])), ((u2 60), .inl (c4.1, 20, .inl (fun _ => 0))), (q3, .inr (10, [.int 0, .ref (u4 0), .ref (u4 1), .int 0, .int 0, .int 0, .int 0, .int 0, .int 0, .ref (u4 2), .ref (u4 3), .ref (u4 4), .int 0, .long 0, .long 0, .ref (u4 5), .ref (u4 6), .ref (u4 7), .ref (u4 8), .int 0, .int 0, .int 0, .int 0])), ((u4 0), .inl (c4.1, 952, .inl (upd (fun _ => 0) 6 (Int32.ofInt (-1))))), ((u4 1), .inl (c4.1, 952, .inl (fun _ => 0))), ((u4 2), .inl (c4.1, 3, .inl (fun _ => 0))), ((u4 3), .inl (c4.2.2.1, 64, .inl (fun _ => 0))), ((u4 4), .inl (c4.1, 3, .inl (fun _ => 0))), ((u4 5), .inl (c4.2.1, 486, .inr (.inl (fun _ => 0)))), ((u4 6), .inl (c4.2.1, 486, .inr (.inl (fun _ => 0)))), ((u4 7), .inl (c4.1, 1458, .inl (fun _ => 0))), ((u4 8), .inl (c4.1, 20, .inl (fun _ => 0)))]) : jDis ((D, c4, jad0 q1 q3 u2 u4, (t1, t2), adK, adV) : jG) ∧ ∀ k : Nat, k < 72 → A (jad ((D, c4, jad0 q1 q3 u2 u4, (t1, t2), adK, adV) : jG) (k : Int)) := by
  have key : ∀ k : Nat, k < 72 → ∃ e : va_E, ([(q1, .inr (9, [.ref (u2 0), .ref (u2 21), .int (Int32.ofInt 0), .ref (u2 44), .ref (u2 45), .ref (u2 46), .ref (u2 48), .ref (u2 49), .ref (u2 52), .ref (u2 59)])), ((u2 0), .inr (8, [.ref (u2 1), .int 0, .ref (u2 4), .int 0, .int 0, .ref (u2 5), .ref (u2 6), .int 0, .ref (u2 13), .ref (u2 14), .ref (u2 15), .int 0, .ref (u2 20)])), ((u2 1), .inl (c4.1, 100, .inl (fun _ => 0))), ((u2 2), .inl (c4.1, 10, .inl (fun _ => 0))), ((u2 3), .inl (c4.2.1, 10, .inr (.inl (fun _ => 0)))), ((u2 4), .inr (7, [.int (Int32.ofInt 2), .int (Int32.ofInt 1), .int (Int32.ofInt 10), .int (Int32.ofInt 0), .ref (u2 2), .ref (u2 3)])), ((u2 5), .inr (3, [.int 0, .long 0])), ((u2 6), .inl (c4.2.2.2, 6, .inr (.inr (.inr (.inr (va_up (va_up (va_up (va_up (va_up (va_up (fun _ => none) 0 (some (u2 7))) 1 (some (u2 8))) 2 (some (u2 9))) 3 (some (u2 10))) 4 (some (u2 11))) 5 (some (u2 12)))))))), ((u2 7), .inr (3, [.int 0, .long 0])), ((u2 8), .inr (3, [.int 0, .long 0])), ((u2 9), .inr (3, [.int 0, .long 0])), ((u2 10), .inr (3, [.int 0, .long 0])), ((u2 11), .inr (3, [.int 0, .long 0])), ((u2 12), .inr (3, [.int 0, .long 0])), ((u2 13), .inl (c4.1, 4, .inl (fun _ => 0))), ((u2 14), .inl (c4.1, 4, .inl (fun _ => 0))), ((u2 15), .inl (c4.2.2.2, 4, .inr (.inr (.inr (.inr (va_up (va_up (va_up (va_up (fun _ => none) 0 (some (u2 16))) 1 (some (u2 17))) 2 (some (u2 18))) 3 (some (u2 19)))))))), ((u2 16), .inr (3, [.int 0, .long 0])), ((u2 17), .inr (3, [.int 0, .long 0])), ((u2 18), .inr (3, [.int 0, .long 0])), ((u2 19), .inr (3, [.int 0, .long 0])), ((u2 20), .inr (3, [.int 0, .long 0])), ((u2 21), .inr (8, [.ref (u2 22), .int 0, .ref (u2 25), .int 0, .int 0, .ref (u2 26), .ref (u2 27), .int 0, .ref (u2 34), .ref (u2 35), .ref (u2 36), .int 0, .ref (u2 41)])), ((u2 22), .inl (c4.1, 100, .inl (fun _ => 0))), ((u2 23), .inl (c4.1, 10, .inl (fun _ => 0))), ((u2 24), .inl (c4.2.1, 10, .inr (.inl (fun _ => 0)))), ((u2 25), .inr (7, [.int (Int32.ofInt 2), .int (Int32.ofInt 1), .int (Int32.ofInt 10), .int (Int32.ofInt 0), .ref (u2 23), .ref (u2 24)])), ((u2 26), .inr (3, [.int 0, .long 0])), ((u2 27), .inl (c4.2.2.2, 6, .inr (.inr (.inr (.inr (va_up (va_up (va_up (va_up (va_up (va_up (fun _ => none) 0 (some (u2 28))) 1 (some (u2 29))) 2 (some (u2 30))) 3 (some (u2 31))) 4 (some (u2 32))) 5 (some (u2 33)))))))), ((u2 28), .inr (3, [.int 0, .long 0])), ((u2 29), .inr (3, [.int 0, .long 0])), ((u2 30), .inr (3, [.int 0, .long 0])), ((u2 31), .inr (3, [.int 0, .long 0])), ((u2 32), .inr (3, [.int 0, .long 0])), ((u2 33), .inr (3, [.int 0, .long 0])), ((u2 34), .inl (c4.1, 4, .inl (fun _ => 0))), ((u2 35), .inl (c4.1, 4, .inl (fun _ => 0))), ((u2 36), .inl (c4.2.2.2, 4, .inr (.inr (.inr (.inr (va_up (va_up (va_up (va_up (fun _ => none) 0 (some (u2 37))) 1 (some (u2 38))) 2 (some (u2 39))) 3 (some (u2 40)))))))), ((u2 37), .inr (3, [.int 0, .long 0])), ((u2 38), .inr (3, [.int 0, .long 0])), ((u2 39), .inr (3, [.int 0, .long 0])), ((u2 40), .inr (3, [.int 0, .long 0])), ((u2 41), .inr (3, [.int 0, .long 0])), ((u2 42), .inl (c4.1, 10, .inl (fun _ => 0))), ((u2 43), .inl (c4.2.1, 10, .inr (.inl (fun _ => 0)))), ((u2 44), .inr (7, [.int (Int32.ofInt 2), .int (Int32.ofInt 1), .int (Int32.ofInt 10), .int (Int32.ofInt 0), .ref (u2 42), .ref (u2 43)])), ((u2 45), .inr (5, [.null, .int 0, .int 0, .int 0, .null])), ((u2 46), .inr (6, [.int 0, .int 0, .ref (u2 47)])), ((u2 47), .inl (c4.1, 3, .inl (fun _ => 0))), ((u2 48), .inr (2, [.long 0, .long 0, .long 0, .long 0])), ((u2 49), .inr (1, [.ref (u2 50), .ref (u2 51), .int 0, .long 0, .long 0])), ((u2 50), .inr (3, [.int 0, .long 0])), ((u2 51), .inr (3, [.int 0, .long 0])), ((u2 52), .inr (4, [.ref (u2 53), .ref (u2 54), .ref (u2 55), .ref (u2 56), .ref (u2 57), .ref (u2 58), .int 0, .int 0, .null])), ((u2 53), .inl (c4.1, 111, .inl (fun _ => 0))), ((u2 54), .inl (c4.1, 37, .inl (fun _ => 0))), ((u2 55), .inl (c4.1, 37, .inl (fun _ => 0))), ((u2 56), .inl (c4.1, 6, .inl (fun _ => 0))), ((u2 57), .inl (c4.2.1, 37, .inr (.inl (fun _ => 0)))), ((u2 58), .inl (c4.2.1, 37, .inr (.inl (fun _ => 0)))), ((u2 59), .inr (0, [.ref (u2 60), .int 0, .int 0, .int 0, .int 0])), ((u2 60), .inl (c4.1, 20, .inl (fun _ => 0))), (q3, .inr (10, [.int 0, .ref (u4 0), .ref (u4 1), .int 0, .int 0, .int 0, .int 0, .int 0, .int 0, .ref (u4 2), .ref (u4 3), .ref (u4 4), .int 0, .long 0, .long 0, .ref (u4 5), .ref (u4 6), .ref (u4 7), .ref (u4 8), .int 0, .int 0, .int 0, .int 0])), ((u4 0), .inl (c4.1, 952, .inl (upd (fun _ => 0) 6 (Int32.ofInt (-1))))), ((u4 1), .inl (c4.1, 952, .inl (fun _ => 0))), ((u4 2), .inl (c4.1, 3, .inl (fun _ => 0))), ((u4 3), .inl (c4.2.2.1, 64, .inl (fun _ => 0))), ((u4 4), .inl (c4.1, 3, .inl (fun _ => 0))), ((u4 5), .inl (c4.2.1, 486, .inr (.inl (fun _ => 0)))), ((u4 6), .inl (c4.2.1, 486, .inr (.inl (fun _ => 0)))), ((u4 7), .inl (c4.1, 1458, .inl (fun _ => 0))), ((u4 8), .inl (c4.1, 20, .inl (fun _ => 0)))] : va_W)[jpos0.getD k 0]? = some (jad ((D, c4, jad0 q1 q3 u2 u4, (t1, t2), adK, adV) : jG) (k : Int), e) := by
    intro k hk
    match k, hk with
    | 0, _ => exact ⟨_, rfl⟩
    | 1, _ => exact ⟨_, rfl⟩
    | 2, _ => exact ⟨_, rfl⟩
    | 3, _ => exact ⟨_, rfl⟩
    | 4, _ => exact ⟨_, rfl⟩
    | 5, _ => exact ⟨_, rfl⟩
    | 6, _ => exact ⟨_, rfl⟩
    | 7, _ => exact ⟨_, rfl⟩
    | 8, _ => exact ⟨_, rfl⟩
    | 9, _ => exact ⟨_, rfl⟩
    | 10, _ => exact ⟨_, rfl⟩
    | 11, _ => exact ⟨_, rfl⟩
    | 12, _ => exact ⟨_, rfl⟩
    | 13, _ => exact ⟨_, rfl⟩
    | 14, _ => exact ⟨_, rfl⟩
    | 15, _ => exact ⟨_, rfl⟩
    | 16, _ => exact ⟨_, rfl⟩
    | 17, _ => exact ⟨_, rfl⟩
    | 18, _ => exact ⟨_, rfl⟩
    | 19, _ => exact ⟨_, rfl⟩
    | 20, _ => exact ⟨_, rfl⟩
    | 21, _ => exact ⟨_, rfl⟩
    | 22, _ => exact ⟨_, rfl⟩
    | 23, _ => exact ⟨_, rfl⟩
    | 24, _ => exact ⟨_, rfl⟩
    | 25, _ => exact ⟨_, rfl⟩
    | 26, _ => exact ⟨_, rfl⟩
    | 27, _ => exact ⟨_, rfl⟩
    | 28, _ => exact ⟨_, rfl⟩
    | 29, _ => exact ⟨_, rfl⟩
    | 30, _ => exact ⟨_, rfl⟩
    | 31, _ => exact ⟨_, rfl⟩
    | 32, _ => exact ⟨_, rfl⟩
    | 33, _ => exact ⟨_, rfl⟩
    | 34, _ => exact ⟨_, rfl⟩
    | 35, _ => exact ⟨_, rfl⟩
    | 36, _ => exact ⟨_, rfl⟩
    | 37, _ => exact ⟨_, rfl⟩
    | 38, _ => exact ⟨_, rfl⟩
    | 39, _ => exact ⟨_, rfl⟩
    | 40, _ => exact ⟨_, rfl⟩
    | 41, _ => exact ⟨_, rfl⟩
    | 42, _ => exact ⟨_, rfl⟩
    | 43, _ => exact ⟨_, rfl⟩
    | 44, _ => exact ⟨_, rfl⟩
    | 45, _ => exact ⟨_, rfl⟩
    | 46, _ => exact ⟨_, rfl⟩
    | 47, _ => exact ⟨_, rfl⟩
    | 48, _ => exact ⟨_, rfl⟩
    | 49, _ => exact ⟨_, rfl⟩
    | 50, _ => exact ⟨_, rfl⟩
    | 51, _ => exact ⟨_, rfl⟩
    | 52, _ => exact ⟨_, rfl⟩
    | 53, _ => exact ⟨_, rfl⟩
    | 54, _ => exact ⟨_, rfl⟩
    | 55, _ => exact ⟨_, rfl⟩
    | 56, _ => exact ⟨_, rfl⟩
    | 57, _ => exact ⟨_, rfl⟩
    | 58, _ => exact ⟨_, rfl⟩
    | 59, _ => exact ⟨_, rfl⟩
    | 60, _ => exact ⟨_, rfl⟩
    | 61, _ => exact ⟨_, rfl⟩
    | 62, _ => exact ⟨_, rfl⟩
    | 63, _ => exact ⟨_, rfl⟩
    | 64, _ => exact ⟨_, rfl⟩
    | 65, _ => exact ⟨_, rfl⟩
    | 66, _ => exact ⟨_, rfl⟩
    | 67, _ => exact ⟨_, rfl⟩
    | 68, _ => exact ⟨_, rfl⟩
    | 69, _ => exact ⟨_, rfl⟩
    | 70, _ => exact ⟨_, rfl⟩
    | 71, _ => exact ⟨_, rfl⟩
    | k + 72, hk => exact absurd hk (by omega)
  have inj : ∀ i : Nat, i < 72 → ∀ j : Nat, j < 72 → jpos0.getD i 0 = jpos0.getD j 0 → i = j := by decide +kernel
  refine ⟨fun i j hi hj h => ?_, fun k hk => ?_⟩
  · obtain ⟨e1, h1⟩ := key i hi
    obtain ⟨e2, h2⟩ := key j hj
    exact inj i hi j hj (hD.1 _ _ _ _ h1 h2 h)
  · obtain ⟨e1, h1⟩ := key k hk
    exact hD.2 _ _ h1
