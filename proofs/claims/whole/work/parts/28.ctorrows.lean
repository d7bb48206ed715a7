theorem kM_1_9 : Cond.methodLink RX9 3 objectInit ∈ wsL_law := cin1 _ (List.mem_of_getElem? (i := 9) rfl)
theorem kI_1_10 : Cond.instanceMethod objectInit ∈ wsL_law := cin1 _ (List.mem_of_getElem? (i := 10) rfl)
theorem kC_1_11 : Cond.code objectInit ⟨#[0xb1]⟩ 1 none ∈ wsL_law := cin1 _ (List.mem_of_getElem? (i := 11) rfl)
theorem kA_1_12 : Cond.classLink RX9 9 RX8 ∈ wsL_law := cin1 _ (List.mem_of_getElem? (i := 12) rfl)
theorem kA_1_13 : Cond.instantiable RX8 13 ∈ wsL_law := cin1 _ (List.mem_of_getElem? (i := 13) rfl)
theorem kA_1_18 : Cond.classLink RX9 25 RX7 ∈ wsL_law := cin1 _ (List.mem_of_getElem? (i := 18) rfl)
theorem kA_1_19 : Cond.instantiable RX7 6 ∈ wsL_law := cin1 _ (List.mem_of_getElem? (i := 19) rfl)
theorem kA_1_22 : Cond.classLink RX9 32 RX5 ∈ wsL_law := cin1 _ (List.mem_of_getElem? (i := 22) rfl)
theorem kA_1_23 : Cond.instantiable RX5 5 ∈ wsL_law := cin1 _ (List.mem_of_getElem? (i := 23) rfl)
theorem kA_2_2 : Cond.classLink RX9 39 RX6 ∈ wsL_law := cin2 _ (List.mem_of_getElem? (i := 2) rfl)
theorem kA_2_3 : Cond.instantiable RX6 3 ∈ wsL_law := cin2 _ (List.mem_of_getElem? (i := 3) rfl)
theorem kA_2_6 : Cond.classLink RX9 46 RX2 ∈ wsL_law := cin2 _ (List.mem_of_getElem? (i := 6) rfl)
theorem kA_2_7 : Cond.instantiable RX2 4 ∈ wsL_law := cin2 _ (List.mem_of_getElem? (i := 7) rfl)
theorem kA_2_10 : Cond.classLink RX9 53 RX1 ∈ wsL_law := cin2 _ (List.mem_of_getElem? (i := 10) rfl)
theorem kA_2_11 : Cond.instantiable RX1 5 ∈ wsL_law := cin2 _ (List.mem_of_getElem? (i := 11) rfl)
theorem kA_2_14 : Cond.classLink RX9 60 RX4 ∈ wsL_law := cin2 _ (List.mem_of_getElem? (i := 14) rfl)
theorem kA_2_15 : Cond.instantiable RX4 9 ∈ wsL_law := cin2 _ (List.mem_of_getElem? (i := 15) rfl)
theorem kA_2_18 : Cond.classLink RX9 67 RX0 ∈ wsL_law := cin2 _ (List.mem_of_getElem? (i := 18) rfl)
theorem kA_2_19 : Cond.instantiable RX0 5 ∈ wsL_law := cin2 _ (List.mem_of_getElem? (i := 19) rfl)
theorem kM_2_22 : Cond.methodLink RX9 11 yX8_init ∈ wsL_law := cin2 _ (List.mem_of_getElem? (i := 22) rfl)
theorem kI_2_23 : Cond.instanceMethod yX8_init ∈ wsL_law := cin2 _ (List.mem_of_getElem? (i := 23) rfl)
theorem kC_3_0 : Cond.code yX8_init cX8_init 2 none ∈ wsL_law := cin3 _ (List.mem_of_getElem? (i := 0) rfl)
theorem kM_3_1 : Cond.methodLink RX8 3 objectInit ∈ wsL_law := cin3 _ (List.mem_of_getElem? (i := 1) rfl)
theorem kA_3_2 : Cond.arrayClass .int ∈ wsL_law := cin3 _ (List.mem_of_getElem? (i := 2) rfl)
theorem kA_3_4 : Cond.classLink RX8 15 RX7 ∈ wsL_law := cin3 _ (List.mem_of_getElem? (i := 4) rfl)
theorem kA_3_6 : Cond.classLink RX8 22 RX3 ∈ wsL_law := cin3 _ (List.mem_of_getElem? (i := 6) rfl)
theorem kA_3_7 : Cond.instantiable RX3 2 ∈ wsL_law := cin3 _ (List.mem_of_getElem? (i := 7) rfl)
theorem kM_3_15 : Cond.methodLink RX8 17 yX7_init ∈ wsL_law := cin3 _ (List.mem_of_getElem? (i := 15) rfl)
theorem kI_3_16 : Cond.instanceMethod yX7_init ∈ wsL_law := cin3 _ (List.mem_of_getElem? (i := 16) rfl)
theorem kC_3_17 : Cond.code yX7_init cX7_init 1 none ∈ wsL_law := cin3 _ (List.mem_of_getElem? (i := 17) rfl)
theorem kM_3_18 : Cond.methodLink RX7 3 objectInit ∈ wsL_law := cin3 _ (List.mem_of_getElem? (i := 18) rfl)
theorem kA_3_20 : Cond.arrayClass .long ∈ wsL_law := cin3 _ (List.mem_of_getElem? (i := 20) rfl)
theorem kM_3_22 : Cond.methodLink RX7 19 yX7_clear ∈ wsL_law := cin3 _ (List.mem_of_getElem? (i := 22) rfl)
theorem kI_4_6 : Cond.instanceMethod yX3_init ∈ wsL_law := cin4 _ (List.mem_of_getElem? (i := 6) rfl)
theorem kC_4_7 : Cond.code yX3_init cX3_init 1 none ∈ wsL_law := cin4 _ (List.mem_of_getElem? (i := 7) rfl)
theorem kM_4_8 : Cond.methodLink RX3 3 objectInit ∈ wsL_law := cin4 _ (List.mem_of_getElem? (i := 8) rfl)
theorem kM_4_9 : Cond.methodLink RX9 27 yX7_init ∈ wsL_law := cin4 _ (List.mem_of_getElem? (i := 9) rfl)
theorem kI_4_10 : Cond.instanceMethod yX5_init ∈ wsL_law := cin4 _ (List.mem_of_getElem? (i := 10) rfl)
theorem kC_4_11 : Cond.code yX5_init cX5_init 1 none ∈ wsL_law := cin4 _ (List.mem_of_getElem? (i := 11) rfl)
theorem kM_4_12 : Cond.methodLink RX5 3 objectInit ∈ wsL_law := cin4 _ (List.mem_of_getElem? (i := 12) rfl)
theorem kM_4_13 : Cond.methodLink RX9 41 yX6_init ∈ wsL_law := cin4 _ (List.mem_of_getElem? (i := 13) rfl)
theorem kI_4_14 : Cond.instanceMethod yX6_init ∈ wsL_law := cin4 _ (List.mem_of_getElem? (i := 14) rfl)
theorem kC_4_15 : Cond.code yX6_init cX6_init 1 none ∈ wsL_law := cin4 _ (List.mem_of_getElem? (i := 15) rfl)
theorem kM_4_16 : Cond.methodLink RX6 3 objectInit ∈ wsL_law := cin4 _ (List.mem_of_getElem? (i := 16) rfl)
theorem kI_4_18 : Cond.instanceMethod yX2_init ∈ wsL_law := cin4 _ (List.mem_of_getElem? (i := 18) rfl)
theorem kC_4_19 : Cond.code yX2_init cX2_init 1 none ∈ wsL_law := cin4 _ (List.mem_of_getElem? (i := 19) rfl)
theorem kM_4_20 : Cond.methodLink RX2 1 objectInit ∈ wsL_law := cin4 _ (List.mem_of_getElem? (i := 20) rfl)
theorem kM_4_21 : Cond.methodLink RX9 55 yX1_init ∈ wsL_law := cin4 _ (List.mem_of_getElem? (i := 21) rfl)
theorem kI_4_22 : Cond.instanceMethod yX1_init ∈ wsL_law := cin4 _ (List.mem_of_getElem? (i := 22) rfl)
theorem kC_4_23 : Cond.code yX1_init cX1_init 1 none ∈ wsL_law := cin4 _ (List.mem_of_getElem? (i := 23) rfl)
theorem kM_5_0 : Cond.methodLink RX1 1 objectInit ∈ wsL_law := cin5 _ (List.mem_of_getElem? (i := 0) rfl)
theorem kA_5_1 : Cond.classLink RX1 7 RX3 ∈ wsL_law := cin5 _ (List.mem_of_getElem? (i := 1) rfl)
theorem kM_5_4 : Cond.methodLink RX9 62 yX4_init ∈ wsL_law := cin5 _ (List.mem_of_getElem? (i := 4) rfl)
theorem kI_5_5 : Cond.instanceMethod yX4_init ∈ wsL_law := cin5 _ (List.mem_of_getElem? (i := 5) rfl)
theorem kC_5_6 : Cond.code yX4_init cX4_init 1 none ∈ wsL_law := cin5 _ (List.mem_of_getElem? (i := 6) rfl)
theorem kM_5_7 : Cond.methodLink RX4 3 objectInit ∈ wsL_law := cin5 _ (List.mem_of_getElem? (i := 7) rfl)
theorem kM_5_14 : Cond.methodLink RX9 69 yX0_init ∈ wsL_law := cin5 _ (List.mem_of_getElem? (i := 14) rfl)
theorem kI_5_15 : Cond.instanceMethod yX0_init ∈ wsL_law := cin5 _ (List.mem_of_getElem? (i := 15) rfl)
theorem kC_5_16 : Cond.code yX0_init cX0_init 1 none ∈ wsL_law := cin5 _ (List.mem_of_getElem? (i := 16) rfl)
theorem kM_5_17 : Cond.methodLink RX0 3 objectInit ∈ wsL_law := cin5 _ (List.mem_of_getElem? (i := 17) rfl)
theorem kM_5_22 : Cond.methodLink RX10 3 objectInit ∈ wsL_law := cin5 _ (List.mem_of_getElem? (i := 22) rfl)
theorem kA_6_2 : Cond.arrayClass .boolean ∈ wsL_law := cin6 _ (List.mem_of_getElem? (i := 2) rfl)
def jnest2 : List (String × Nat × MethodName × String) := [(RX9, 34, yX5_init, RX9), (RX9, 48, yX2_init, RX9), (RX1, 9, yX3_init, RX9), (RX8, 24, yX3_init, RX9)]
abbrev jt4 (c4 : ClassId × ClassId × ClassId × ClassId) : List (ClassId × FieldType) := [(c4.1, .int), (c4.2.1, .long), (c4.2.2.1, .boolean), (c4.2.2.2, .object "RowFirst$Line")]
def jK0 (D : va_G) (c4 : ClassId × ClassId × ClassId × ClassId) (U : State) : Prop := va_K D jcl (jt4 c4) U ∧ va_AO "RowFirst$Line" U ∧ ∀ q ∈ jnest2, va_Nw (.methodLinkNest q.1 q.2.1 q.2.2.1 q.2.2.2) U
theorem jK0.warm {D : va_G} {c4 : ClassId × ClassId × ClassId × ClassId} {s U : State} (hW : s.WarmedH U.vm) (h : jK0 D c4 s) : jK0 D c4 U := ⟨h.1.moved hW.alike, h.2.1.moved hW.alike, fun q hq => (h.2.2 q hq).warmM hW⟩
def jB0 (D : va_G) (c4 : ClassId × ClassId × ClassId × ClassId) (w : va_W) (sz : Nat) (U : State) : Prop := U.heap.size = sz ∧ va_P D jcl w U.heap ∧ jK0 D c4 U ∧ va_D (fun _ => True) w
theorem jB0.blind {D : va_G} {c4 : ClassId × ClassId × ClassId × ClassId} {w : va_W} {sz : Nat} (av : List Value) : FrameBlind (va_Pc av (jB0 D c4 w sz)) := by
  intro a U g mk ⟨h1, h2, h3, h4, h5⟩
  exact ⟨h1, h2, h3, h4.warm (U := U.calling g mk a) (State.WarmedH.refl U), h5⟩
def jW (D : va_G) (c4 : ClassId × ClassId × ClassId × ClassId) (A : Nat → Prop) (s : State) (ws : va_W) (H : Heap) (locs : List Loc) : Prop := va_P D jcl ws H ∧ va_D A ws ∧ va_S A s.heap H locs ∧ jK0 D c4 s ∧ ∀ q, s.heap.size ≤ q → A q
abbrev jQ0 (D : va_G) (w1 : (Nat → Nat) → va_W) (wc : va_W) (sz : Nat) : Array Value → State → Outcome → State → Prop := va_Qv (fun _ : Nat → Nat => True) (fun u t => va_P D jcl (w1 u) t.heap ∧ va_D (va_A wc sz) (w1 u)) (va_A wc sz)
section JC
variable {p : Program} {l : Launch} {e : Env} {R : Room} {s : State} {m : MethodId} {args : Array Value} {below : List Frame} {meth : Method} {c : Code} {H : Heap} {locs : List Loc} {cells slots : Nat} {Q : State → Prop}
variable {cc : ByteArray} {nL : Nat} {own : String} {w0 : Cond} {ret : Option FieldType} {pc : Nat} {ls : Array Slot} {rest : List Value} {D : va_G} {c4 : ClassId × ClassId × ClassId × ClassId} {A : Nat → Prop} {ws : va_W}

theorem jfm {α : Type} {ws wc : List α} {is : List Nat} (h : is.map (fun i => ws[i]?) = wc.map some) : is.filterMap (fun i => ws[i]?) = wc := by
  induction is generalizing wc with
  | nil => cases wc with
    | nil => rfl
    | cons a t => cases h
  | cons i t ih => cases wc with
    | nil => cases h
    | cons a u =>
      rw [List.map_cons, List.map_cons] at h
      injection h with h1 h2
      rw [List.filterMap_cons, h1, ih h2]
theorem jDone {A : Nat → Prop} {ws : va_W} {x : Nat × va_E} : va_D (fun _ => True) [x] := ⟨fun i j p q hi hj _ => by
  have a := (List.getElem?_eq_some_iff.mp hi).1
  have b := (List.getElem?_eq_some_iff.mp hj).1
  simp at a b; omega, fun _ _ _ => trivial⟩
theorem k_newa_I (C : jCx p s m args meth c cc nL own w0 ret) (hW : jW D c4 A s ws H locs) {n : Int32} {N : Nat} (hac : Cond.arrayClass (newarray.typeOf .int) ∈ wsL_law) (hn : ¬ n < 0) (hN : n.toNatClampNeg = N) (hb : N ≤ 60000000) (hcells : cells + 1 ≤ R.cells) (hslots : slots + N ≤ R.slots) (hdg : decode cc pc = .ok (.newarray .int, 2)) (kk : ∀ (q : Nat) (H1 : Heap), jW D c4 A s (ws ++ [(q, .inl (c4.1, N, .inl (fun _ => 0)))]) H1 locs → W p l e R s m args below meth c H1 locs (cells + 1) (slots + N) Q (F0 m (pc + 2) ls (.ref q :: rest))) : W p l e R s m args below meth c H locs cells slots Q (F0 m pc ls (.int n :: rest)) := by
  refine va_newa (atype := .int) (ty := .int) (a0 := (N, .inl (fun _ => 0))) (N' := N) C.1 C.2.1 (C.2.2.2.2.1 _ (jpcM hac)) rfl hW.2.2.2.1.1 hW.1 hW.2.1 hW.2.2.1 hW.2.2.2.2 (fun _ => rfl) hn hN (by show N * 4 ≤ 536870912; omega) hcells hslots hdg (fun q cA H1 hK1 hP hD hS => ?_)
  have e1 : va_RA s cA .int := (hK1.2 4 (cA, .int) rfl).2
  have e2 : va_RA s c4.1 .int := (hW.2.2.2.1.1.2 0 (c4.1, .int) rfl).2
  have e : cA = c4.1 := Option.some.inj ((show s.vm.findClass _ = some cA from e1).symm.trans e2)
  subst e
  exact kk q H1 ⟨hP, hD, hS, hW.2.2.2⟩
theorem k_newa_L (C : jCx p s m args meth c cc nL own w0 ret) (hW : jW D c4 A s ws H locs) {n : Int32} {N : Nat} (hac : Cond.arrayClass (newarray.typeOf .long) ∈ wsL_law) (hn : ¬ n < 0) (hN : n.toNatClampNeg = N) (hb : N ≤ 60000000) (hcells : cells + 1 ≤ R.cells) (hslots : slots + N ≤ R.slots) (hdg : decode cc pc = .ok (.newarray .long, 2)) (kk : ∀ (q : Nat) (H1 : Heap), jW D c4 A s (ws ++ [(q, .inl (c4.2.1, N, .inr (.inl (fun _ => 0))))]) H1 locs → W p l e R s m args below meth c H1 locs (cells + 1) (slots + N) Q (F0 m (pc + 2) ls (.ref q :: rest))) : W p l e R s m args below meth c H locs cells slots Q (F0 m pc ls (.int n :: rest)) := by
  refine va_newa (atype := .long) (ty := .long) (a0 := (N, .inr (.inl (fun _ => 0)))) (N' := N) C.1 C.2.1 (C.2.2.2.2.1 _ (jpcM hac)) rfl hW.2.2.2.1.1 hW.1 hW.2.1 hW.2.2.1 hW.2.2.2.2 (fun _ => rfl) hn hN (by show N * 8 ≤ 536870912; omega) hcells hslots hdg (fun q cA H1 hK1 hP hD hS => ?_)
  have e1 : va_RA s cA .long := (hK1.2 4 (cA, .long) rfl).2
  have e2 : va_RA s c4.2.1 .long := (hW.2.2.2.1.1.2 1 (c4.2.1, .long) rfl).2
  have e : cA = c4.2.1 := Option.some.inj ((show s.vm.findClass _ = some cA from e1).symm.trans e2)
  subst e
  exact kk q H1 ⟨hP, hD, hS, hW.2.2.2⟩
theorem k_newa_Z (C : jCx p s m args meth c cc nL own w0 ret) (hW : jW D c4 A s ws H locs) {n : Int32} {N : Nat} (hac : Cond.arrayClass (newarray.typeOf .boolean) ∈ wsL_law) (hn : ¬ n < 0) (hN : n.toNatClampNeg = N) (hb : N ≤ 60000000) (hcells : cells + 1 ≤ R.cells) (hslots : slots + N ≤ R.slots) (hdg : decode cc pc = .ok (.newarray .boolean, 2)) (kk : ∀ (q : Nat) (H1 : Heap), jW D c4 A s (ws ++ [(q, .inl (c4.2.2.1, N, .inl (fun _ => 0)))]) H1 locs → W p l e R s m args below meth c H1 locs (cells + 1) (slots + N) Q (F0 m (pc + 2) ls (.ref q :: rest))) : W p l e R s m args below meth c H locs cells slots Q (F0 m pc ls (.int n :: rest)) := by
  refine va_newa (atype := .boolean) (ty := .boolean) (a0 := (N, .inl (fun _ => 0))) (N' := N) C.1 C.2.1 (C.2.2.2.2.1 _ (jpcM hac)) rfl hW.2.2.2.1.1 hW.1 hW.2.1 hW.2.2.1 hW.2.2.2.2 (fun _ => rfl) hn hN (by show N * 1 ≤ 536870912; omega) hcells hslots hdg (fun q cA H1 hK1 hP hD hS => ?_)
  have e1 : va_RA s cA .boolean := (hK1.2 4 (cA, .boolean) rfl).2
  have e2 : va_RA s c4.2.2.1 .boolean := (hW.2.2.2.1.1.2 2 (c4.2.2.1, .boolean) rfl).2
  have e : cA = c4.2.2.1 := Option.some.inj ((show s.vm.findClass _ = some cA from e1).symm.trans e2)
  subst e
  exact kk q H1 ⟨hP, hD, hS, hW.2.2.2⟩
theorem k_newq (C : jCx p s m args meth c cc nL own w0 ret) (hW : jW D c4 A s ws H locs) {n : Int32} {N idx : Nat} (hcl : Cond.classLink own idx "RowFirst$Line" ∈ wsL_law) (hn : ¬ n < 0) (hN : n.toNatClampNeg = N) (hb : N ≤ 60000000) (hcells : cells + 1 ≤ R.cells) (hslots : slots + N ≤ R.slots) (hdg : decode cc pc = .ok (.anewarray idx, 3)) (kk : ∀ (q : Nat) (H1 : Heap), jW D c4 A s (ws ++ [(q, .inl (c4.2.2.2, N, .inr (.inr (.inr (.inr (fun _ => none))))))]) H1 locs → W p l e R s m args below meth c H1 locs (cells + 1) (slots + N) Q (F0 m (pc + 3) ls (.ref q :: rest))) : W p l e R s m args below meth c H locs cells slots Q (F0 m pc ls (.int n :: rest)) := by
  refine va_newq (C := "RowFirst$Line") (N' := N) C.1 C.2.1 C.2.2.2.1 (C.2.2.2.2.1 _ (jpcM hcl)) hW.2.2.2.1.2.1 hW.2.2.2.1.1 hW.1 hW.2.1 hW.2.2.1 hW.2.2.2.2 hn hN (by omega) hcells hslots hdg (fun q cA H1 hK1 hP hD hS => ?_)
  obtain ⟨_, _, _, _, _, e1⟩ := (hK1.2 4 (cA, .object "RowFirst$Line") rfl).2
  obtain ⟨_, _, _, _, _, e2⟩ := (hW.2.2.2.1.1.2 3 (c4.2.2.2, .object "RowFirst$Line") rfl).2
  have e : cA = c4.2.2.2 := Option.some.inj (e1.symm.trans e2)
  subst e
  exact kk q H1 ⟨hP, hD, hS, hW.2.2.2⟩
theorem k_new (C : jCx p s m args meth c cc nL own w0 ret) (hW : jW D c4 A s ws H locs) {ci N idx : Nat} {CN : String} {T : u_T} {ty : Nat → FieldType} {fs : List Value} (hin : ∀ w ∈ u_ws CN T N, w ∈ wsL_law) (hty : ∀ k, k < N → parseFieldDescriptor (T k).2.2.1 = some (ty k)) (hcl : Cond.classLink own idx CN ∈ wsL_law) (hinst : Cond.instantiable CN N ∈ wsL_law) (hini : Cond.initialized CN ∈ wsL_law) (hc : jcl[ci]? = some (CN, T, N)) (hfs : ∀ j, j < N → defaultValue (ty j) = vp_V fs j) (hcells : cells + 1 ≤ R.cells) (hslots : slots + N ≤ R.slots) (hdg : decode cc pc = .ok (.new idx, 3)) (kk : ∀ (q : Nat) (H1 : Heap), jW D c4 A s (ws ++ [(q, .inr (ci, fs))]) H1 locs → W p l e R s m args below meth c H1 locs (cells + 1) (slots + N) Q (F0 m (pc + 3) ls (.ref q :: rest))) : W p l e R s m args below meth c H locs cells slots Q (F0 m pc ls rest) := va_new C.1 C.2.1 C.2.2.2.2.1 (fun w h => jpcM (hin w h)) ty hty C.2.2.2.1 (C.2.2.2.2.1 _ (jpcM hcl)) (C.2.2.2.2.1 _ (jpcM hinst)) (C.2.2.2.2.1 _ (jpcM hini)) hW.2.2.2.1.1 hW.1 hW.2.1 hW.2.2.1 hW.2.2.2.2 hc hfs hcells hslots hdg (fun q H1 hP hD hS => kk q H1 ⟨hP, hD, hS, hW.2.2.2⟩)
theorem k_put (C : jCx p s m args meth c cc nL own w0 ret) (hW : jW D c4 A s ws H locs){ci k N idx : Nat} {CN : String} {T : u_T} {ty0 : Nat → FieldType} {a : Nat} {v : Value} {fs : List Value} {ws1 : va_W} (q0 : Nat) (he : ws[q0]? = some (a, .inr (ci, fs))) (hc : jcl[ci]? = some (CN, T, N)) (hin : ∀ w ∈ u_ws CN T N, w ∈ wsL_law) (hty : ∀ k, k < N → parseFieldDescriptor (T k).2.2.1 = some (ty0 k)) (hnm : ∀ a, a < N → ∀ b, b < N → a ≠ b → (T a).2.1 ≠ (T b).2.1) (hk : k < N) (hlink : Cond.fieldLink own idx CN (T k).2.1 (T k).2.2.1 ∈ wsL_law) (hT1 : (T k).1 = CN) (hfin : (T k).2.2.2 = false) (hn : narrow (ty0 k) v = v) (hfit : fits (ty0 k) v = true) (hl : k < fs.length) (hset : ws.set q0 (a, .inr (ci, fs.set k v)) = ws1) (hdg : decode cc pc = .ok (.putfield idx, 3)) (kk : ∀ (H1 : Heap) (locs1 : List Loc), jW D c4 A s ws1 H1 locs1 → W p l e R s m args below meth c H1 locs1 cells slots Q (F0 m (pc + 3) ls rest)) : W p l e R s m args below meth c H locs cells slots Q (F0 m pc ls (v :: .ref a :: rest)) := by
  subst hset
  exact va_put (ref := CN) C.1 C.2.1 C.2.2.2.2.1 (fun w h => jpcM (hin w h)) ty0 hty hnm C.2.2.2.1 hW.2.2.2.1.1 hW.1 hW.2.1 hW.2.2.1 q0 he hc k hk (C.2.2.2.2.1 _ (jpcM hlink)) (by rw [hT1]; exact fun _ h => h) hfin (hty k hk) hn hfit hl hdg (fun H1 locs1 hP hD hS => kk H1 locs1 ⟨hP, hD, hS, hW.2.2.2⟩)
theorem k_putF (C : jCx p s m args meth c cc nL own w0 ret) (hW : jW D c4 A s ws H locs){ci k N idx : Nat} {CN : String} {T : u_T} {ty0 : Nat → FieldType} {a : Nat} {v : Value} {fs : List Value} {ws1 : va_W} (q0 : Nat) (he : ws[q0]? = some (a, .inr (ci, fs))) (hc : jcl[ci]? = some (CN, T, N)) (hin : ∀ w ∈ u_ws CN T N, w ∈ wsL_law) (hty : ∀ k, k < N → parseFieldDescriptor (T k).2.2.1 = some (ty0 k)) (hnm : ∀ a, a < N → ∀ b, b < N → a ≠ b → (T a).2.1 ≠ (T b).2.1) (hk : k < N) (hlink : Cond.fieldLink own idx CN (T k).2.1 (T k).2.2.1 ∈ wsL_law) (hT1 : (T k).1 = CN) (hfin : (T k).2.2.2 = true) (hmn : meth.name = "<init>") (hCN : CN = own) (hn : narrow (ty0 k) v = v) (hfit : fits (ty0 k) v = true) (hl : k < fs.length) (hset : ws.set q0 (a, .inr (ci, fs.set k v)) = ws1) (hdg : decode cc pc = .ok (.putfield idx, 3)) (kk : ∀ (H1 : Heap) (locs1 : List Loc), jW D c4 A s ws1 H1 locs1 → W p l e R s m args below meth c H1 locs1 cells slots Q (F0 m (pc + 3) ls rest)) : W p l e R s m args below meth c H locs cells slots Q (F0 m pc ls (v :: .ref a :: rest)) := by
  subst hset
  exact va_putF (ref := CN) C.1 C.2.1 C.2.2.2.2.1 (fun w h => jpcM (hin w h)) ty0 hty hnm C.2.2.2.1 hW.2.2.2.1.1 hW.1 hW.2.1 hW.2.2.1 q0 he hc k hk (C.2.2.2.2.1 _ (jpcM hlink)) (by rw [hT1]; exact fun _ h => h) hfin hmn (hT1.trans hCN) (hty k hk) hn hfit hl hdg (fun H1 locs1 hP hD hS => kk H1 locs1 ⟨hP, hD, hS, hW.2.2.2⟩)
theorem k_get (C : jCx p s m args meth c cc nL own w0 ret) (hW : jW D c4 A s ws H locs) {ci k N idx : Nat} {CN : String} {T : u_T} {a : Nat} {v : Value} {fs : List Value} (q0 : Nat) (he : ws[q0]? = some (a, .inr (ci, fs))) (hc : jcl[ci]? = some (CN, T, N)) (hin : ∀ w ∈ u_ws CN T N, w ∈ wsL_law) (hk : k < N) (hlink : Cond.fieldLink own idx CN (T k).2.1 (T k).2.2.1 ∈ wsL_law) (hT1 : (T k).1 = CN) (hv : fs[k]? = some v) (hdg : decode cc pc = .ok (.getfield idx, 3)) (kk : W p l e R s m args below meth c H locs cells slots Q (F0 m (pc + 3) ls (v :: rest))) : W p l e R s m args below meth c H locs cells slots Q (F0 m pc ls (.ref a :: rest)) := va_get (ref := CN) C.1 C.2.1 C.2.2.2.2.1 (fun w h => jpcM (hin w h)) C.2.2.2.1 hW.2.2.2.1.1 hW.1 q0 he hc k hk (C.2.2.2.2.1 _ (jpcM hlink)) (by rw [hT1]; exact fun _ h => h) hv hdg kk
theorem k_aast (C : jCx p s m args meth c cc nL own w0 ret) (hW : jW D c4 A s ws H locs) {a v n : Nat} {vs : List Value} {f : Nat → Option Nat} {i : Int32} {ws1 : va_W} (q0 qk : Nat) (ha : ws[q0]? = some (a, .inl (c4.2.2.2, n, .inr (.inr (.inr (.inr f)))))) (hv : ws[qk]? = some (v, .inr (3, vs))) (hi : vp_in i n) (hset : ws.set q0 (a, .inl (c4.2.2.2, n, .inr (.inr (.inr (.inr (va_up f i.toNatClampNeg (some v))))))) = ws1) (hdg : decode cc pc = .ok (.aastore, 1)) (kk : ∀ (H1 : Heap) (locs1 : List Loc), jW D c4 A s ws1 H1 locs1 → W p l e R s m args below meth c H1 locs1 cells slots Q (F0 m (pc + 1) ls rest)) : W p l e R s m args below meth c H locs cells slots Q (F0 m pc ls (.ref v :: .int i :: .ref a :: rest)) := by
  subst hset
  exact va_astq C.1 C.2.1 hW.2.2.2.1.1 hW.1 hW.2.1 hW.2.2.1 q0 3 qk 3 (r := (RX3, TX3, 2)) ha rfl hv rfl hi hdg (fun H1 locs1 hP hD hS => kk H1 locs1 ⟨hP, hD, hS, hW.2.2.2⟩)
theorem k_iast (C : jCx p s m args meth c cc nL own w0 ret) (hW : jW D c4 A s ws H locs) {a n : Nat} {f : Nat → Int32} {i x : Int32} {ws1 : va_W} (q0 : Nat) (ha : ws[q0]? = some (a, .inl (c4.1, n, .inl f))) (hi : vp_in i n) (hset : ws.set q0 (a, .inl (c4.1, n, .inl (upd f i.toNatClampNeg x))) = ws1) (hdg : decode cc pc = .ok (.iastore, 1)) (kk : ∀ (H1 : Heap) (locs1 : List Loc), jW D c4 A s ws1 H1 locs1 → W p l e R s m args below meth c H1 locs1 cells slots Q (F0 m (pc + 1) ls rest)) : W p l e R s m args below meth c H locs cells slots Q (F0 m pc ls (.int x :: .int i :: .ref a :: rest)) := by
  subst hset
  exact va_iast C.1 C.2.1 hW.2.2.2.1.1 hW.1 hW.2.1 hW.2.2.1 q0 0 ha rfl hi hdg (fun H1 locs1 hP hD hS => kk H1 locs1 ⟨hP, hD, hS, hW.2.2.2⟩)
theorem k_cont {mc ms : Nat} {wc wr : va_W} {w1 : (Nat → Nat) → va_W} {st0 : List Value} {av : Array Value} (hr : va_Run p l e R s m args below meth c H locs cells slots mc ms (F0 m pc ls st0) rest (jQ0 D w1 wc H.size av) (va_A wc H.size)) (hW : jW D c4 A s ws H locs) (isC isR : List Nat) (hC : isC.map (fun i => ws[i]?) = wc.map some) (hR : isR.map (fun i => ws[i]?) = wr.map some) (hn : va_nd isR = true) (hdis : ∀ i ∈ isR, i ∉ isC)
    (kk : ∀ (u : Nat → Nat) (H1 : Heap) (locs1 : List Loc), jW D c4 A s (wr ++ w1 u) H1 locs1 → W p l e R s m args below meth c H1 locs1 (cells + mc) (slots + ms) Q (F0 m (pc + 3) ls rest)) : W p l e R s m args below meth c H locs cells slots Q (F0 m pc ls st0) := by
  have hF := va_free hW.2.1 hW.2.2.1 hW.2.2.2.2 isC hC
  refine va_callv hr hW.2.2.1 (fun q _ h => hF q h) hF (fun u t H1 locs1 ht hvm _ hB hz1 hk1 hS => ?_)
  obtain ⟨hP1, hD1⟩ := hB
  rw [ht] at hP1
  obtain ⟨hP, hD⟩ := va_join (wr := wr) (w1 := w1 u) hW.1 hW.2.1 isC isR hC hR hn hdis hk1 hF hP1 hD1
  exact kk u H1 locs1 ⟨hP, hD, hS, hW.2.2.2⟩
theorem k_callI (C : jCx p s m args meth c cc nL own w0 ret) (hW : jW D c4 A s ws H locs) {y : MethodName} {bytes : ByteArray} {maxL index mc ms : Nat} {rm : Room} {b : Nat} {wr : va_W} {e0 : va_E} {w1 : (Nat → Nat) → va_W} (hM : Met l y (Cond.code y bytes maxL none :: wsL_law) rm (va_Pc [.ref b] (jB0 D c4 [(b, e0)] H.size)) (jQ0 D w1 [(b, e0)] H.size) mc ms (va_A [(b, e0)] H.size)) (hcy : Cond.code y bytes maxL none ∈ wsL_law) (hny : Cond.initialized y.cls ∈ wsL_law) (hd : y.cls ≠ "java/lang/invoke/MethodHandle" ∧ y.cls ≠ "java/lang/invoke/VarHandle" ∧ (parseMethodDescriptor y.desc).map (fun d => d.parameters.length) = some 0) (hR : rm.frames + 1 ≤ R.frames ∧ 8 + (maxL + 11) + rm.locals ≤ R.locals) (hrc : rm.cells = mc) (hrs : rm.slots = ms) (hsz : ls.size = nL) (hWd : (rest.map fun v => v.category).sum ≤ 8) (hcs : cells + mc ≤ R.cells ∧ slots + ms ≤ R.slots) (isC isR : List Nat) (hC : isC.map (fun i => ws[i]?) = [(b, e0)].map some) (hRr : isR.map (fun i => ws[i]?) = wr.map some) (hn : va_nd isR = true) (hdis : ∀ i ∈ isR, i ∉ isC) (hnm : y.name = "<init>") (hli : Cond.methodLink own index y ∈ wsL_law) (hiy : Cond.instanceMethod y ∈ wsL_law) (hdg : decode cc pc = .ok (.invokespecial index, 3)) (kk : ∀ (u : Nat → Nat) (H1 : Heap) (locs1 : List Loc), jW D c4 A s (wr ++ w1 u) H1 locs1 → W p l e R s m args below meth c H1 locs1 (cells + mc) (slots + ms) Q (F0 m (pc + 3) ls rest)) : W p l e R s m args below meth c H locs cells slots Q (F0 m pc ls (.ref b :: rest)) := by
  have hG := jw_in (w0 := w0) hcy
  exact k_cont (va_runI (As := []) (rest := rest) (n := 0) ⟨C.1, C.2.1, C.2.2.1, C.2.2.2.1, C.2.2.2.2.1⟩ hM ⟨callB_of 0 C.2.2.2.2.1 hG rfl hrc hrs (C.2.2.2.2.1 _ (jpcM hny)) (C.2.2.2.2.1 _ (jpcM hli)) hd hR, hnm, C.2.2.2.2.1 _ (jpcM hiy)⟩ ⟨jB0.blind _, fun U hU hWm => ⟨rfl, by rw [hU], by rw [hU]; exact hW.1.sub isC (jfm hC), hW.2.2.2.1.warm hWm, jDone (A := A) (ws := ws)⟩⟩ rfl rfl hsz rfl (by simpa [F0, JFrame.monitorRoom] using hWd) hdg hcs) hW isC isR hC hRr hn hdis kk
theorem k_callIN (C : jCx p s m args meth c cc nL own w0 ret) (hW : jW D c4 A s ws H locs) {y : MethodName} {bytes : ByteArray} {maxL index mc ms : Nat} {rm : Room} {b : Nat} {wr : va_W} {e0 : va_E} {w1 : (Nat → Nat) → va_W} (hM : Met l y (Cond.code y bytes maxL none :: wsL_law) rm (va_Pc [.ref b] (jB0 D c4 [(b, e0)] H.size)) (jQ0 D w1 [(b, e0)] H.size) mc ms (va_A [(b, e0)] H.size)) (hcy : Cond.code y bytes maxL none ∈ wsL_law) (hny : Cond.initialized y.cls ∈ wsL_law) (hd : y.cls ≠ "java/lang/invoke/MethodHandle" ∧ y.cls ≠ "java/lang/invoke/VarHandle" ∧ (parseMethodDescriptor y.desc).map (fun d => d.parameters.length) = some 0) (hR : rm.frames + 1 ≤ R.frames ∧ 8 + (maxL + 11) + rm.locals ≤ R.locals) (hrc : rm.cells = mc) (hrs : rm.slots = ms) (hsz : ls.size = nL) (hWd : (rest.map fun v => v.category).sum ≤ 8) (hcs : cells + mc ≤ R.cells ∧ slots + ms ≤ R.slots) (isC isR : List Nat) (hC : isC.map (fun i => ws[i]?) = [(b, e0)].map some) (hRr : isR.map (fun i => ws[i]?) = wr.map some) (hn : va_nd isR = true) (hdis : ∀ i ∈ isR, i ∉ isC) {host : String} (hnm : y.name = "<init>") (hli : (own, index, y, host) ∈ jnest2) (hiy : Cond.instanceMethod y ∈ wsL_law) (hdg : decode cc pc = .ok (.invokespecial index, 3)) (kk : ∀ (u : Nat → Nat) (H1 : Heap) (locs1 : List Loc), jW D c4 A s (wr ++ w1 u) H1 locs1 → W p l e R s m args below meth c H1 locs1 (cells + mc) (slots + ms) Q (F0 m (pc + 3) ls rest)) : W p l e R s m args below meth c H locs cells slots Q (F0 m pc ls (.ref b :: rest)) := by
  have hG := jw_in (w0 := w0) hcy
  exact k_cont (va_runIN (As := []) (rest := rest) (n := 0) (host := host) ⟨C.1, C.2.1, C.2.2.1, C.2.2.2.1, C.2.2.2.2.1⟩ hM ⟨va_cnB 0 C.2.2.2.2.1 hG rfl hrc hrs (hW.2.2.2.1.2.2 _ hli) (C.2.2.2.2.1 _ (jpcM hny)) hd hR, hnm, C.2.2.2.2.1 _ (jpcM hiy)⟩ ⟨jB0.blind _, fun U hU hWm => ⟨rfl, by rw [hU], by rw [hU]; exact hW.1.sub isC (jfm hC), hW.2.2.2.1.warm hWm, jDone (A := A) (ws := ws)⟩⟩ rfl rfl hsz rfl (by simpa [F0, JFrame.monitorRoom] using hWd) hdg hcs) hW isC isR hC hRr hn hdis kk
theorem k_callV (C : jCx p s m args meth c cc nL own w0 ret) (hW : jW D c4 A s ws H locs) {y : MethodName} {bytes : ByteArray} {maxL index mc ms : Nat} {rm : Room} {b : Nat} {wr : va_W} {e0 : va_E} {w1 : (Nat → Nat) → va_W} (hM : Met l y (Cond.code y bytes maxL none :: wsL_law) rm (va_Pc [.ref b] (jB0 D c4 [(b, e0)] H.size)) (jQ0 D w1 [(b, e0)] H.size) mc ms (va_A [(b, e0)] H.size)) (hcy : Cond.code y bytes maxL none ∈ wsL_law) (hny : Cond.initialized y.cls ∈ wsL_law) (hd : y.cls ≠ "java/lang/invoke/MethodHandle" ∧ y.cls ≠ "java/lang/invoke/VarHandle" ∧ (parseMethodDescriptor y.desc).map (fun d => d.parameters.length) = some 0) (hR : rm.frames + 1 ≤ R.frames ∧ 8 + (maxL + 11) + rm.locals ≤ R.locals) (hrc : rm.cells = mc) (hrs : rm.slots = ms) (hsz : ls.size = nL) (hWd : (rest.map fun v => v.category).sum ≤ 8) (hcs : cells + mc ≤ R.cells ∧ slots + ms ≤ R.slots) (isC isR : List Nat) (hC : isC.map (fun i => ws[i]?) = [(b, e0)].map some) (hRr : isR.map (fun i => ws[i]?) = wr.map some) (hn : va_nd isR = true) (hdis : ∀ i ∈ isR, i ∉ isC) {ci N : Nat} {T : u_T} {fs : List Value} (q0 : Nat) (he : ws[q0]? = some (b, .inr (ci, fs))) (hc : jcl[ci]? = some (y.cls, T, N)) (hli : Cond.methodLink own index y ∈ wsL_law) (hiy : Cond.instanceMethod y ∈ wsL_law) (hsy : Cond.selects y.cls y y ∈ wsL_law) (hdg : decode cc pc = .ok (.invokevirtual index, 3)) (kk : ∀ (u : Nat → Nat) (H1 : Heap) (locs1 : List Loc), jW D c4 A s (wr ++ w1 u) H1 locs1 → W p l e R s m args below meth c H1 locs1 (cells + mc) (slots + ms) Q (F0 m (pc + 3) ls rest)) : W p l e R s m args below meth c H locs cells slots Q (F0 m pc ls (.ref b :: rest)) := by
  have hG := jw_in (w0 := w0) hcy
  have hrec : ∃ cellB : Cell, H[b]? = some cellB ∧ cellB.vm.isStatics = false ∧ s.vm.findClass y.cls = some cellB.cls := by
    obtain ⟨r, h1, cell, q1, q2, q3, q4⟩ := hW.1 q0 _ he
    have hr : r = (y.cls, T, N) := Option.some.inj (h1.symm.trans hc)
    subst hr
    exact ⟨cell, q1, by rw [q3]; rfl, by rw [q2]; exact (hW.2.2.2.1.1.1 ci _ hc).2.1⟩
  exact k_cont (va_runV (As := []) (rest := rest) (n := 0) ⟨C.1, C.2.1, C.2.2.1, C.2.2.2.1, C.2.2.2.2.1⟩ hM ⟨callB_of 0 C.2.2.2.2.1 hG rfl hrc hrs (C.2.2.2.2.1 _ (jpcM hny)) (C.2.2.2.2.1 _ (jpcM hli)) hd hR, C.2.2.2.2.1 _ (jpcM hiy), C.2.2.2.2.1 _ (jpcM hsy)⟩ ⟨jB0.blind _, hrec, fun U hU hWm => ⟨rfl, by rw [hU], by rw [hU]; exact hW.1.sub isC (jfm hC), hW.2.2.2.1.warm hWm, jDone (A := A) (ws := ws)⟩⟩ rfl rfl hsz rfl (by simpa [F0, JFrame.monitorRoom] using hWd) hdg hcs) hW isC isR hC hRr hn hdis kk
theorem k_obj (C : jCx p s m args meth c cc nL own w0 ret) {idx a : Nat} (hli : Cond.methodLink own idx objectInit ∈ wsL_law) (hii : Cond.instanceMethod objectInit ∈ wsL_law) (hco : Cond.code objectInit ⟨#[0xb1]⟩ 1 none ∈ wsL_law) (hsz : ls.size = nL) (hfr : 1 ≤ R.frames) (hlo : 20 ≤ R.locals) (hWd : (rest.map fun v => v.category).sum ≤ 8) (hdg : decode cc pc = .ok (.invokespecial idx, 3)) (kk : W p l e R s m args below meth c H locs cells slots Q (F0 m (pc + 3) ls rest)) : W p l e R s m args below meth c H locs cells slots Q (F0 m pc ls (.ref a :: rest)) := W.objInit C.1 C.2.1 C.2.2.2.1 (C.2.2.2.2.1 _ (jpcM hli)) (C.2.2.2.2.1 _ (jpcM hii)) (C.2.2.2.2.1 _ (jpcM hco)) rfl (by rw [C.2.2.1]; exact hsz) rfl hdg hfr (by simp [F0, JFrame.monitorRoom]; omega) kk
end JC
