/-! what holds in a method: the machine, its code, the words; and the world -/
def jCx (p : Program) (s : State) (m : MethodId) (args : Array Value) (meth : Method) (c : Code) (cc : ByteArray) (nL : Nat) (own : String) (w0 : Cond) (ret : Option FieldType) : Prop :=
  p.tables.exec = Jvm.exec ∧ c.code = cc ∧ c.maxLocals = nL ∧ s.vm.findClass own = some m.cls ∧ (∀ w ∈ w0 :: wsL_law, w.before args s = true) ∧ meth.sig.returnType = ret ∧ meth.locks = false
def jabove (j : Nat) : Int := ([-1, 0, 0, 0, 1, 2, 3] : List Int).getD j 0
def jbodies (j : Nat) : Int := ([1, 2, 3, 11, 0, 0, 0, 21, 0, 0, 0, 31, 0, 0, 41, 51, 0, 0, 0, 61, 0] : List Int).getD j 0
/-- the texts: "heavy ", "signs ", "fee ", "prize ", "sgd", "<=>" -/
def jtxt : List (List Int) := [[104, 101, 97, 118, 121, 32], [115, 105, 103, 110, 115, 32], [102, 101, 101, 32], [112, 114, 105, 122, 101, 32], [115, 103, 100], [60, 61, 62]]
def jtxL (i : Int) : Int := ((jtxt.getD i.toNat []).length : Int)
def jtxC (i k : Int) : Int := (jtxt.getD i.toNat []).getD k.toNat 0
def jstrs : List (String × Nat × String × Nat) := [("RowFirst$Reader", 48, "heavy ", 0), ("RowFirst$Reader", 69, "signs ", 1), ("RowFirst$Reader", 74, "fee ", 2), ("RowFirst$Reader", 79, "prize ", 3), ("RowFirst$Reader", 92, "sgd", 4), ("RowFirst$Reader", 98, "<=>", 5), ("RowFirstModel", 109, "heavy ", 0), ("RowFirstModel", 111, "signs ", 1), ("RowFirstModel", 117, "fee ", 2), ("RowFirstModel", 119, "prize ", 3), ("RowFirstModel", 91, "sgd", 4), ("RowFirstModel", 97, "<=>", 5)]
def jnests : List (String × Nat × MethodName × String) := [(RX0, 51, yX9_above, RX9), (RX1, 34, yX9_compare, RX9)]
def jSta (G : jG) (s : State) (H : Heap) : Prop :=
  va_Z "RowFirst" "ABOVE" "[I" (.ref G.2.2.2.1.1) (jA G) s H ∧ va_T .int G.2.2.2.1.1 7 (fun j => vI (jabove j)) (jA G) s H ∧
  va_Z "RowFirst$Actor" "BODIES" "[I" (.ref G.2.2.2.1.2) (jA G) s H ∧ va_T .int G.2.2.2.1.2 21 (fun j => vI (jbodies j)) (jA G) s H ∧
  vk_S 6 (jtxt.map List.length) (jtxt.map (fun x => x.map Int32.ofInt)) G.2.2.2.2.1 G.2.2.2.2.2 (jA G) s H ∧
  (∀ q ∈ jstrs, vk_R q.1 q.2.1 q.2.2.1 (G.2.2.2.2.1 q.2.2.2) s) ∧ (∀ q ∈ jnests, va_Nw (.methodLinkNest q.1 q.2.1 q.2.2.1 q.2.2.2) s) ∧
  va_Z "java/lang/String" "COMPACT_STRINGS" "Z" (.int 1) (jA G) s H ∧ va_Zq "jdk/internal/util/Preconditions" "SIOOBE_FORMATTER" "Ljava/util/function/BiFunction;" (jA G) s H
abbrev jS (G : jG) (i : Int) : Value := .ref (G.2.2.2.2.1 i.toNat)
theorem jSta.warm {G : jG} {s U : State} {H : Heap} (hW : s.WarmedH U.vm) (h : jSta G s H) : jSta G U H := by
  obtain ⟨h1, h2, h3, h4, h5, h6, h7, h8, h9⟩ := h
  have hA := hW.alike
  exact ⟨h1.moved hA, h2.moved hA, h3.moved hA, h4.moved hA, h5.moved hA, fun q hq => (h6 q hq).warm hW, fun q hq => (h7 q hq).warmM hW, h8.moved hA, h9.moved hA⟩
theorem jSta.kept {G : jG} {s : State} {H H1 : Heap} (hq : ∀ a : Nat, a < H.size → ¬ jA G a → H1[a]? = H[a]?) (h : jSta G s H) : jSta G s H1 := by
  obtain ⟨h1, h2, h3, h4, h5, h6, h7, h8, h9⟩ := h
  exact ⟨h1.kept hq, h2.kept hq, h3.kept hq, h4.kept hq, h5.kept hq, h6, h7, h8.kept hq, h9.kept hq⟩
def jRep (G : jG) (M : jM) (U : State) : Prop := va_P G.1 jcl (jenc G M) U.heap ∧ va_K G.1 jcl (jty G) U ∧ jDis G ∧ jSta G U U.heap
def jOk (G : jG) (M : jM) (s : State) (H : Heap) (locs : List Loc) : Prop := va_P G.1 jcl (jenc G M) H ∧ va_K G.1 jcl (jty G) s ∧ jDis G ∧ jSta G s s.heap ∧ va_S (jA G) s.heap H locs
def jQ (G : jG) (v : Option Value) (M : jM) : Array Value → State → Outcome → State → Prop := fun _ st oc t => oc = .returned v ∧ va_P G.1 jcl (jenc G M) t.heap ∧ va_F (jA G) st t
theorem jRep.ok {G : jG} {M : jM} {s : State} (h : jRep G M s) : jOk G M s s.heap [] := ⟨h.1, h.2.1, h.2.2.1, h.2.2.2, va_S.rf⟩
theorem jOk.rep {G : jG} {M : jM} {s U : State} {H : Heap} {locs : List Loc} (h : jOk G M s H locs) (hH : U.heap = H) (hW : s.WarmedH U.vm) : jRep G M U := by
  obtain ⟨h1, h2, h3, h4, h5⟩ := h
  subst hH
  exact ⟨h1, h2.moved hW.alike, h3, (h4.kept h5.2.1).warm hW⟩
theorem jRep.blind {G : jG} {M : jM} (av : List Value) : FrameBlind (va_Pc av (fun U => jRep G M U)) := by
  intro a U g mk ⟨h1, h2, h3, h4, h5⟩
  exact ⟨h1, h2, h3.moved (U := U.calling g mk a) (Vm.Alike.refl U.vm), h4, (h5.warm (U := U.calling g mk a) (State.WarmedH.refl U))⟩
theorem jpcM {ys : List Cond} {w0 w : Cond} (h : w ∈ ys) : w ∈ w0 :: ys := List.mem_cons_of_mem _ h
section JR
variable {p : Program} {l : Launch} {e : Env} {R : Room} {s : State} {m : MethodId} {args : Array Value} {below : List Frame} {meth : Method} {c : Code} {H : Heap} {locs : List Loc} {cells slots : Nat} {Q : State → Prop}
variable {cc : ByteArray} {nL : Nat} {own : String} {w0 : Cond} {ret : Option FieldType} {pc : Nat} {ls : Array Slot} {rest : List Value} {G : jG} {M : jM}

theorem j_lc_eq (a b : Int) : lg_cmp (Int64.ofInt a) (Int64.ofInt b) = 0 ↔ w64 a = w64 b := by
  unfold lg_cmp
  rw [← w64_eq]
  split
  · rename_i h
    constructor
    · intro q; exact absurd q (by decide)
    · intro q; rw [q] at h; exact (Int64.lt_irrefl h).elim
  · split
    · rename_i h; exact ⟨fun _ => h, fun _ => rfl⟩
    · rename_i h; exact ⟨fun q => absurd q (by decide), fun q => absurd q h⟩
theorem j_lc_lt (a b : Int) : lg_cmp (Int64.ofInt a) (Int64.ofInt b) < 0 ↔ w64 a < w64 b := by
  unfold lg_cmp
  have e1 := w64_lt b a
  have e2 := w64_eq a b
  split
  · rename_i h
    have := e1.mp h
    exact ⟨fun q => absurd q (by decide), fun q => by omega⟩
  · rename_i h
    have h0 : ¬ w64 b < w64 a := fun q => h (e1.mpr q)
    split
    · rename_i h2
      have := e2.mp h2
      exact ⟨fun q => absurd q (by decide), fun q => by omega⟩
    · rename_i h2
      have h3 : ¬ w64 a = w64 b := fun q => h2 (e2.mpr q)
      exact ⟨fun _ => by omega, fun _ => by decide⟩
theorem j_lc_gt (a b : Int) : 0 < lg_cmp (Int64.ofInt a) (Int64.ofInt b) ↔ w64 b < w64 a := by
  unfold lg_cmp
  have e1 := w64_lt b a
  split
  · rename_i h
    exact ⟨fun q => e1.mp h, fun q => by decide⟩
  · rename_i h
    have h0 : ¬ w64 b < w64 a := fun q => h (e1.mpr q)
    split
    · exact ⟨fun q => absurd q (by decide), fun q => absurd q h0⟩
    · exact ⟨fun q => absurd q (by decide), fun q => absurd q h0⟩
theorem j_lc_le (a b : Int) : lg_cmp (Int64.ofInt a) (Int64.ofInt b) ≤ 0 ↔ w64 a ≤ w64 b := by
  unfold lg_cmp
  have e1 := w64_lt b a
  split
  · rename_i h
    have := e1.mp h
    exact ⟨fun q => absurd q (by decide), fun q => by omega⟩
  · rename_i h
    have h0 : ¬ w64 b < w64 a := fun q => h (e1.mpr q)
    split
    · exact ⟨fun q => by omega, fun q => by decide⟩
    · exact ⟨fun q => by omega, fun q => by decide⟩
theorem j_lc_ge (a b : Int) : 0 ≤ lg_cmp (Int64.ofInt a) (Int64.ofInt b) ↔ w64 b ≤ w64 a := by
  have h := j_lc_lt a b
  constructor
  · intro q
    rcases Int.lt_or_le (w64 a) (w64 b) with g | g
    · exact absurd (h.mpr g) (Int32.not_lt.mpr q)
    · exact g
  · intro q
    exact Int32.not_lt.mp (fun g => by have := h.mp g; omega)

theorem ixor_e (a b : Int) : Int32.ofInt (ixor a b) = Int32.ofInt a ^^^ Int32.ofInt b := by unfold ixor; exact Int32.ofInt_toInt _
theorem iand_e (a b : Int) : Int32.ofInt (iand a b) = Int32.ofInt a &&& Int32.ofInt b := by unfold iand; exact Int32.ofInt_toInt _
theorem land_e (a b : Int) : Int64.ofInt (land a b) = Int64.ofInt a &&& Int64.ofInt b := by unfold land; exact Int64.ofInt_toInt _
theorem lor_e (a b : Int) : Int64.ofInt (lor a b) = Int64.ofInt a ||| Int64.ofInt b := by unfold lor; exact Int64.ofInt_toInt _
theorem lxor_e (a b : Int) : Int64.ofInt (lxor a b) = Int64.ofInt a ^^^ Int64.ofInt b := by unfold lxor; exact Int64.ofInt_toInt _
theorem j_iadd (C : jCx p s m args meth c cc nL own w0 ret) {a b : Int} (hdg : decode cc pc = .ok (.iadd, 1)) (kk : W p l e R s m args below meth c H locs cells slots Q (F0 m (pc + 1) ls (vI (a + b) :: rest))) : W p l e R s m args below meth c H locs cells slots Q (F0 m pc ls (vI b :: vI a :: rest)) := lv_iadd C.1 C.2.1 hdg (by rw [← Int32.ofInt_add]; exact kk)
theorem j_isub (C : jCx p s m args meth c cc nL own w0 ret) {a b : Int} (hdg : decode cc pc = .ok (.isub, 1)) (kk : W p l e R s m args below meth c H locs cells slots Q (F0 m (pc + 1) ls (vI (a - b) :: rest))) : W p l e R s m args below meth c H locs cells slots Q (F0 m pc ls (vI b :: vI a :: rest)) := lv_isub C.1 C.2.1 hdg (by rw [← Int32.ofInt_sub]; exact kk)
theorem j_imul (C : jCx p s m args meth c cc nL own w0 ret) {a b : Int} (hdg : decode cc pc = .ok (.imul, 1)) (kk : W p l e R s m args below meth c H locs cells slots Q (F0 m (pc + 1) ls (vI (a * b) :: rest))) : W p l e R s m args below meth c H locs cells slots Q (F0 m pc ls (vI b :: vI a :: rest)) := lv_imul C.1 C.2.1 hdg (by rw [← Int32.ofInt_mul]; exact kk)
theorem j_ineg (C : jCx p s m args meth c cc nL own w0 ret) {a : Int} (hdg : decode cc pc = .ok (.ineg, 1)) (kk : W p l e R s m args below meth c H locs cells slots Q (F0 m (pc + 1) ls (vI (-a) :: rest))) : W p l e R s m args below meth c H locs cells slots Q (F0 m pc ls (vI a :: rest)) := lv_ineg C.1 C.2.1 hdg (by rw [← Int32.ofInt_neg]; exact kk)
theorem j_ladd (C : jCx p s m args meth c cc nL own w0 ret) {a b : Int} (hdg : decode cc pc = .ok (.ladd, 1)) (kk : W p l e R s m args below meth c H locs cells slots Q (F0 m (pc + 1) ls (vL (a + b) :: rest))) : W p l e R s m args below meth c H locs cells slots Q (F0 m pc ls (vL b :: vL a :: rest)) := lv_ladd C.1 C.2.1 hdg (by rw [← Int64.ofInt_add]; exact kk)
theorem j_lsub (C : jCx p s m args meth c cc nL own w0 ret) {a b : Int} (hdg : decode cc pc = .ok (.lsub, 1)) (kk : W p l e R s m args below meth c H locs cells slots Q (F0 m (pc + 1) ls (vL (a - b) :: rest))) : W p l e R s m args below meth c H locs cells slots Q (F0 m pc ls (vL b :: vL a :: rest)) := lv_lsub C.1 C.2.1 hdg (by rw [← Int64.ofInt_sub]; exact kk)
theorem j_lmul (C : jCx p s m args meth c cc nL own w0 ret) {a b : Int} (hdg : decode cc pc = .ok (.lmul, 1)) (kk : W p l e R s m args below meth c H locs cells slots Q (F0 m (pc + 1) ls (vL (a * b) :: rest))) : W p l e R s m args below meth c H locs cells slots Q (F0 m pc ls (vL b :: vL a :: rest)) := lv_lmul C.1 C.2.1 hdg (by rw [← Int64.ofInt_mul]; exact kk)
theorem j_lneg (C : jCx p s m args meth c cc nL own w0 ret) {a : Int} (hdg : decode cc pc = .ok (.lneg, 1)) (kk : W p l e R s m args below meth c H locs cells slots Q (F0 m (pc + 1) ls (vL (-a) :: rest))) : W p l e R s m args below meth c H locs cells slots Q (F0 m pc ls (vL a :: rest)) := lv_lneg C.1 C.2.1 hdg (by rw [← Int64.ofInt_neg]; exact kk)
theorem j_ixor (C : jCx p s m args meth c cc nL own w0 ret) {a b : Int} (hdg : decode cc pc = .ok (.ixor, 1)) (kk : W p l e R s m args below meth c H locs cells slots Q (F0 m (pc + 1) ls (vI (ixor a b) :: rest))) : W p l e R s m args below meth c H locs cells slots Q (F0 m pc ls (vI b :: vI a :: rest)) := lv_ixor C.1 C.2.1 hdg (by rw [← ixor_e]; exact kk)
theorem j_iand (C : jCx p s m args meth c cc nL own w0 ret) {a b : Int} (hdg : decode cc pc = .ok (.iand, 1)) (kk : W p l e R s m args below meth c H locs cells slots Q (F0 m (pc + 1) ls (vI (iand a b) :: rest))) : W p l e R s m args below meth c H locs cells slots Q (F0 m pc ls (vI b :: vI a :: rest)) := lv_iand C.1 C.2.1 hdg (by rw [← iand_e]; exact kk)
theorem j_land (C : jCx p s m args meth c cc nL own w0 ret) {a b : Int} (hdg : decode cc pc = .ok (.land, 1)) (kk : W p l e R s m args below meth c H locs cells slots Q (F0 m (pc + 1) ls (vL (land a b) :: rest))) : W p l e R s m args below meth c H locs cells slots Q (F0 m pc ls (vL b :: vL a :: rest)) := lv_land C.1 C.2.1 hdg (by rw [← land_e]; exact kk)
theorem j_lor (C : jCx p s m args meth c cc nL own w0 ret) {a b : Int} (hdg : decode cc pc = .ok (.lor, 1)) (kk : W p l e R s m args below meth c H locs cells slots Q (F0 m (pc + 1) ls (vL (lor a b) :: rest))) : W p l e R s m args below meth c H locs cells slots Q (F0 m pc ls (vL b :: vL a :: rest)) := lv_lor C.1 C.2.1 hdg (by rw [← lor_e]; exact kk)
theorem j_lxor (C : jCx p s m args meth c cc nL own w0 ret) {a b : Int} (hdg : decode cc pc = .ok (.lxor, 1)) (kk : W p l e R s m args below meth c H locs cells slots Q (F0 m (pc + 1) ls (vL (lxor a b) :: rest))) : W p l e R s m args below meth c H locs cells slots Q (F0 m pc ls (vL b :: vL a :: rest)) := lv_lxor C.1 C.2.1 hdg (by rw [← lxor_e]; exact kk)
theorem j_lshl (C : jCx p s m args meth c cc nL own w0 ret) {a k : Int} (hdg : decode cc pc = .ok (.lshl, 1)) (kk : W p l e R s m args below meth c H locs cells slots Q (F0 m (pc + 1) ls (vL (lshl a k) :: rest))) : W p l e R s m args below meth c H locs cells slots Q (F0 m pc ls (vI k :: vL a :: rest)) := lv_lshl C.1 C.2.1 hdg (by unfold lshl; rw [Int64.ofInt_toInt]) kk
theorem j_lshr (C : jCx p s m args meth c cc nL own w0 ret) {a k : Int} (hdg : decode cc pc = .ok (.lshr, 1)) (kk : W p l e R s m args below meth c H locs cells slots Q (F0 m (pc + 1) ls (vL (lshr a k) :: rest))) : W p l e R s m args below meth c H locs cells slots Q (F0 m pc ls (vI k :: vL a :: rest)) := lv_lshr C.1 C.2.1 hdg (by unfold lshr; rw [Int64.ofInt_toInt]) kk
theorem w32_ww (a : Int) : w32 (w32 a) = w32 a := by unfold w32; rw [Int32.ofInt_toInt]
theorem w64_ww (a : Int) : w64 (w64 a) = w64 a := by unfold w64; rw [Int64.ofInt_toInt]
theorem j_i2l_e (a : Int) : (Int32.ofInt a).toInt64 = Int64.ofInt (w32 a) := by
  apply Int64.toInt_inj.mp
  rw [Int32.toInt_toInt64]
  exact (w64_id (x := w32 a) (by have := w32_rng a; omega) (by have := w32_rng a; omega)).symm
theorem j_l2i_e (a : Int) : (Int64.ofInt a).toInt32 = Int32.ofInt a := by
  apply Int32.toInt_inj.mp
  rw [Int64.toInt_toInt32, Int64.toInt_ofInt, Int32.toInt_ofInt]
  exact Int.bmod_bmod_of_dvd (by decide)
theorem j_div_e {a b : Int} : Int32.ofInt a / Int32.ofInt b = Int32.ofInt ((w32 a).tdiv (w32 b)) := by
  apply Int32.toInt_inj.mp
  rw [Int32.toInt_div]
  exact (Int32.toInt_ofInt (n := (w32 a).tdiv (w32 b))).symm
theorem j_divL_e {a b : Int} : Int64.ofInt a / Int64.ofInt b = Int64.ofInt ((w64 a).tdiv (w64 b)) := by
  apply Int64.toInt_inj.mp
  rw [Int64.toInt_div]
  exact (Int64.toInt_ofInt (n := (w64 a).tdiv (w64 b))).symm
theorem j_rem_e {a b : Int} : Int32.ofInt a - Int32.ofInt a / Int32.ofInt b * Int32.ofInt b = Int32.ofInt ((w32 a).tmod (w32 b)) := by
  rw [j_div_e, ← w32_o b, ← Int32.ofInt_mul, ← w32_o a, ← Int32.ofInt_sub]
  congr 1
  rw [Int.tmod_def, Int.mul_comm]
theorem j_remL_e {a b : Int} : Int64.ofInt a - Int64.ofInt a / Int64.ofInt b * Int64.ofInt b = Int64.ofInt ((w64 a).tmod (w64 b)) := by
  rw [j_divL_e, ← w64_o b, ← Int64.ofInt_mul, ← w64_o a, ← Int64.ofInt_sub]
  congr 1
  rw [Int.tmod_def, Int.mul_comm]
theorem j_i2l (C : jCx p s m args meth c cc nL own w0 ret) {a : Int} (hdg : decode cc pc = .ok (.i2l, 1)) (kk : W p l e R s m args below meth c H locs cells slots Q (F0 m (pc + 1) ls (vL (w32 a) :: rest))) : W p l e R s m args below meth c H locs cells slots Q (F0 m pc ls (vI a :: rest)) := lv_i2l C.1 C.2.1 hdg (j_i2l_e a) kk
theorem j_l2i (C : jCx p s m args meth c cc nL own w0 ret) {a : Int} (hdg : decode cc pc = .ok (.l2i, 1)) (kk : W p l e R s m args below meth c H locs cells slots Q (F0 m (pc + 1) ls (vI a :: rest))) : W p l e R s m args below meth c H locs cells slots Q (F0 m pc ls (vL a :: rest)) := lv_l2i C.1 C.2.1 hdg (j_l2i_e a) kk
theorem j_idiv (C : jCx p s m args meth c cc nL own w0 ret) {a b : Int} (hz : ¬ w32 b = 0) (hdg : decode cc pc = .ok (.idiv, 1)) (kk : W p l e R s m args below meth c H locs cells slots Q (F0 m (pc + 1) ls (vI ((w32 a).tdiv (w32 b)) :: rest))) : W p l e R s m args below meth c H locs cells slots Q (F0 m pc ls (vI b :: vI a :: rest)) := lv_idiv C.1 C.2.1 hdg (fun h => hz (by have := (w32_eq b 0).mp h; exact this)) (by rw [j_div_e]; exact kk)
theorem j_irem (C : jCx p s m args meth c cc nL own w0 ret) {a b : Int} (hz : ¬ w32 b = 0) (hdg : decode cc pc = .ok (.irem, 1)) (kk : W p l e R s m args below meth c H locs cells slots Q (F0 m (pc + 1) ls (vI ((w32 a).tmod (w32 b)) :: rest))) : W p l e R s m args below meth c H locs cells slots Q (F0 m pc ls (vI b :: vI a :: rest)) := lv_irem C.1 C.2.1 hdg (fun h => hz (by have := (w32_eq b 0).mp h; exact this)) (by rw [j_rem_e]; exact kk)
theorem j_ldiv (C : jCx p s m args meth c cc nL own w0 ret) {a b : Int} (hz : ¬ w64 b = 0) (hdg : decode cc pc = .ok (.ldiv, 1)) (kk : W p l e R s m args below meth c H locs cells slots Q (F0 m (pc + 1) ls (vL ((w64 a).tdiv (w64 b)) :: rest))) : W p l e R s m args below meth c H locs cells slots Q (F0 m pc ls (vL b :: vL a :: rest)) := lv_ldiv C.1 C.2.1 hdg (fun h => hz (by have := (w64_eq b 0).mp h; exact this)) (by rw [j_divL_e]; exact kk)
theorem j_lrem (C : jCx p s m args meth c cc nL own w0 ret) {a b : Int} (hz : ¬ w64 b = 0) (hdg : decode cc pc = .ok (.lrem, 1)) (kk : W p l e R s m args below meth c H locs cells slots Q (F0 m (pc + 1) ls (vL ((w64 a).tmod (w64 b)) :: rest))) : W p l e R s m args below meth c H locs cells slots Q (F0 m pc ls (vL b :: vL a :: rest)) := lv_lrem C.1 C.2.1 hdg (fun h => hz (by have := (w64_eq b 0).mp h; exact this)) (by rw [j_remL_e]; exact kk)
theorem j_icmp_eq (C : jCx p s m args meth c cc nL own w0 ret) {a b A B : Int} {off : Int} {tgt : Nat} (ha : w32 a = A) (hb : w32 b = B) (hdg : decode cc pc = .ok (.if_icmp .eq off, 3)) (ht : (pc : Int) + off = (tgt : Int)) (kt : A = B → W p l e R s m args below meth c H locs cells slots Q (F0 m tgt ls rest)) (kf : ¬ (A = B) → W p l e R s m args below meth c H locs cells slots Q (F0 m (pc + 3) ls rest)) : W p l e R s m args below meth c H locs cells slots Q (F0 m pc ls (vI b :: vI a :: rest)) := lv_icmp_eq C.1 C.2.1 hdg ht (fun h => kt (by rw [← ha, ← hb]; exact (w32_eq a b).mp h)) (fun h => kf (fun q => h ((w32_eq a b).mpr (by rw [ha, hb]; exact q))))
theorem j_if_eq (C : jCx p s m args meth c cc nL own w0 ret) {a A : Int} {off : Int} {tgt : Nat} (ha : w32 a = A) (hdg : decode cc pc = .ok (.ifCond .eq off, 3)) (ht : (pc : Int) + off = (tgt : Int)) (kt : A = 0 → W p l e R s m args below meth c H locs cells slots Q (F0 m tgt ls rest)) (kf : ¬ (A = 0) → W p l e R s m args below meth c H locs cells slots Q (F0 m (pc + 3) ls rest)) : W p l e R s m args below meth c H locs cells slots Q (F0 m pc ls (vI a :: rest)) := lv_if_eq C.1 C.2.1 hdg ht (fun h => kt (by rw [← ha]; exact (w32_eq a 0).mp h)) (fun h => kf (fun q => h ((w32_eq a 0).mpr (by rw [ha]; exact q))))
theorem j_lcmp_eq (C : jCx p s m args meth c cc nL own w0 ret) {a b A B : Int} {off : Int} {tgt : Nat} (ha : w64 a = A) (hb : w64 b = B) (hdl : decode cc pc = .ok (.lcmp, 1)) (hdg : decode cc (pc + 1) = .ok (.ifCond .eq off, 3)) (ht : ((pc + 1 : Nat) : Int) + off = (tgt : Int)) (kt : A = B → W p l e R s m args below meth c H locs cells slots Q (F0 m tgt ls rest)) (kf : ¬ (A = B) → W p l e R s m args below meth c H locs cells slots Q (F0 m (pc + 4) ls rest)) : W p l e R s m args below meth c H locs cells slots Q (F0 m pc ls (vL b :: vL a :: rest)) := W.lcmp C.1 C.2.1 hdl (lv_if_eq C.1 C.2.1 hdg ht (fun h => kt (by rw [← ha, ← hb]; exact (j_lc_eq a b).mp h)) (fun h => kf (fun q => h ((j_lc_eq a b).mpr (by rw [ha, hb]; exact q)))))
theorem j_icmp_ne (C : jCx p s m args meth c cc nL own w0 ret) {a b A B : Int} {off : Int} {tgt : Nat} (ha : w32 a = A) (hb : w32 b = B) (hdg : decode cc pc = .ok (.if_icmp .ne off, 3)) (ht : (pc : Int) + off = (tgt : Int)) (kt : ¬ (A = B) → W p l e R s m args below meth c H locs cells slots Q (F0 m tgt ls rest)) (kf : A = B → W p l e R s m args below meth c H locs cells slots Q (F0 m (pc + 3) ls rest)) : W p l e R s m args below meth c H locs cells slots Q (F0 m pc ls (vI b :: vI a :: rest)) := lv_icmp_ne C.1 C.2.1 hdg ht (fun h => kt (fun q => h ((w32_eq a b).mpr (by rw [ha, hb]; exact q)))) (fun h => kf (by rw [← ha, ← hb]; exact (w32_eq a b).mp h))
theorem j_if_ne (C : jCx p s m args meth c cc nL own w0 ret) {a A : Int} {off : Int} {tgt : Nat} (ha : w32 a = A) (hdg : decode cc pc = .ok (.ifCond .ne off, 3)) (ht : (pc : Int) + off = (tgt : Int)) (kt : ¬ (A = 0) → W p l e R s m args below meth c H locs cells slots Q (F0 m tgt ls rest)) (kf : A = 0 → W p l e R s m args below meth c H locs cells slots Q (F0 m (pc + 3) ls rest)) : W p l e R s m args below meth c H locs cells slots Q (F0 m pc ls (vI a :: rest)) := lv_if_ne C.1 C.2.1 hdg ht (fun h => kt (fun q => h ((w32_eq a 0).mpr (by rw [ha]; exact q)))) (fun h => kf (by rw [← ha]; exact (w32_eq a 0).mp h))
theorem j_lcmp_ne (C : jCx p s m args meth c cc nL own w0 ret) {a b A B : Int} {off : Int} {tgt : Nat} (ha : w64 a = A) (hb : w64 b = B) (hdl : decode cc pc = .ok (.lcmp, 1)) (hdg : decode cc (pc + 1) = .ok (.ifCond .ne off, 3)) (ht : ((pc + 1 : Nat) : Int) + off = (tgt : Int)) (kt : ¬ (A = B) → W p l e R s m args below meth c H locs cells slots Q (F0 m tgt ls rest)) (kf : A = B → W p l e R s m args below meth c H locs cells slots Q (F0 m (pc + 4) ls rest)) : W p l e R s m args below meth c H locs cells slots Q (F0 m pc ls (vL b :: vL a :: rest)) := W.lcmp C.1 C.2.1 hdl (lv_if_ne C.1 C.2.1 hdg ht (fun h => kt (fun q => h ((j_lc_eq a b).mpr (by rw [ha, hb]; exact q)))) (fun h => kf (by rw [← ha, ← hb]; exact (j_lc_eq a b).mp h)))
theorem j_icmp_lt (C : jCx p s m args meth c cc nL own w0 ret) {a b A B : Int} {off : Int} {tgt : Nat} (ha : w32 a = A) (hb : w32 b = B) (hdg : decode cc pc = .ok (.if_icmp .lt off, 3)) (ht : (pc : Int) + off = (tgt : Int)) (kt : A < B → W p l e R s m args below meth c H locs cells slots Q (F0 m tgt ls rest)) (kf : ¬ (A < B) → W p l e R s m args below meth c H locs cells slots Q (F0 m (pc + 3) ls rest)) : W p l e R s m args below meth c H locs cells slots Q (F0 m pc ls (vI b :: vI a :: rest)) := lv_icmp_lt C.1 C.2.1 hdg ht (fun h => kt (by rw [← ha, ← hb]; exact (w32_lt a b).mp h)) (fun h => kf (fun q => h ((w32_lt a b).mpr (by rw [ha, hb]; exact q))))
theorem j_if_lt (C : jCx p s m args meth c cc nL own w0 ret) {a A : Int} {off : Int} {tgt : Nat} (ha : w32 a = A) (hdg : decode cc pc = .ok (.ifCond .lt off, 3)) (ht : (pc : Int) + off = (tgt : Int)) (kt : A < 0 → W p l e R s m args below meth c H locs cells slots Q (F0 m tgt ls rest)) (kf : ¬ (A < 0) → W p l e R s m args below meth c H locs cells slots Q (F0 m (pc + 3) ls rest)) : W p l e R s m args below meth c H locs cells slots Q (F0 m pc ls (vI a :: rest)) := lv_if_lt C.1 C.2.1 hdg ht (fun h => kt (by rw [← ha]; exact (w32_lt a 0).mp h)) (fun h => kf (fun q => h ((w32_lt a 0).mpr (by rw [ha]; exact q))))
theorem j_lcmp_lt (C : jCx p s m args meth c cc nL own w0 ret) {a b A B : Int} {off : Int} {tgt : Nat} (ha : w64 a = A) (hb : w64 b = B) (hdl : decode cc pc = .ok (.lcmp, 1)) (hdg : decode cc (pc + 1) = .ok (.ifCond .lt off, 3)) (ht : ((pc + 1 : Nat) : Int) + off = (tgt : Int)) (kt : A < B → W p l e R s m args below meth c H locs cells slots Q (F0 m tgt ls rest)) (kf : ¬ (A < B) → W p l e R s m args below meth c H locs cells slots Q (F0 m (pc + 4) ls rest)) : W p l e R s m args below meth c H locs cells slots Q (F0 m pc ls (vL b :: vL a :: rest)) := W.lcmp C.1 C.2.1 hdl (lv_if_lt C.1 C.2.1 hdg ht (fun h => kt (by rw [← ha, ← hb]; exact (j_lc_lt a b).mp h)) (fun h => kf (fun q => h ((j_lc_lt a b).mpr (by rw [ha, hb]; exact q)))))
theorem j_icmp_ge (C : jCx p s m args meth c cc nL own w0 ret) {a b A B : Int} {off : Int} {tgt : Nat} (ha : w32 a = A) (hb : w32 b = B) (hdg : decode cc pc = .ok (.if_icmp .ge off, 3)) (ht : (pc : Int) + off = (tgt : Int)) (kt : B ≤ A → W p l e R s m args below meth c H locs cells slots Q (F0 m tgt ls rest)) (kf : ¬ (B ≤ A) → W p l e R s m args below meth c H locs cells slots Q (F0 m (pc + 3) ls rest)) : W p l e R s m args below meth c H locs cells slots Q (F0 m pc ls (vI b :: vI a :: rest)) := lv_icmp_ge C.1 C.2.1 hdg ht (fun h => kt (by rw [← ha, ← hb]; exact (w32_le b a).mp h)) (fun h => kf (fun q => h ((w32_le b a).mpr (by rw [ha, hb]; exact q))))
theorem j_if_ge (C : jCx p s m args meth c cc nL own w0 ret) {a A : Int} {off : Int} {tgt : Nat} (ha : w32 a = A) (hdg : decode cc pc = .ok (.ifCond .ge off, 3)) (ht : (pc : Int) + off = (tgt : Int)) (kt : 0 ≤ A → W p l e R s m args below meth c H locs cells slots Q (F0 m tgt ls rest)) (kf : ¬ (0 ≤ A) → W p l e R s m args below meth c H locs cells slots Q (F0 m (pc + 3) ls rest)) : W p l e R s m args below meth c H locs cells slots Q (F0 m pc ls (vI a :: rest)) := lv_if_ge C.1 C.2.1 hdg ht (fun h => kt (by rw [← ha]; exact (w32_le 0 a).mp h)) (fun h => kf (fun q => h ((w32_le 0 a).mpr (by rw [ha]; exact q))))
theorem j_lcmp_ge (C : jCx p s m args meth c cc nL own w0 ret) {a b A B : Int} {off : Int} {tgt : Nat} (ha : w64 a = A) (hb : w64 b = B) (hdl : decode cc pc = .ok (.lcmp, 1)) (hdg : decode cc (pc + 1) = .ok (.ifCond .ge off, 3)) (ht : ((pc + 1 : Nat) : Int) + off = (tgt : Int)) (kt : B ≤ A → W p l e R s m args below meth c H locs cells slots Q (F0 m tgt ls rest)) (kf : ¬ (B ≤ A) → W p l e R s m args below meth c H locs cells slots Q (F0 m (pc + 4) ls rest)) : W p l e R s m args below meth c H locs cells slots Q (F0 m pc ls (vL b :: vL a :: rest)) := W.lcmp C.1 C.2.1 hdl (lv_if_ge C.1 C.2.1 hdg ht (fun h => kt (by rw [← ha, ← hb]; exact (j_lc_ge a b).mp h)) (fun h => kf (fun q => h ((j_lc_ge a b).mpr (by rw [ha, hb]; exact q)))))
theorem j_icmp_gt (C : jCx p s m args meth c cc nL own w0 ret) {a b A B : Int} {off : Int} {tgt : Nat} (ha : w32 a = A) (hb : w32 b = B) (hdg : decode cc pc = .ok (.if_icmp .gt off, 3)) (ht : (pc : Int) + off = (tgt : Int)) (kt : B < A → W p l e R s m args below meth c H locs cells slots Q (F0 m tgt ls rest)) (kf : ¬ (B < A) → W p l e R s m args below meth c H locs cells slots Q (F0 m (pc + 3) ls rest)) : W p l e R s m args below meth c H locs cells slots Q (F0 m pc ls (vI b :: vI a :: rest)) := lv_icmp_gt C.1 C.2.1 hdg ht (fun h => kt (by rw [← ha, ← hb]; exact (w32_lt b a).mp h)) (fun h => kf (fun q => h ((w32_lt b a).mpr (by rw [ha, hb]; exact q))))
theorem j_if_gt (C : jCx p s m args meth c cc nL own w0 ret) {a A : Int} {off : Int} {tgt : Nat} (ha : w32 a = A) (hdg : decode cc pc = .ok (.ifCond .gt off, 3)) (ht : (pc : Int) + off = (tgt : Int)) (kt : 0 < A → W p l e R s m args below meth c H locs cells slots Q (F0 m tgt ls rest)) (kf : ¬ (0 < A) → W p l e R s m args below meth c H locs cells slots Q (F0 m (pc + 3) ls rest)) : W p l e R s m args below meth c H locs cells slots Q (F0 m pc ls (vI a :: rest)) := lv_if_gt C.1 C.2.1 hdg ht (fun h => kt (by rw [← ha]; exact (w32_lt 0 a).mp h)) (fun h => kf (fun q => h ((w32_lt 0 a).mpr (by rw [ha]; exact q))))
theorem j_lcmp_gt (C : jCx p s m args meth c cc nL own w0 ret) {a b A B : Int} {off : Int} {tgt : Nat} (ha : w64 a = A) (hb : w64 b = B) (hdl : decode cc pc = .ok (.lcmp, 1)) (hdg : decode cc (pc + 1) = .ok (.ifCond .gt off, 3)) (ht : ((pc + 1 : Nat) : Int) + off = (tgt : Int)) (kt : B < A → W p l e R s m args below meth c H locs cells slots Q (F0 m tgt ls rest)) (kf : ¬ (B < A) → W p l e R s m args below meth c H locs cells slots Q (F0 m (pc + 4) ls rest)) : W p l e R s m args below meth c H locs cells slots Q (F0 m pc ls (vL b :: vL a :: rest)) := W.lcmp C.1 C.2.1 hdl (lv_if_gt C.1 C.2.1 hdg ht (fun h => kt (by rw [← ha, ← hb]; exact (j_lc_gt a b).mp h)) (fun h => kf (fun q => h ((j_lc_gt a b).mpr (by rw [ha, hb]; exact q)))))
theorem j_icmp_le (C : jCx p s m args meth c cc nL own w0 ret) {a b A B : Int} {off : Int} {tgt : Nat} (ha : w32 a = A) (hb : w32 b = B) (hdg : decode cc pc = .ok (.if_icmp .le off, 3)) (ht : (pc : Int) + off = (tgt : Int)) (kt : A ≤ B → W p l e R s m args below meth c H locs cells slots Q (F0 m tgt ls rest)) (kf : ¬ (A ≤ B) → W p l e R s m args below meth c H locs cells slots Q (F0 m (pc + 3) ls rest)) : W p l e R s m args below meth c H locs cells slots Q (F0 m pc ls (vI b :: vI a :: rest)) := lv_icmp_le C.1 C.2.1 hdg ht (fun h => kt (by rw [← ha, ← hb]; exact (w32_le a b).mp h)) (fun h => kf (fun q => h ((w32_le a b).mpr (by rw [ha, hb]; exact q))))
theorem j_if_le (C : jCx p s m args meth c cc nL own w0 ret) {a A : Int} {off : Int} {tgt : Nat} (ha : w32 a = A) (hdg : decode cc pc = .ok (.ifCond .le off, 3)) (ht : (pc : Int) + off = (tgt : Int)) (kt : A ≤ 0 → W p l e R s m args below meth c H locs cells slots Q (F0 m tgt ls rest)) (kf : ¬ (A ≤ 0) → W p l e R s m args below meth c H locs cells slots Q (F0 m (pc + 3) ls rest)) : W p l e R s m args below meth c H locs cells slots Q (F0 m pc ls (vI a :: rest)) := lv_if_le C.1 C.2.1 hdg ht (fun h => kt (by rw [← ha]; exact (w32_le a 0).mp h)) (fun h => kf (fun q => h ((w32_le a 0).mpr (by rw [ha]; exact q))))
theorem j_lcmp_le (C : jCx p s m args meth c cc nL own w0 ret) {a b A B : Int} {off : Int} {tgt : Nat} (ha : w64 a = A) (hb : w64 b = B) (hdl : decode cc pc = .ok (.lcmp, 1)) (hdg : decode cc (pc + 1) = .ok (.ifCond .le off, 3)) (ht : ((pc + 1 : Nat) : Int) + off = (tgt : Int)) (kt : A ≤ B → W p l e R s m args below meth c H locs cells slots Q (F0 m tgt ls rest)) (kf : ¬ (A ≤ B) → W p l e R s m args below meth c H locs cells slots Q (F0 m (pc + 4) ls rest)) : W p l e R s m args below meth c H locs cells slots Q (F0 m pc ls (vL b :: vL a :: rest)) := W.lcmp C.1 C.2.1 hdl (lv_if_le C.1 C.2.1 hdg ht (fun h => kt (by rw [← ha, ← hb]; exact (j_lc_le a b).mp h)) (fun h => kf (fun q => h ((j_lc_le a b).mpr (by rw [ha, hb]; exact q)))))
end JR
