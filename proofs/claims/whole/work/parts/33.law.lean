/-! THE CLAIM OUT OF ONE WALK OF THE LAW'S BODY. Your part is whole_start (and what it stands on); all else here is the same for every law, but numbers. -/
def R_law : String := "RowFirstLaw"
def lw_P (b : Addr) (xs : List Int32) (args : Array Value) (s : State) : Prop := args = #[.ref b] ∧ s.IntsAt b xs ∧ xs.length ≤ 2048 ∧ (Jvm.Cond.and given_1 narrow_1).before args s = true
def lw_Q (_ : Array Value) (s : State) (o : Outcome) (t : State) : Prop := o = .returned (some (.int 1)) ∧ Framed s o t [] 600000 7302250
def lw_Z (below : List Frame) (a : Array Value) (s : State) : State → Prop := fun t => ∃ o, t.status = .running ∧ Ended t below o ∧ lw_Q a s o t
/-- the law's own end, with 1 on the stack, nothing written that was there before, its room as the claim has it -/
theorem lw_ret {p : Program} {l : Launch} {e : Env} {s : State} {m : MethodId} {below : List Frame} {meth : Method} {c : Code} {b : Nat} (hx : p.tables.exec = Jvm.exec) (hb : c.code = code) (hr : meth.sig.returnType = ret) (hlocks : meth.locks = false) {pc : Nat} {H : Heap} {ls : Array Slot} (hdg : decode code pc = .ok (.ireturn, 1)) : W p l e room_1 s m #[Value.ref b] below meth c H [] 600000 7302250 (lw_Z below #[Value.ref b] s) (F0 m pc ls [.int 1]) := by
  intro T hT X
  obtain ⟨fs, hret, hrun, hended, hW, hframe⟩ := X.leave (v := some (.int 1)) (hlocks := hlocks) (fun h => by rw [hr] at h; cases h)
  have hmeth' : T.vm.method? m = some meth := X.method'
  refine ⟨T.setFrames fs, ?_, .returned (some (.int 1)), hrun, hended, rfl, ⟨_, rfl⟩, hW, hframe⟩
  jvm_step X.here [X.here.top, hx, hb, hdg, hmeth', hr, ret, narrow_b1]
  (try refine ⟨rfl, ?_⟩); (try refine ⟨rfl, ?_⟩)
  first | (intro acts; rw [hret _ acts rfl rfl rfl]) | rw [hret _ _ rfl rfl rfl]
  exact Steps.refl _
/-- what holds at the law's entry: the machine, the code, the tables' words (any of lw_tbl by 'hts w (by decide +kernel)'), the script of L ints xs at the cell b, what the Statement gives of the start (any of its parts by flat_of_before) -/
def lw_At (p : Program) (s : State) (m : MethodId) (meth : Method) (c : Code) (b L : Nat) (xs : Nat → Int32) : Prop :=
  p.tables.exec = Jvm.exec ∧ c.code = code ∧ meth.sig.returnType = ret ∧ c.maxLocals = 4 ∧ s.vm.findClass R_law = some m.cls ∧ (∀ w ∈ lw_tbl, w.before #[Value.ref b] s = true) ∧ va_X b L xs s s.heap ∧ b < s.heap.size ∧ meth.locks = false ∧ (Jvm.Cond.and given_1 narrow_1).before #[Value.ref b] s = true
def f_L_law_1093 (L : Nat) (xs : Nat → Int32) (M : jM) (l1 l2 l3 : Int) : Option ((jM × Int) ⊕ jM) :=
  some (.inl (M, l3 + 4))
def f_L_law_L18 (L : Nat) (xs : Nat → Int32) (M : jM) (l1 l2 : Int) (S : jM × Int) : Option ((jM × Int) ⊕ jM) :=
  (if w32 ((L : Int) - 4) < w32 S.2 then some (.inr S.1) else grd (0 ≤ w32 S.2 ∧ w32 S.2 < (L : Int)) ((if w32 (iand ((xs (w32 S.2).toNat).toInt) 31) = 0 then grd (0 ≤ w32 (S.2 + 1) ∧ w32 (S.2 + 1) < (L : Int)) ((f_X9_feed S.1 l1 ((xs (w32 (S.2 + 1)).toNat).toInt)).bind fun r5 => grd (0 ≤ w32 (S.2 + 1) ∧ w32 (S.2 + 1) < (L : Int)) ((f_X10_feed r5.2 l2 ((xs (w32 (S.2 + 1)).toNat).toInt)).bind fun r7 => grd (w32 r5.1 = w32 r7.1) (f_L_law_1093 L xs r7.2 l1 l2 S.2))) else (if w32 (iand ((xs (w32 S.2).toNat).toInt) 31) = 1 then (f_X9_stall S.1 l1).bind fun r10 => (f_X10_stall r10.2 l2).bind fun r11 => grd (w32 r10.1 = w32 r11.1) (f_L_law_1093 L xs r11.2 l1 l2 S.2) else (if w32 (iand ((xs (w32 S.2).toNat).toInt) 31) = 2 then grd (0 ≤ w32 (S.2 + 1) ∧ w32 (S.2 + 1) < (L : Int)) ((f_X9_day S.1 l1 ((xs (w32 (S.2 + 1)).toNat).toInt)).bind fun r15 => grd (0 ≤ w32 (S.2 + 1) ∧ w32 (S.2 + 1) < (L : Int)) ((f_X10_day r15.2 l2 ((xs (w32 (S.2 + 1)).toNat).toInt)).bind fun r17 => grd (w32 r15.1 = w32 r17.1) (f_L_law_1093 L xs r17.2 l1 l2 S.2))) else (if w32 (iand ((xs (w32 S.2).toNat).toInt) 31) = 3 then grd (0 ≤ w32 (S.2 + 1) ∧ w32 (S.2 + 1) < (L : Int)) ((f_X9_told S.1 l1 ((xs (w32 (S.2 + 1)).toNat).toInt)).bind fun r21 => grd (0 ≤ w32 (S.2 + 1) ∧ w32 (S.2 + 1) < (L : Int)) ((f_X10_told r21.2 l2 ((xs (w32 (S.2 + 1)).toNat).toInt)).bind fun r23 => grd (w32 r21.1 = w32 r23.1) (f_L_law_1093 L xs r23.2 l1 l2 S.2))) else (if w32 (iand ((xs (w32 S.2).toNat).toInt) 31) = 4 then grd (0 ≤ w32 (S.2 + 1) ∧ w32 (S.2 + 1) < (L : Int)) ((f_X9_sign S.1 l1 ((xs (w32 (S.2 + 1)).toNat).toInt)).bind fun r27 => grd (0 ≤ w32 (S.2 + 1) ∧ w32 (S.2 + 1) < (L : Int)) ((f_X10_sign r27.2 l2 ((xs (w32 (S.2 + 1)).toNat).toInt)).bind fun r29 => grd (w32 r27.1 = w32 r29.1) (f_L_law_1093 L xs r29.2 l1 l2 S.2))) else (if w32 (iand ((xs (w32 S.2).toNat).toInt) 31) = 5 then (f_X9_row S.1 l1).bind fun r32 => (f_X10_row r32.2 l2).bind fun r33 => grd (w32 r32.1 = w32 r33.1) (f_L_law_1093 L xs r33.2 l1 l2 S.2) else (if w32 (iand ((xs (w32 S.2).toNat).toInt) 31) = 6 then grd (0 ≤ w32 (S.2 + 1) ∧ w32 (S.2 + 1) < (L : Int)) (grd (0 ≤ w32 (S.2 + 2) ∧ w32 (S.2 + 2) < (L : Int)) ((f_X9_of S.1 l1 ((xs (w32 (S.2 + 1)).toNat).toInt) ((xs (w32 (S.2 + 2)).toNat).toInt)).bind fun r38 => grd (0 ≤ w32 (S.2 + 1) ∧ w32 (S.2 + 1) < (L : Int)) (grd (0 ≤ w32 (S.2 + 2) ∧ w32 (S.2 + 2) < (L : Int)) ((f_X10_of S.1 l2 ((xs (w32 (S.2 + 1)).toNat).toInt) ((xs (w32 (S.2 + 2)).toNat).toInt)).bind fun r41 => grd (w32 r38 = w32 r41) (f_L_law_1093 L xs S.1 l1 l2 S.2))))) else (if w32 (iand ((xs (w32 S.2).toNat).toInt) 31) = 7 then grd (0 ≤ w32 (S.2 + 1) ∧ w32 (S.2 + 1) < (L : Int)) (grd (0 ≤ w32 (S.2 + 2) ∧ w32 (S.2 + 2) < (L : Int)) ((f_X9_player S.1 l1 ((xs (w32 (S.2 + 1)).toNat).toInt) ((xs (w32 (S.2 + 2)).toNat).toInt)).bind fun r46 => grd (0 ≤ w32 (S.2 + 1) ∧ w32 (S.2 + 1) < (L : Int)) (grd (0 ≤ w32 (S.2 + 2) ∧ w32 (S.2 + 2) < (L : Int)) ((f_X10_player r46.2 l2 ((xs (w32 (S.2 + 1)).toNat).toInt) ((xs (w32 (S.2 + 2)).toNat).toInt)).bind fun r49 => grd (w32 r46.1 = w32 r49.1) (f_L_law_1093 L xs r49.2 l1 l2 S.2))))) else (if w32 (iand ((xs (w32 S.2).toNat).toInt) 31) = 8 then grd (0 ≤ w32 (S.2 + 1) ∧ w32 (S.2 + 1) < (L : Int)) ((f_X9_own S.1 l1 ((xs (w32 (S.2 + 1)).toNat).toInt)).bind fun r53 => grd (0 ≤ w32 (S.2 + 1) ∧ w32 (S.2 + 1) < (L : Int)) ((f_X10_own r53.2 l2 ((xs (w32 (S.2 + 1)).toNat).toInt)).bind fun r55 => grd (w32 r53.1 = w32 r55.1) (f_L_law_1093 L xs r55.2 l1 l2 S.2))) else (if w32 (iand ((xs (w32 S.2).toNat).toInt) 31) = 9 then grd (0 ≤ w32 (S.2 + 1) ∧ w32 (S.2 + 1) < (L : Int)) (grd (0 ≤ w32 (S.2 + 2) ∧ w32 (S.2 + 2) < (L : Int)) ((f_X9_waits S.1 l1 ((xs (w32 (S.2 + 1)).toNat).toInt) ((xs (w32 (S.2 + 2)).toNat).toInt)).bind fun r60 => grd (0 ≤ w32 (S.2 + 1) ∧ w32 (S.2 + 1) < (L : Int)) (grd (0 ≤ w32 (S.2 + 2) ∧ w32 (S.2 + 2) < (L : Int)) ((f_X10_waits r60.2 l2 ((xs (w32 (S.2 + 1)).toNat).toInt) ((xs (w32 (S.2 + 2)).toNat).toInt)).bind fun r63 => grd (w64 r60.1 = w64 r63.1) (f_L_law_1093 L xs r63.2 l1 l2 S.2))))) else (if w32 (iand ((xs (w32 S.2).toNat).toInt) 31) = 10 then grd (0 ≤ w32 (S.2 + 1) ∧ w32 (S.2 + 1) < (L : Int)) (grd (0 ≤ w32 (S.2 + 2) ∧ w32 (S.2 + 2) < (L : Int)) (grd (0 ≤ w32 (S.2 + 3) ∧ w32 (S.2 + 3) < (L : Int)) ((f_X9_odds S.1 l1 ((xs (w32 (S.2 + 1)).toNat).toInt) ((xs (w32 (S.2 + 2)).toNat).toInt) ((xs (w32 (S.2 + 3)).toNat).toInt)).bind fun r69 => grd (0 ≤ w32 (S.2 + 1) ∧ w32 (S.2 + 1) < (L : Int)) (grd (0 ≤ w32 (S.2 + 2) ∧ w32 (S.2 + 2) < (L : Int)) (grd (0 ≤ w32 (S.2 + 3) ∧ w32 (S.2 + 3) < (L : Int)) ((f_X10_odds r69.2 l2 ((xs (w32 (S.2 + 1)).toNat).toInt) ((xs (w32 (S.2 + 2)).toNat).toInt) ((xs (w32 (S.2 + 3)).toNat).toInt)).bind fun r73 => grd (w64 r69.1 = w64 r73.1) (f_L_law_1093 L xs r73.2 l1 l2 S.2))))))) else (if w32 (iand ((xs (w32 S.2).toNat).toInt) 31) = 11 then grd (0 ≤ w32 (S.2 + 1) ∧ w32 (S.2 + 1) < (L : Int)) (grd (0 ≤ w32 (S.2 + 2) ∧ w32 (S.2 + 2) < (L : Int)) (grd (0 ≤ w32 (S.2 + 3) ∧ w32 (S.2 + 3) < (L : Int)) ((f_X9_lasts S.1 l1 ((xs (w32 (S.2 + 1)).toNat).toInt) ((xs (w32 (S.2 + 2)).toNat).toInt) ((xs (w32 (S.2 + 3)).toNat).toInt)).bind fun r79 => grd (0 ≤ w32 (S.2 + 1) ∧ w32 (S.2 + 1) < (L : Int)) (grd (0 ≤ w32 (S.2 + 2) ∧ w32 (S.2 + 2) < (L : Int)) (grd (0 ≤ w32 (S.2 + 3) ∧ w32 (S.2 + 3) < (L : Int)) ((f_X10_lasts r79.2 l2 ((xs (w32 (S.2 + 1)).toNat).toInt) ((xs (w32 (S.2 + 2)).toNat).toInt) ((xs (w32 (S.2 + 3)).toNat).toInt)).bind fun r83 => grd (w64 r79.1 = w64 r83.1) (f_L_law_1093 L xs r83.2 l1 l2 S.2))))))) else (if w32 (iand ((xs (w32 S.2).toNat).toInt) 31) = 12 then grd (0 ≤ w32 (S.2 + 1) ∧ w32 (S.2 + 1) < (L : Int)) (grd (0 ≤ w32 (S.2 + 2) ∧ w32 (S.2 + 2) < (L : Int)) (grd (0 ≤ w32 (S.2 + 3) ∧ w32 (S.2 + 3) < (L : Int)) ((f_X9_half S.1 l1 ((xs (w32 (S.2 + 1)).toNat).toInt) ((xs (w32 (S.2 + 2)).toNat).toInt) ((xs (w32 (S.2 + 3)).toNat).toInt)).bind fun r89 => grd (0 ≤ w32 (S.2 + 1) ∧ w32 (S.2 + 1) < (L : Int)) (grd (0 ≤ w32 (S.2 + 2) ∧ w32 (S.2 + 2) < (L : Int)) (grd (0 ≤ w32 (S.2 + 3) ∧ w32 (S.2 + 3) < (L : Int)) ((f_X10_half r89.2 l2 ((xs (w32 (S.2 + 1)).toNat).toInt) ((xs (w32 (S.2 + 2)).toNat).toInt) ((xs (w32 (S.2 + 3)).toNat).toInt)).bind fun r93 => grd (w64 r89.1 = w64 r93.1) (f_L_law_1093 L xs r93.2 l1 l2 S.2))))))) else (if w32 (iand ((xs (w32 S.2).toNat).toInt) 31) = 13 then grd (0 ≤ w32 (S.2 + 1) ∧ w32 (S.2 + 1) < (L : Int)) (grd (0 ≤ w32 (S.2 + 2) ∧ w32 (S.2 + 2) < (L : Int)) (grd (0 ≤ w32 (S.2 + 3) ∧ w32 (S.2 + 3) < (L : Int)) ((f_X9_worth S.1 l1 ((xs (w32 (S.2 + 1)).toNat).toInt) ((xs (w32 (S.2 + 2)).toNat).toInt) ((xs (w32 (S.2 + 3)).toNat).toInt)).bind fun r99 => grd (0 ≤ w32 (S.2 + 1) ∧ w32 (S.2 + 1) < (L : Int)) (grd (0 ≤ w32 (S.2 + 2) ∧ w32 (S.2 + 2) < (L : Int)) (grd (0 ≤ w32 (S.2 + 3) ∧ w32 (S.2 + 3) < (L : Int)) ((f_X10_worth r99.2 l2 ((xs (w32 (S.2 + 1)).toNat).toInt) ((xs (w32 (S.2 + 2)).toNat).toInt) ((xs (w32 (S.2 + 3)).toNat).toInt)).bind fun r103 => grd (w64 r99.1 = w64 r103.1) (f_L_law_1093 L xs r103.2 l1 l2 S.2))))))) else (if w32 (iand ((xs (w32 S.2).toNat).toInt) 31) = 14 then grd (0 ≤ w32 (S.2 + 1) ∧ w32 (S.2 + 1) < (L : Int)) (grd (0 ≤ w32 (S.2 + 2) ∧ w32 (S.2 + 2) < (L : Int)) (grd (0 ≤ w32 (S.2 + 3) ∧ w32 (S.2 + 3) < (L : Int)) ((f_X9_best S.1 l1 ((xs (w32 (S.2 + 1)).toNat).toInt) ((xs (w32 (S.2 + 2)).toNat).toInt) ((xs (w32 (S.2 + 3)).toNat).toInt)).bind fun r109 => grd (0 ≤ w32 (S.2 + 1) ∧ w32 (S.2 + 1) < (L : Int)) (grd (0 ≤ w32 (S.2 + 2) ∧ w32 (S.2 + 2) < (L : Int)) (grd (0 ≤ w32 (S.2 + 3) ∧ w32 (S.2 + 3) < (L : Int)) ((f_X10_best r109.2 l2 ((xs (w32 (S.2 + 1)).toNat).toInt) ((xs (w32 (S.2 + 2)).toNat).toInt) ((xs (w32 (S.2 + 3)).toNat).toInt)).bind fun r113 => grd (w32 r109.1 = w32 r113.1) (f_L_law_1093 L xs r113.2 l1 l2 S.2))))))) else (if w32 (iand ((xs (w32 S.2).toNat).toInt) 31) = 15 then grd (0 ≤ w32 (S.2 + 1) ∧ w32 (S.2 + 1) < (L : Int)) (grd (0 ≤ w32 (S.2 + 2) ∧ w32 (S.2 + 2) < (L : Int)) (grd (0 ≤ w32 (S.2 + 3) ∧ w32 (S.2 + 3) < (L : Int)) ((f_X9_ring S.1 l1 ((xs (w32 (S.2 + 1)).toNat).toInt) ((xs (w32 (S.2 + 2)).toNat).toInt) ((xs (w32 (S.2 + 3)).toNat).toInt)).bind fun r119 => grd (0 ≤ w32 (S.2 + 1) ∧ w32 (S.2 + 1) < (L : Int)) (grd (0 ≤ w32 (S.2 + 2) ∧ w32 (S.2 + 2) < (L : Int)) (grd (0 ≤ w32 (S.2 + 3) ∧ w32 (S.2 + 3) < (L : Int)) ((f_X10_ring r119.2 l2 ((xs (w32 (S.2 + 1)).toNat).toInt) ((xs (w32 (S.2 + 2)).toNat).toInt) ((xs (w32 (S.2 + 3)).toNat).toInt)).bind fun r123 => grd (w32 r119.1 = w32 r123.1) (f_L_law_1093 L xs r123.2 l1 l2 S.2))))))) else (if w32 (iand ((xs (w32 S.2).toNat).toInt) 31) = 16 then grd (0 ≤ w32 (S.2 + 1) ∧ w32 (S.2 + 1) < (L : Int)) (grd (0 ≤ w32 (S.2 + 2) ∧ w32 (S.2 + 2) < (L : Int)) (grd (0 ≤ w32 (S.2 + 3) ∧ w32 (S.2 + 3) < (L : Int)) ((f_X9_pick S.1 l1 ((xs (w32 (S.2 + 1)).toNat).toInt) ((xs (w32 (S.2 + 2)).toNat).toInt) ((xs (w32 (S.2 + 3)).toNat).toInt)).bind fun r129 => grd (0 ≤ w32 (S.2 + 1) ∧ w32 (S.2 + 1) < (L : Int)) (grd (0 ≤ w32 (S.2 + 2) ∧ w32 (S.2 + 2) < (L : Int)) (grd (0 ≤ w32 (S.2 + 3) ∧ w32 (S.2 + 3) < (L : Int)) ((f_X10_pick r129.2 l2 ((xs (w32 (S.2 + 1)).toNat).toInt) ((xs (w32 (S.2 + 2)).toNat).toInt) ((xs (w32 (S.2 + 3)).toNat).toInt)).bind fun r133 => grd (w32 r129.1 = w32 r133.1) (f_L_law_1093 L xs r133.2 l1 l2 S.2))))))) else (if w32 (iand ((xs (w32 S.2).toNat).toInt) 31) = 17 then grd (0 ≤ w32 (S.2 + 1) ∧ w32 (S.2 + 1) < (L : Int)) (grd (0 ≤ w32 (S.2 + 2) ∧ w32 (S.2 + 2) < (L : Int)) ((f_X9_fair S.1 l1 ((xs (w32 (S.2 + 1)).toNat).toInt) ((xs (w32 (S.2 + 2)).toNat).toInt)).bind fun r138 => grd (0 ≤ w32 (S.2 + 1) ∧ w32 (S.2 + 1) < (L : Int)) (grd (0 ≤ w32 (S.2 + 2) ∧ w32 (S.2 + 2) < (L : Int)) ((f_X10_fair r138.2 l2 ((xs (w32 (S.2 + 1)).toNat).toInt) ((xs (w32 (S.2 + 2)).toNat).toInt)).bind fun r141 => grd (w32 r138.1 = w32 r141.1) (f_L_law_1093 L xs r141.2 l1 l2 S.2))))) else (if w32 (iand ((xs (w32 S.2).toNat).toInt) 31) = 18 then grd (0 ≤ w32 (S.2 + 1) ∧ w32 (S.2 + 1) < (L : Int)) (grd (0 ≤ w32 (S.2 + 2) ∧ w32 (S.2 + 2) < (L : Int)) (grd (0 ≤ w32 (S.2 + 3) ∧ w32 (S.2 + 3) < (L : Int)) ((f_X9_within S.1 l1 ((xs (w32 (S.2 + 1)).toNat).toInt) ((xs (w32 (S.2 + 2)).toNat).toInt) ((xs (w32 (S.2 + 3)).toNat).toInt)).bind fun r147 => grd (0 ≤ w32 (S.2 + 1) ∧ w32 (S.2 + 1) < (L : Int)) (grd (0 ≤ w32 (S.2 + 2) ∧ w32 (S.2 + 2) < (L : Int)) (grd (0 ≤ w32 (S.2 + 3) ∧ w32 (S.2 + 3) < (L : Int)) ((f_X10_within r147.2 l2 ((xs (w32 (S.2 + 1)).toNat).toInt) ((xs (w32 (S.2 + 2)).toNat).toInt) ((xs (w32 (S.2 + 3)).toNat).toInt)).bind fun r151 => grd (w64 r147.1 = w64 r151.1) (f_L_law_1093 L xs r151.2 l1 l2 S.2))))))) else (if w32 (iand ((xs (w32 S.2).toNat).toInt) 31) = 19 then grd (0 ≤ w32 (S.2 + 1) ∧ w32 (S.2 + 1) < (L : Int)) (grd (0 ≤ w32 (S.2 + 2) ∧ w32 (S.2 + 2) < (L : Int)) (grd (0 ≤ w32 (S.2 + 3) ∧ w32 (S.2 + 3) < (L : Int)) ((f_X9_often S.1 l1 ((xs (w32 (S.2 + 1)).toNat).toInt) ((xs (w32 (S.2 + 2)).toNat).toInt) ((xs (w32 (S.2 + 3)).toNat).toInt)).bind fun r157 => grd (0 ≤ w32 (S.2 + 1) ∧ w32 (S.2 + 1) < (L : Int)) (grd (0 ≤ w32 (S.2 + 2) ∧ w32 (S.2 + 2) < (L : Int)) (grd (0 ≤ w32 (S.2 + 3) ∧ w32 (S.2 + 3) < (L : Int)) ((f_X10_often r157.2 l2 ((xs (w32 (S.2 + 1)).toNat).toInt) ((xs (w32 (S.2 + 2)).toNat).toInt) ((xs (w32 (S.2 + 3)).toNat).toInt)).bind fun r161 => grd (w64 r157.1 = w64 r161.1) (f_L_law_1093 L xs r161.2 l1 l2 S.2))))))) else (if w32 (iand ((xs (w32 S.2).toNat).toInt) 31) = 20 then grd (0 ≤ w32 (S.2 + 1) ∧ w32 (S.2 + 1) < (L : Int)) ((f_X9_free S.1 l1 ((xs (w32 (S.2 + 1)).toNat).toInt)).bind fun r165 => grd (0 ≤ w32 (S.2 + 1) ∧ w32 (S.2 + 1) < (L : Int)) ((f_X10_free r165.2 l2 ((xs (w32 (S.2 + 1)).toNat).toInt)).bind fun r167 => grd (w64 r165.1 = w64 r167.1) (f_L_law_1093 L xs r167.2 l1 l2 S.2))) else (if w32 (iand ((xs (w32 S.2).toNat).toInt) 31) = 21 then grd (0 ≤ w32 (S.2 + 1) ∧ w32 (S.2 + 1) < (L : Int)) ((f_X9_toss S.1 l1 ((xs (w32 (S.2 + 1)).toNat).toInt)).bind fun r171 => grd (0 ≤ w32 (S.2 + 1) ∧ w32 (S.2 + 1) < (L : Int)) ((f_X10_toss r171.2 l2 ((xs (w32 (S.2 + 1)).toNat).toInt)).bind fun r173 => grd (w32 r171.1 = w32 r173.1) (f_L_law_1093 L xs r173.2 l1 l2 S.2))) else (if w32 (iand ((xs (w32 S.2).toNat).toInt) 31) = 22 then grd (0 ≤ w32 (S.2 + 1) ∧ w32 (S.2 + 1) < (L : Int)) ((f_X9_came S.1 l1 ((xs (w32 (S.2 + 1)).toNat).toInt)).bind fun r177 => grd (0 ≤ w32 (S.2 + 1) ∧ w32 (S.2 + 1) < (L : Int)) ((f_X10_came S.1 l2 ((xs (w32 (S.2 + 1)).toNat).toInt)).bind fun r179 => grd (w32 r177 = w32 r179) (f_L_law_1093 L xs S.1 l1 l2 S.2))) else (if w32 (iand ((xs (w32 S.2).toNat).toInt) 31) = 23 then grd (0 ≤ w32 (S.2 + 1) ∧ w32 (S.2 + 1) < (L : Int)) ((f_X9_ends S.1 l1 ((xs (w32 (S.2 + 1)).toNat).toInt)).bind fun r183 => grd (0 ≤ w32 (S.2 + 1) ∧ w32 (S.2 + 1) < (L : Int)) ((f_X10_ends S.1 l2 ((xs (w32 (S.2 + 1)).toNat).toInt)).bind fun r185 => grd (w32 r183 = w32 r185) (f_L_law_1093 L xs S.1 l1 l2 S.2))) else (if w32 (iand ((xs (w32 S.2).toNat).toInt) 31) = 24 then (f_X9_ahead S.1 l1).bind fun r188 => (f_X10_ahead S.1 l2).bind fun r189 => grd (w32 r188 = w32 r189) (f_L_law_1093 L xs S.1 l1 l2 S.2) else (if w32 (iand ((xs (w32 S.2).toNat).toInt) 31) = 25 then grd (0 ≤ w32 (S.2 + 1) ∧ w32 (S.2 + 1) < (L : Int)) (grd (0 ≤ w32 (S.2 + 2) ∧ w32 (S.2 + 2) < (L : Int)) (grd (0 ≤ w32 (S.2 + 3) ∧ w32 (S.2 + 3) < (L : Int)) ((f_X9_act S.1 l1 ((xs (w32 (S.2 + 1)).toNat).toInt) ((xs (w32 (S.2 + 2)).toNat).toInt) ((xs (w32 (S.2 + 3)).toNat).toInt)).bind fun r195 => grd (0 ≤ w32 (S.2 + 1) ∧ w32 (S.2 + 1) < (L : Int)) (grd (0 ≤ w32 (S.2 + 2) ∧ w32 (S.2 + 2) < (L : Int)) (grd (0 ≤ w32 (S.2 + 3) ∧ w32 (S.2 + 3) < (L : Int)) ((f_X10_act r195.2 l2 ((xs (w32 (S.2 + 1)).toNat).toInt) ((xs (w32 (S.2 + 2)).toNat).toInt) ((xs (w32 (S.2 + 3)).toNat).toInt)).bind fun r199 => grd (w32 r195.1 = w32 r199.1) (f_L_law_1093 L xs r199.2 l1 l2 S.2))))))) else (if w32 (iand ((xs (w32 S.2).toNat).toInt) 31) = 26 then grd (0 ≤ w32 (S.2 + 1) ∧ w32 (S.2 + 1) < (L : Int)) ((f_X9_trace S.1 l1 ((xs (w32 (S.2 + 1)).toNat).toInt)).bind fun r203 => grd (0 ≤ w32 (S.2 + 1) ∧ w32 (S.2 + 1) < (L : Int)) ((f_X10_trace S.1 l2 ((xs (w32 (S.2 + 1)).toNat).toInt)).bind fun r205 => grd (w32 r203 = w32 r205) (f_L_law_1093 L xs S.1 l1 l2 S.2))) else (if w32 (iand ((xs (w32 S.2).toNat).toInt) 31) = 27 then grd (0 ≤ w32 (S.2 + 1) ∧ w32 (S.2 + 1) < (L : Int)) (grd (0 ≤ w32 (S.2 + 2) ∧ w32 (S.2 + 2) < (L : Int)) ((f_X9_as S.1 l1 ((xs (w32 (S.2 + 1)).toNat).toInt) ((xs (w32 (S.2 + 2)).toNat).toInt)).bind fun r210 => grd (0 ≤ w32 (S.2 + 1) ∧ w32 (S.2 + 1) < (L : Int)) (grd (0 ≤ w32 (S.2 + 2) ∧ w32 (S.2 + 2) < (L : Int)) ((f_X10_as S.1 l2 ((xs (w32 (S.2 + 1)).toNat).toInt) ((xs (w32 (S.2 + 2)).toNat).toInt)).bind fun r213 => grd (w32 r210 = w32 r213) (f_L_law_1093 L xs S.1 l1 l2 S.2))))) else (if w32 (iand ((xs (w32 S.2).toNat).toInt) 31) = 28 then (f_X9_image S.1 l1).bind fun r216 => (f_X10_image r216.2 l2).bind fun r217 => grd (w32 r216.1 = w32 r217.1) (f_L_law_1093 L xs r217.2 l1 l2 S.2) else (if w32 (iand ((xs (w32 S.2).toNat).toInt) 31) = 29 then (f_X9_undo S.1 l1).bind fun r220 => (f_X10_undo r220.2 l2).bind fun r221 => grd (w32 r220.1 = w32 r221.1) (f_L_law_1093 L xs r221.2 l1 l2 S.2) else (if w32 (iand ((xs (w32 S.2).toNat).toInt) 31) = 30 then grd (0 ≤ w32 (S.2 + 1) ∧ w32 (S.2 + 1) < (L : Int)) ((f_X9_count S.1 l1 ((xs (w32 (S.2 + 1)).toNat).toInt)).bind fun r225 => grd (0 ≤ w32 (S.2 + 1) ∧ w32 (S.2 + 1) < (L : Int)) ((f_X10_count S.1 l2 ((xs (w32 (S.2 + 1)).toNat).toInt)).bind fun r227 => grd (w32 r225 = w32 r227) (f_L_law_1093 L xs S.1 l1 l2 S.2))) else f_L_law_1093 L xs S.1 l1 l2 S.2)))))))))))))))))))))))))))))))))
theorem kM_6_9 : Cond.methodLink RL 13 yX9_feed ∈ wsL_law := cin6 _ (List.mem_of_getElem? (i := 9) rfl)
theorem kI_6_10 : Cond.instanceMethod yX9_feed ∈ wsL_law := cin6 _ (List.mem_of_getElem? (i := 10) rfl)
theorem kS_6_11 : Cond.selects RX9 yX9_feed yX9_feed ∈ wsL_law := cin6 _ (List.mem_of_getElem? (i := 11) rfl)
theorem kC_6_12 : Cond.code yX9_feed cX9_feed 2 (some .int) ∈ wsL_law := cin6 _ (List.mem_of_getElem? (i := 12) rfl)
theorem kM_6_19 : Cond.methodLink RL 17 yX10_feed ∈ wsL_law := cin6 _ (List.mem_of_getElem? (i := 19) rfl)
theorem kI_6_20 : Cond.instanceMethod yX10_feed ∈ wsL_law := cin6 _ (List.mem_of_getElem? (i := 20) rfl)
theorem kS_6_21 : Cond.selects RX10 yX10_feed yX10_feed ∈ wsL_law := cin6 _ (List.mem_of_getElem? (i := 21) rfl)
theorem kC_6_22 : Cond.code yX10_feed cX10_feed 2 (some .int) ∈ wsL_law := cin6 _ (List.mem_of_getElem? (i := 22) rfl)
theorem kM_7_2 : Cond.methodLink RL 18 yX9_stall ∈ wsL_law := cin7 _ (List.mem_of_getElem? (i := 2) rfl)
theorem kI_7_3 : Cond.instanceMethod yX9_stall ∈ wsL_law := cin7 _ (List.mem_of_getElem? (i := 3) rfl)
theorem kS_7_4 : Cond.selects RX9 yX9_stall yX9_stall ∈ wsL_law := cin7 _ (List.mem_of_getElem? (i := 4) rfl)
theorem kC_7_5 : Cond.code yX9_stall cX9_stall 2 (some .int) ∈ wsL_law := cin7 _ (List.mem_of_getElem? (i := 5) rfl)
theorem kM_12_9 : Cond.methodLink RL 22 yX10_stall ∈ wsL_law := cin12 _ (List.mem_of_getElem? (i := 9) rfl)
theorem kI_12_10 : Cond.instanceMethod yX10_stall ∈ wsL_law := cin12 _ (List.mem_of_getElem? (i := 10) rfl)
theorem kS_12_11 : Cond.selects RX10 yX10_stall yX10_stall ∈ wsL_law := cin12 _ (List.mem_of_getElem? (i := 11) rfl)
theorem kC_12_12 : Cond.code yX10_stall cX10_stall 2 (some .int) ∈ wsL_law := cin12 _ (List.mem_of_getElem? (i := 12) rfl)
theorem kM_14_16 : Cond.methodLink RL 23 yX9_day ∈ wsL_law := cin14 _ (List.mem_of_getElem? (i := 16) rfl)
theorem kI_14_17 : Cond.instanceMethod yX9_day ∈ wsL_law := cin14 _ (List.mem_of_getElem? (i := 17) rfl)
theorem kS_14_18 : Cond.selects RX9 yX9_day yX9_day ∈ wsL_law := cin14 _ (List.mem_of_getElem? (i := 18) rfl)
theorem kC_14_19 : Cond.code yX9_day cX9_day 3 (some .int) ∈ wsL_law := cin14 _ (List.mem_of_getElem? (i := 19) rfl)
theorem kM_14_21 : Cond.methodLink RL 26 yX10_day ∈ wsL_law := cin14 _ (List.mem_of_getElem? (i := 21) rfl)
theorem kI_14_22 : Cond.instanceMethod yX10_day ∈ wsL_law := cin14 _ (List.mem_of_getElem? (i := 22) rfl)
theorem kS_14_23 : Cond.selects RX10 yX10_day yX10_day ∈ wsL_law := cin14 _ (List.mem_of_getElem? (i := 23) rfl)
theorem kC_15_0 : Cond.code yX10_day cX10_day 3 (some .int) ∈ wsL_law := cin15 _ (List.mem_of_getElem? (i := 0) rfl)
theorem kM_15_1 : Cond.methodLink RL 27 yX9_told ∈ wsL_law := cin15 _ (List.mem_of_getElem? (i := 1) rfl)
theorem kI_15_2 : Cond.instanceMethod yX9_told ∈ wsL_law := cin15 _ (List.mem_of_getElem? (i := 2) rfl)
theorem kS_15_3 : Cond.selects RX9 yX9_told yX9_told ∈ wsL_law := cin15 _ (List.mem_of_getElem? (i := 3) rfl)
theorem kC_15_4 : Cond.code yX9_told cX9_told 2 (some .int) ∈ wsL_law := cin15 _ (List.mem_of_getElem? (i := 4) rfl)
theorem kM_16_5 : Cond.methodLink RL 30 yX10_told ∈ wsL_law := cin16 _ (List.mem_of_getElem? (i := 5) rfl)
theorem kI_16_6 : Cond.instanceMethod yX10_told ∈ wsL_law := cin16 _ (List.mem_of_getElem? (i := 6) rfl)
theorem kS_16_7 : Cond.selects RX10 yX10_told yX10_told ∈ wsL_law := cin16 _ (List.mem_of_getElem? (i := 7) rfl)
theorem kC_16_8 : Cond.code yX10_told cX10_told 2 (some .int) ∈ wsL_law := cin16 _ (List.mem_of_getElem? (i := 8) rfl)
theorem kM_17_2 : Cond.methodLink RL 31 yX9_sign ∈ wsL_law := cin17 _ (List.mem_of_getElem? (i := 2) rfl)
theorem kI_17_3 : Cond.instanceMethod yX9_sign ∈ wsL_law := cin17 _ (List.mem_of_getElem? (i := 3) rfl)
theorem kS_17_4 : Cond.selects RX9 yX9_sign yX9_sign ∈ wsL_law := cin17 _ (List.mem_of_getElem? (i := 4) rfl)
theorem kC_17_5 : Cond.code yX9_sign cX9_sign 2 (some .int) ∈ wsL_law := cin17 _ (List.mem_of_getElem? (i := 5) rfl)
theorem kM_17_21 : Cond.methodLink RL 34 yX10_sign ∈ wsL_law := cin17 _ (List.mem_of_getElem? (i := 21) rfl)
theorem kI_17_22 : Cond.instanceMethod yX10_sign ∈ wsL_law := cin17 _ (List.mem_of_getElem? (i := 22) rfl)
theorem kS_17_23 : Cond.selects RX10 yX10_sign yX10_sign ∈ wsL_law := cin17 _ (List.mem_of_getElem? (i := 23) rfl)
theorem kC_18_0 : Cond.code yX10_sign cX10_sign 2 (some .int) ∈ wsL_law := cin18 _ (List.mem_of_getElem? (i := 0) rfl)
theorem kM_18_1 : Cond.methodLink RL 35 yX9_row ∈ wsL_law := cin18 _ (List.mem_of_getElem? (i := 1) rfl)
theorem kI_18_2 : Cond.instanceMethod yX9_row ∈ wsL_law := cin18 _ (List.mem_of_getElem? (i := 2) rfl)
theorem kS_18_3 : Cond.selects RX9 yX9_row yX9_row ∈ wsL_law := cin18 _ (List.mem_of_getElem? (i := 3) rfl)
theorem kC_18_4 : Cond.code yX9_row cX9_row 1 (some .int) ∈ wsL_law := cin18 _ (List.mem_of_getElem? (i := 4) rfl)
theorem kM_18_11 : Cond.methodLink RL 38 yX10_row ∈ wsL_law := cin18 _ (List.mem_of_getElem? (i := 11) rfl)
theorem kI_18_12 : Cond.instanceMethod yX10_row ∈ wsL_law := cin18 _ (List.mem_of_getElem? (i := 12) rfl)
theorem kS_18_13 : Cond.selects RX10 yX10_row yX10_row ∈ wsL_law := cin18 _ (List.mem_of_getElem? (i := 13) rfl)
theorem kC_18_14 : Cond.code yX10_row cX10_row 3 (some .int) ∈ wsL_law := cin18 _ (List.mem_of_getElem? (i := 14) rfl)
theorem kM_18_15 : Cond.methodLink RL 39 yX9_of ∈ wsL_law := cin18 _ (List.mem_of_getElem? (i := 15) rfl)
theorem kI_18_16 : Cond.instanceMethod yX9_of ∈ wsL_law := cin18 _ (List.mem_of_getElem? (i := 16) rfl)
theorem kS_18_17 : Cond.selects RX9 yX9_of yX9_of ∈ wsL_law := cin18 _ (List.mem_of_getElem? (i := 17) rfl)
theorem kC_18_18 : Cond.code yX9_of cX9_of 3 (some .int) ∈ wsL_law := cin18 _ (List.mem_of_getElem? (i := 18) rfl)
theorem kM_19_7 : Cond.methodLink RL 43 yX10_of ∈ wsL_law := cin19 _ (List.mem_of_getElem? (i := 7) rfl)
theorem kI_19_8 : Cond.instanceMethod yX10_of ∈ wsL_law := cin19 _ (List.mem_of_getElem? (i := 8) rfl)
theorem kS_19_9 : Cond.selects RX10 yX10_of yX10_of ∈ wsL_law := cin19 _ (List.mem_of_getElem? (i := 9) rfl)
theorem kC_19_10 : Cond.code yX10_of cX10_of 3 (some .int) ∈ wsL_law := cin19 _ (List.mem_of_getElem? (i := 10) rfl)
theorem kM_19_15 : Cond.methodLink RL 44 yX9_player ∈ wsL_law := cin19 _ (List.mem_of_getElem? (i := 15) rfl)
theorem kI_19_16 : Cond.instanceMethod yX9_player ∈ wsL_law := cin19 _ (List.mem_of_getElem? (i := 16) rfl)
theorem kS_19_17 : Cond.selects RX9 yX9_player yX9_player ∈ wsL_law := cin19 _ (List.mem_of_getElem? (i := 17) rfl)
theorem kC_19_18 : Cond.code yX9_player cX9_player 3 (some .int) ∈ wsL_law := cin19 _ (List.mem_of_getElem? (i := 18) rfl)
theorem kM_20_1 : Cond.methodLink RL 47 yX10_player ∈ wsL_law := cin20 _ (List.mem_of_getElem? (i := 1) rfl)
theorem kI_20_2 : Cond.instanceMethod yX10_player ∈ wsL_law := cin20 _ (List.mem_of_getElem? (i := 2) rfl)
theorem kS_20_3 : Cond.selects RX10 yX10_player yX10_player ∈ wsL_law := cin20 _ (List.mem_of_getElem? (i := 3) rfl)
theorem kC_20_4 : Cond.code yX10_player cX10_player 4 (some .int) ∈ wsL_law := cin20 _ (List.mem_of_getElem? (i := 4) rfl)
theorem kM_20_5 : Cond.methodLink RL 48 yX9_own ∈ wsL_law := cin20 _ (List.mem_of_getElem? (i := 5) rfl)
theorem kI_20_6 : Cond.instanceMethod yX9_own ∈ wsL_law := cin20 _ (List.mem_of_getElem? (i := 6) rfl)
theorem kS_20_7 : Cond.selects RX9 yX9_own yX9_own ∈ wsL_law := cin20 _ (List.mem_of_getElem? (i := 7) rfl)
theorem kC_20_8 : Cond.code yX9_own cX9_own 2 (some .int) ∈ wsL_law := cin20 _ (List.mem_of_getElem? (i := 8) rfl)
theorem kM_20_15 : Cond.methodLink RL 51 yX10_own ∈ wsL_law := cin20 _ (List.mem_of_getElem? (i := 15) rfl)
theorem kI_20_16 : Cond.instanceMethod yX10_own ∈ wsL_law := cin20 _ (List.mem_of_getElem? (i := 16) rfl)
theorem kS_20_17 : Cond.selects RX10 yX10_own yX10_own ∈ wsL_law := cin20 _ (List.mem_of_getElem? (i := 17) rfl)
theorem kC_20_18 : Cond.code yX10_own cX10_own 3 (some .int) ∈ wsL_law := cin20 _ (List.mem_of_getElem? (i := 18) rfl)
theorem kM_20_23 : Cond.methodLink RL 52 yX9_waits ∈ wsL_law := cin20 _ (List.mem_of_getElem? (i := 23) rfl)
theorem kI_21_0 : Cond.instanceMethod yX9_waits ∈ wsL_law := cin21 _ (List.mem_of_getElem? (i := 0) rfl)
theorem kS_21_1 : Cond.selects RX9 yX9_waits yX9_waits ∈ wsL_law := cin21 _ (List.mem_of_getElem? (i := 1) rfl)
theorem kC_21_2 : Cond.code yX9_waits cX9_waits 4 (some .long) ∈ wsL_law := cin21 _ (List.mem_of_getElem? (i := 2) rfl)
theorem kM_22_19 : Cond.methodLink RL 56 yX10_waits ∈ wsL_law := cin22 _ (List.mem_of_getElem? (i := 19) rfl)
theorem kI_22_20 : Cond.instanceMethod yX10_waits ∈ wsL_law := cin22 _ (List.mem_of_getElem? (i := 20) rfl)
theorem kS_22_21 : Cond.selects RX10 yX10_waits yX10_waits ∈ wsL_law := cin22 _ (List.mem_of_getElem? (i := 21) rfl)
theorem kC_22_22 : Cond.code yX10_waits cX10_waits 3 (some .long) ∈ wsL_law := cin22 _ (List.mem_of_getElem? (i := 22) rfl)
theorem kM_24_2 : Cond.methodLink RL 57 yX9_odds ∈ wsL_law := cin24 _ (List.mem_of_getElem? (i := 2) rfl)
theorem kI_24_3 : Cond.instanceMethod yX9_odds ∈ wsL_law := cin24 _ (List.mem_of_getElem? (i := 3) rfl)
theorem kS_24_4 : Cond.selects RX9 yX9_odds yX9_odds ∈ wsL_law := cin24 _ (List.mem_of_getElem? (i := 4) rfl)
theorem kC_24_5 : Cond.code yX9_odds cX9_odds 4 (some .long) ∈ wsL_law := cin24 _ (List.mem_of_getElem? (i := 5) rfl)
theorem kM_25_11 : Cond.methodLink RL 61 yX10_odds ∈ wsL_law := cin25 _ (List.mem_of_getElem? (i := 11) rfl)
theorem kI_25_12 : Cond.instanceMethod yX10_odds ∈ wsL_law := cin25 _ (List.mem_of_getElem? (i := 12) rfl)
theorem kS_25_13 : Cond.selects RX10 yX10_odds yX10_odds ∈ wsL_law := cin25 _ (List.mem_of_getElem? (i := 13) rfl)
theorem kC_25_14 : Cond.code yX10_odds cX10_odds 4 (some .long) ∈ wsL_law := cin25 _ (List.mem_of_getElem? (i := 14) rfl)
theorem kM_26_9 : Cond.methodLink RL 62 yX9_lasts ∈ wsL_law := cin26 _ (List.mem_of_getElem? (i := 9) rfl)
theorem kI_26_10 : Cond.instanceMethod yX9_lasts ∈ wsL_law := cin26 _ (List.mem_of_getElem? (i := 10) rfl)
theorem kS_26_11 : Cond.selects RX9 yX9_lasts yX9_lasts ∈ wsL_law := cin26 _ (List.mem_of_getElem? (i := 11) rfl)
theorem kC_26_12 : Cond.code yX9_lasts cX9_lasts 4 (some .long) ∈ wsL_law := cin26 _ (List.mem_of_getElem? (i := 12) rfl)
theorem kM_26_14 : Cond.methodLink RL 65 yX10_lasts ∈ wsL_law := cin26 _ (List.mem_of_getElem? (i := 14) rfl)
theorem kI_26_15 : Cond.instanceMethod yX10_lasts ∈ wsL_law := cin26 _ (List.mem_of_getElem? (i := 15) rfl)
theorem kS_26_16 : Cond.selects RX10 yX10_lasts yX10_lasts ∈ wsL_law := cin26 _ (List.mem_of_getElem? (i := 16) rfl)
theorem kC_26_17 : Cond.code yX10_lasts cX10_lasts 6 (some .long) ∈ wsL_law := cin26 _ (List.mem_of_getElem? (i := 17) rfl)
theorem kM_26_22 : Cond.methodLink RL 66 yX9_half ∈ wsL_law := cin26 _ (List.mem_of_getElem? (i := 22) rfl)
theorem kI_26_23 : Cond.instanceMethod yX9_half ∈ wsL_law := cin26 _ (List.mem_of_getElem? (i := 23) rfl)
theorem kS_27_0 : Cond.selects RX9 yX9_half yX9_half ∈ wsL_law := cin27 _ (List.mem_of_getElem? (i := 0) rfl)
theorem kC_27_1 : Cond.code yX9_half cX9_half 11 (some .long) ∈ wsL_law := cin27 _ (List.mem_of_getElem? (i := 1) rfl)
theorem kM_27_7 : Cond.methodLink RL 69 yX10_half ∈ wsL_law := cin27 _ (List.mem_of_getElem? (i := 7) rfl)
theorem kI_27_8 : Cond.instanceMethod yX10_half ∈ wsL_law := cin27 _ (List.mem_of_getElem? (i := 8) rfl)
theorem kS_27_9 : Cond.selects RX10 yX10_half yX10_half ∈ wsL_law := cin27 _ (List.mem_of_getElem? (i := 9) rfl)
theorem kC_27_10 : Cond.code yX10_half cX10_half 6 (some .long) ∈ wsL_law := cin27 _ (List.mem_of_getElem? (i := 10) rfl)
theorem kM_27_15 : Cond.methodLink RL 70 yX9_worth ∈ wsL_law := cin27 _ (List.mem_of_getElem? (i := 15) rfl)
theorem kI_27_16 : Cond.instanceMethod yX9_worth ∈ wsL_law := cin27 _ (List.mem_of_getElem? (i := 16) rfl)
theorem kS_27_17 : Cond.selects RX9 yX9_worth yX9_worth ∈ wsL_law := cin27 _ (List.mem_of_getElem? (i := 17) rfl)
theorem kC_27_18 : Cond.code yX9_worth cX9_worth 6 (some .long) ∈ wsL_law := cin27 _ (List.mem_of_getElem? (i := 18) rfl)
theorem kM_27_19 : Cond.methodLink RL 73 yX10_worth ∈ wsL_law := cin27 _ (List.mem_of_getElem? (i := 19) rfl)
theorem kI_27_20 : Cond.instanceMethod yX10_worth ∈ wsL_law := cin27 _ (List.mem_of_getElem? (i := 20) rfl)
theorem kS_27_21 : Cond.selects RX10 yX10_worth yX10_worth ∈ wsL_law := cin27 _ (List.mem_of_getElem? (i := 21) rfl)
theorem kC_27_22 : Cond.code yX10_worth cX10_worth 8 (some .long) ∈ wsL_law := cin27 _ (List.mem_of_getElem? (i := 22) rfl)
theorem kM_27_23 : Cond.methodLink RL 74 yX9_best ∈ wsL_law := cin27 _ (List.mem_of_getElem? (i := 23) rfl)
theorem kI_28_0 : Cond.instanceMethod yX9_best ∈ wsL_law := cin28 _ (List.mem_of_getElem? (i := 0) rfl)
theorem kS_28_1 : Cond.selects RX9 yX9_best yX9_best ∈ wsL_law := cin28 _ (List.mem_of_getElem? (i := 1) rfl)
theorem kC_28_2 : Cond.code yX9_best cX9_best 5 (some .int) ∈ wsL_law := cin28 _ (List.mem_of_getElem? (i := 2) rfl)
theorem kM_29_9 : Cond.methodLink RL 78 yX10_best ∈ wsL_law := cin29 _ (List.mem_of_getElem? (i := 9) rfl)
theorem kI_29_10 : Cond.instanceMethod yX10_best ∈ wsL_law := cin29 _ (List.mem_of_getElem? (i := 10) rfl)
theorem kS_29_11 : Cond.selects RX10 yX10_best yX10_best ∈ wsL_law := cin29 _ (List.mem_of_getElem? (i := 11) rfl)
theorem kC_29_12 : Cond.code yX10_best cX10_best 4 (some .int) ∈ wsL_law := cin29 _ (List.mem_of_getElem? (i := 12) rfl)
theorem kM_30_12 : Cond.methodLink RL 79 yX9_ring ∈ wsL_law := cin30 _ (List.mem_of_getElem? (i := 12) rfl)
theorem kI_30_13 : Cond.instanceMethod yX9_ring ∈ wsL_law := cin30 _ (List.mem_of_getElem? (i := 13) rfl)
theorem kS_30_14 : Cond.selects RX9 yX9_ring yX9_ring ∈ wsL_law := cin30 _ (List.mem_of_getElem? (i := 14) rfl)
theorem kC_30_15 : Cond.code yX9_ring cX9_ring 7 (some .int) ∈ wsL_law := cin30 _ (List.mem_of_getElem? (i := 15) rfl)
theorem kM_30_21 : Cond.methodLink RL 82 yX10_ring ∈ wsL_law := cin30 _ (List.mem_of_getElem? (i := 21) rfl)
theorem kI_30_22 : Cond.instanceMethod yX10_ring ∈ wsL_law := cin30 _ (List.mem_of_getElem? (i := 22) rfl)
theorem kS_30_23 : Cond.selects RX10 yX10_ring yX10_ring ∈ wsL_law := cin30 _ (List.mem_of_getElem? (i := 23) rfl)
theorem kC_31_0 : Cond.code yX10_ring cX10_ring 4 (some .int) ∈ wsL_law := cin31 _ (List.mem_of_getElem? (i := 0) rfl)
theorem kM_31_5 : Cond.methodLink RL 83 yX9_pick ∈ wsL_law := cin31 _ (List.mem_of_getElem? (i := 5) rfl)
theorem kI_31_6 : Cond.instanceMethod yX9_pick ∈ wsL_law := cin31 _ (List.mem_of_getElem? (i := 6) rfl)
theorem kS_31_7 : Cond.selects RX9 yX9_pick yX9_pick ∈ wsL_law := cin31 _ (List.mem_of_getElem? (i := 7) rfl)
theorem kC_31_8 : Cond.code yX9_pick cX9_pick 5 (some .int) ∈ wsL_law := cin31 _ (List.mem_of_getElem? (i := 8) rfl)
theorem kM_32_16 : Cond.methodLink RL 86 yX10_pick ∈ wsL_law := cin32 _ (List.mem_of_getElem? (i := 16) rfl)
theorem kI_32_17 : Cond.instanceMethod yX10_pick ∈ wsL_law := cin32 _ (List.mem_of_getElem? (i := 17) rfl)
theorem kS_32_18 : Cond.selects RX10 yX10_pick yX10_pick ∈ wsL_law := cin32 _ (List.mem_of_getElem? (i := 18) rfl)
theorem kC_32_19 : Cond.code yX10_pick cX10_pick 5 (some .int) ∈ wsL_law := cin32 _ (List.mem_of_getElem? (i := 19) rfl)
theorem kM_33_8 : Cond.methodLink RL 87 yX9_fair ∈ wsL_law := cin33 _ (List.mem_of_getElem? (i := 8) rfl)
theorem kI_33_9 : Cond.instanceMethod yX9_fair ∈ wsL_law := cin33 _ (List.mem_of_getElem? (i := 9) rfl)
theorem kS_33_10 : Cond.selects RX9 yX9_fair yX9_fair ∈ wsL_law := cin33 _ (List.mem_of_getElem? (i := 10) rfl)
theorem kC_33_11 : Cond.code yX9_fair cX9_fair 5 (some .int) ∈ wsL_law := cin33 _ (List.mem_of_getElem? (i := 11) rfl)
theorem kM_33_21 : Cond.methodLink RL 90 yX10_fair ∈ wsL_law := cin33 _ (List.mem_of_getElem? (i := 21) rfl)
theorem kI_33_22 : Cond.instanceMethod yX10_fair ∈ wsL_law := cin33 _ (List.mem_of_getElem? (i := 22) rfl)
theorem kS_33_23 : Cond.selects RX10 yX10_fair yX10_fair ∈ wsL_law := cin33 _ (List.mem_of_getElem? (i := 23) rfl)
theorem kC_34_0 : Cond.code yX10_fair cX10_fair 11 (some .int) ∈ wsL_law := cin34 _ (List.mem_of_getElem? (i := 0) rfl)
theorem kM_34_1 : Cond.methodLink RL 91 yX9_within ∈ wsL_law := cin34 _ (List.mem_of_getElem? (i := 1) rfl)
theorem kI_34_2 : Cond.instanceMethod yX9_within ∈ wsL_law := cin34 _ (List.mem_of_getElem? (i := 2) rfl)
theorem kS_34_3 : Cond.selects RX9 yX9_within yX9_within ∈ wsL_law := cin34 _ (List.mem_of_getElem? (i := 3) rfl)
theorem kC_34_4 : Cond.code yX9_within cX9_within 4 (some .long) ∈ wsL_law := cin34 _ (List.mem_of_getElem? (i := 4) rfl)
theorem kM_36_0 : Cond.methodLink RL 94 yX10_within ∈ wsL_law := cin36 _ (List.mem_of_getElem? (i := 0) rfl)
theorem kI_36_1 : Cond.instanceMethod yX10_within ∈ wsL_law := cin36 _ (List.mem_of_getElem? (i := 1) rfl)
theorem kS_36_2 : Cond.selects RX10 yX10_within yX10_within ∈ wsL_law := cin36 _ (List.mem_of_getElem? (i := 2) rfl)
theorem kC_36_3 : Cond.code yX10_within cX10_within 9 (some .long) ∈ wsL_law := cin36 _ (List.mem_of_getElem? (i := 3) rfl)
theorem kM_37_3 : Cond.methodLink RL 95 yX9_often ∈ wsL_law := cin37 _ (List.mem_of_getElem? (i := 3) rfl)
theorem kI_37_4 : Cond.instanceMethod yX9_often ∈ wsL_law := cin37 _ (List.mem_of_getElem? (i := 4) rfl)
theorem kS_37_5 : Cond.selects RX9 yX9_often yX9_often ∈ wsL_law := cin37 _ (List.mem_of_getElem? (i := 5) rfl)
theorem kC_37_6 : Cond.code yX9_often cX9_often 7 (some .long) ∈ wsL_law := cin37 _ (List.mem_of_getElem? (i := 6) rfl)
theorem kM_37_10 : Cond.methodLink RL 98 yX10_often ∈ wsL_law := cin37 _ (List.mem_of_getElem? (i := 10) rfl)
theorem kI_37_11 : Cond.instanceMethod yX10_often ∈ wsL_law := cin37 _ (List.mem_of_getElem? (i := 11) rfl)
theorem kS_37_12 : Cond.selects RX10 yX10_often yX10_often ∈ wsL_law := cin37 _ (List.mem_of_getElem? (i := 12) rfl)
theorem kC_37_13 : Cond.code yX10_often cX10_often 7 (some .long) ∈ wsL_law := cin37 _ (List.mem_of_getElem? (i := 13) rfl)
theorem kM_37_14 : Cond.methodLink RL 99 yX9_free ∈ wsL_law := cin37 _ (List.mem_of_getElem? (i := 14) rfl)
theorem kI_37_15 : Cond.instanceMethod yX9_free ∈ wsL_law := cin37 _ (List.mem_of_getElem? (i := 15) rfl)
theorem kS_37_16 : Cond.selects RX9 yX9_free yX9_free ∈ wsL_law := cin37 _ (List.mem_of_getElem? (i := 16) rfl)
theorem kC_37_17 : Cond.code yX9_free cX9_free 2 (some .long) ∈ wsL_law := cin37 _ (List.mem_of_getElem? (i := 17) rfl)
theorem kM_37_22 : Cond.methodLink RL 103 yX10_free ∈ wsL_law := cin37 _ (List.mem_of_getElem? (i := 22) rfl)
theorem kI_37_23 : Cond.instanceMethod yX10_free ∈ wsL_law := cin37 _ (List.mem_of_getElem? (i := 23) rfl)
theorem kS_38_0 : Cond.selects RX10 yX10_free yX10_free ∈ wsL_law := cin38 _ (List.mem_of_getElem? (i := 0) rfl)
theorem kC_38_1 : Cond.code yX10_free cX10_free 5 (some .long) ∈ wsL_law := cin38 _ (List.mem_of_getElem? (i := 1) rfl)
theorem kM_38_2 : Cond.methodLink RL 104 yX9_toss ∈ wsL_law := cin38 _ (List.mem_of_getElem? (i := 2) rfl)
theorem kI_38_3 : Cond.instanceMethod yX9_toss ∈ wsL_law := cin38 _ (List.mem_of_getElem? (i := 3) rfl)
theorem kS_38_4 : Cond.selects RX9 yX9_toss yX9_toss ∈ wsL_law := cin38 _ (List.mem_of_getElem? (i := 4) rfl)
theorem kC_38_5 : Cond.code yX9_toss cX9_toss 2 (some .int) ∈ wsL_law := cin38 _ (List.mem_of_getElem? (i := 5) rfl)
theorem kM_38_6 : Cond.methodLink RL 107 yX10_toss ∈ wsL_law := cin38 _ (List.mem_of_getElem? (i := 6) rfl)
theorem kI_38_7 : Cond.instanceMethod yX10_toss ∈ wsL_law := cin38 _ (List.mem_of_getElem? (i := 7) rfl)
theorem kS_38_8 : Cond.selects RX10 yX10_toss yX10_toss ∈ wsL_law := cin38 _ (List.mem_of_getElem? (i := 8) rfl)
theorem kC_38_9 : Cond.code yX10_toss cX10_toss 2 (some .int) ∈ wsL_law := cin38 _ (List.mem_of_getElem? (i := 9) rfl)
theorem kM_38_10 : Cond.methodLink RL 108 yX9_came ∈ wsL_law := cin38 _ (List.mem_of_getElem? (i := 10) rfl)
theorem kI_38_11 : Cond.instanceMethod yX9_came ∈ wsL_law := cin38 _ (List.mem_of_getElem? (i := 11) rfl)
theorem kS_38_12 : Cond.selects RX9 yX9_came yX9_came ∈ wsL_law := cin38 _ (List.mem_of_getElem? (i := 12) rfl)
theorem kC_38_13 : Cond.code yX9_came cX9_came 3 (some .int) ∈ wsL_law := cin38 _ (List.mem_of_getElem? (i := 13) rfl)
theorem kM_38_15 : Cond.methodLink RL 111 yX10_came ∈ wsL_law := cin38 _ (List.mem_of_getElem? (i := 15) rfl)
theorem kI_38_16 : Cond.instanceMethod yX10_came ∈ wsL_law := cin38 _ (List.mem_of_getElem? (i := 16) rfl)
theorem kS_38_17 : Cond.selects RX10 yX10_came yX10_came ∈ wsL_law := cin38 _ (List.mem_of_getElem? (i := 17) rfl)
theorem kC_38_18 : Cond.code yX10_came cX10_came 2 (some .int) ∈ wsL_law := cin38 _ (List.mem_of_getElem? (i := 18) rfl)
theorem kM_38_23 : Cond.methodLink RL 112 yX9_ends ∈ wsL_law := cin38 _ (List.mem_of_getElem? (i := 23) rfl)
theorem kI_39_0 : Cond.instanceMethod yX9_ends ∈ wsL_law := cin39 _ (List.mem_of_getElem? (i := 0) rfl)
theorem kS_39_1 : Cond.selects RX9 yX9_ends yX9_ends ∈ wsL_law := cin39 _ (List.mem_of_getElem? (i := 1) rfl)
theorem kC_39_2 : Cond.code yX9_ends cX9_ends 5 (some .int) ∈ wsL_law := cin39 _ (List.mem_of_getElem? (i := 2) rfl)
theorem kM_39_4 : Cond.methodLink RL 115 yX10_ends ∈ wsL_law := cin39 _ (List.mem_of_getElem? (i := 4) rfl)
theorem kI_39_5 : Cond.instanceMethod yX10_ends ∈ wsL_law := cin39 _ (List.mem_of_getElem? (i := 5) rfl)
theorem kS_39_6 : Cond.selects RX10 yX10_ends yX10_ends ∈ wsL_law := cin39 _ (List.mem_of_getElem? (i := 6) rfl)
theorem kC_39_7 : Cond.code yX10_ends cX10_ends 4 (some .int) ∈ wsL_law := cin39 _ (List.mem_of_getElem? (i := 7) rfl)
theorem kM_39_8 : Cond.methodLink RL 116 yX9_ahead ∈ wsL_law := cin39 _ (List.mem_of_getElem? (i := 8) rfl)
theorem kI_39_9 : Cond.instanceMethod yX9_ahead ∈ wsL_law := cin39 _ (List.mem_of_getElem? (i := 9) rfl)
theorem kS_39_10 : Cond.selects RX9 yX9_ahead yX9_ahead ∈ wsL_law := cin39 _ (List.mem_of_getElem? (i := 10) rfl)
theorem kC_39_11 : Cond.code yX9_ahead cX9_ahead 3 (some .int) ∈ wsL_law := cin39 _ (List.mem_of_getElem? (i := 11) rfl)
theorem kM_39_12 : Cond.methodLink RL 119 yX10_ahead ∈ wsL_law := cin39 _ (List.mem_of_getElem? (i := 12) rfl)
theorem kI_39_13 : Cond.instanceMethod yX10_ahead ∈ wsL_law := cin39 _ (List.mem_of_getElem? (i := 13) rfl)
theorem kS_39_14 : Cond.selects RX10 yX10_ahead yX10_ahead ∈ wsL_law := cin39 _ (List.mem_of_getElem? (i := 14) rfl)
theorem kC_39_15 : Cond.code yX10_ahead cX10_ahead 4 (some .int) ∈ wsL_law := cin39 _ (List.mem_of_getElem? (i := 15) rfl)
theorem kM_39_16 : Cond.methodLink RL 120 yX9_act ∈ wsL_law := cin39 _ (List.mem_of_getElem? (i := 16) rfl)
theorem kI_39_17 : Cond.instanceMethod yX9_act ∈ wsL_law := cin39 _ (List.mem_of_getElem? (i := 17) rfl)
theorem kS_39_18 : Cond.selects RX9 yX9_act yX9_act ∈ wsL_law := cin39 _ (List.mem_of_getElem? (i := 18) rfl)
theorem kC_39_19 : Cond.code yX9_act cX9_act 4 (some .int) ∈ wsL_law := cin39 _ (List.mem_of_getElem? (i := 19) rfl)
theorem kM_41_2 : Cond.methodLink RL 123 yX10_act ∈ wsL_law := cin41 _ (List.mem_of_getElem? (i := 2) rfl)
theorem kI_41_3 : Cond.instanceMethod yX10_act ∈ wsL_law := cin41 _ (List.mem_of_getElem? (i := 3) rfl)
theorem kS_41_4 : Cond.selects RX10 yX10_act yX10_act ∈ wsL_law := cin41 _ (List.mem_of_getElem? (i := 4) rfl)
theorem kC_41_5 : Cond.code yX10_act cX10_act 4 (some .int) ∈ wsL_law := cin41 _ (List.mem_of_getElem? (i := 5) rfl)
theorem kM_42_17 : Cond.methodLink RL 124 yX9_trace ∈ wsL_law := cin42 _ (List.mem_of_getElem? (i := 17) rfl)
theorem kI_42_18 : Cond.instanceMethod yX9_trace ∈ wsL_law := cin42 _ (List.mem_of_getElem? (i := 18) rfl)
theorem kS_42_19 : Cond.selects RX9 yX9_trace yX9_trace ∈ wsL_law := cin42 _ (List.mem_of_getElem? (i := 19) rfl)
theorem kC_42_20 : Cond.code yX9_trace cX9_trace 2 (some .int) ∈ wsL_law := cin42 _ (List.mem_of_getElem? (i := 20) rfl)
theorem kM_42_23 : Cond.methodLink RL 127 yX10_trace ∈ wsL_law := cin42 _ (List.mem_of_getElem? (i := 23) rfl)
theorem kI_43_0 : Cond.instanceMethod yX10_trace ∈ wsL_law := cin43 _ (List.mem_of_getElem? (i := 0) rfl)
theorem kS_43_1 : Cond.selects RX10 yX10_trace yX10_trace ∈ wsL_law := cin43 _ (List.mem_of_getElem? (i := 1) rfl)
theorem kC_43_2 : Cond.code yX10_trace cX10_trace 2 (some .int) ∈ wsL_law := cin43 _ (List.mem_of_getElem? (i := 2) rfl)
theorem kM_43_3 : Cond.methodLink RL 128 yX9_as ∈ wsL_law := cin43 _ (List.mem_of_getElem? (i := 3) rfl)
theorem kI_43_4 : Cond.instanceMethod yX9_as ∈ wsL_law := cin43 _ (List.mem_of_getElem? (i := 4) rfl)
theorem kS_43_5 : Cond.selects RX9 yX9_as yX9_as ∈ wsL_law := cin43 _ (List.mem_of_getElem? (i := 5) rfl)
theorem kC_43_6 : Cond.code yX9_as cX9_as 5 (some .int) ∈ wsL_law := cin43 _ (List.mem_of_getElem? (i := 6) rfl)
theorem kM_43_8 : Cond.methodLink RL 131 yX10_as ∈ wsL_law := cin43 _ (List.mem_of_getElem? (i := 8) rfl)
theorem kI_43_9 : Cond.instanceMethod yX10_as ∈ wsL_law := cin43 _ (List.mem_of_getElem? (i := 9) rfl)
theorem kS_43_10 : Cond.selects RX10 yX10_as yX10_as ∈ wsL_law := cin43 _ (List.mem_of_getElem? (i := 10) rfl)
theorem kC_43_11 : Cond.code yX10_as cX10_as 3 (some .int) ∈ wsL_law := cin43 _ (List.mem_of_getElem? (i := 11) rfl)
theorem kM_43_12 : Cond.methodLink RL 132 yX9_image ∈ wsL_law := cin43 _ (List.mem_of_getElem? (i := 12) rfl)
theorem kI_43_13 : Cond.instanceMethod yX9_image ∈ wsL_law := cin43 _ (List.mem_of_getElem? (i := 13) rfl)
theorem kS_43_14 : Cond.selects RX9 yX9_image yX9_image ∈ wsL_law := cin43 _ (List.mem_of_getElem? (i := 14) rfl)
theorem kC_43_15 : Cond.code yX9_image cX9_image 1 (some .int) ∈ wsL_law := cin43 _ (List.mem_of_getElem? (i := 15) rfl)
theorem kM_44_0 : Cond.methodLink RL 135 yX10_image ∈ wsL_law := cin44 _ (List.mem_of_getElem? (i := 0) rfl)
theorem kI_44_1 : Cond.instanceMethod yX10_image ∈ wsL_law := cin44 _ (List.mem_of_getElem? (i := 1) rfl)
theorem kS_44_2 : Cond.selects RX10 yX10_image yX10_image ∈ wsL_law := cin44 _ (List.mem_of_getElem? (i := 2) rfl)
theorem kC_44_3 : Cond.code yX10_image cX10_image 2 (some .int) ∈ wsL_law := cin44 _ (List.mem_of_getElem? (i := 3) rfl)
theorem kM_44_5 : Cond.methodLink RL 136 yX9_undo ∈ wsL_law := cin44 _ (List.mem_of_getElem? (i := 5) rfl)
theorem kI_44_6 : Cond.instanceMethod yX9_undo ∈ wsL_law := cin44 _ (List.mem_of_getElem? (i := 6) rfl)
theorem kS_44_7 : Cond.selects RX9 yX9_undo yX9_undo ∈ wsL_law := cin44 _ (List.mem_of_getElem? (i := 7) rfl)
theorem kC_44_8 : Cond.code yX9_undo cX9_undo 1 (some .int) ∈ wsL_law := cin44 _ (List.mem_of_getElem? (i := 8) rfl)
theorem kM_44_9 : Cond.methodLink RL 139 yX10_undo ∈ wsL_law := cin44 _ (List.mem_of_getElem? (i := 9) rfl)
theorem kI_44_10 : Cond.instanceMethod yX10_undo ∈ wsL_law := cin44 _ (List.mem_of_getElem? (i := 10) rfl)
theorem kS_44_11 : Cond.selects RX10 yX10_undo yX10_undo ∈ wsL_law := cin44 _ (List.mem_of_getElem? (i := 11) rfl)
theorem kC_44_12 : Cond.code yX10_undo cX10_undo 2 (some .int) ∈ wsL_law := cin44 _ (List.mem_of_getElem? (i := 12) rfl)
theorem kM_44_13 : Cond.methodLink RL 140 yX9_count ∈ wsL_law := cin44 _ (List.mem_of_getElem? (i := 13) rfl)
theorem kI_44_14 : Cond.instanceMethod yX9_count ∈ wsL_law := cin44 _ (List.mem_of_getElem? (i := 14) rfl)
theorem kS_44_15 : Cond.selects RX9 yX9_count yX9_count ∈ wsL_law := cin44 _ (List.mem_of_getElem? (i := 15) rfl)
theorem kC_44_16 : Cond.code yX9_count cX9_count 2 (some .int) ∈ wsL_law := cin44 _ (List.mem_of_getElem? (i := 16) rfl)
theorem kM_44_17 : Cond.methodLink RL 143 yX10_count ∈ wsL_law := cin44 _ (List.mem_of_getElem? (i := 17) rfl)
theorem kI_44_18 : Cond.instanceMethod yX10_count ∈ wsL_law := cin44 _ (List.mem_of_getElem? (i := 18) rfl)
theorem kS_44_19 : Cond.selects RX10 yX10_count yX10_count ∈ wsL_law := cin44 _ (List.mem_of_getElem? (i := 19) rfl)
theorem kC_44_20 : Cond.code yX10_count cX10_count 2 (some .int) ∈ wsL_law := cin44 _ (List.mem_of_getElem? (i := 20) rfl)
section JL
variable {p : Program} {l : Launch} {e : Env} {R : Room} {s : State} {m : MethodId} {args : Array Value} {below : List Frame} {meth : Method} {c : Code} {H : Heap} {locs : List Loc} {cells slots : Nat} {Q : State → Prop}
variable {cc : ByteArray} {nL : Nat} {own : String} {w0 : Cond} {ret : Option FieldType} {pc : Nat} {ls : Array Slot} {rest : List Value} {G : jG} {M : jM}
theorem j_slenX {b L : Nat} {xs : Nat → Int32} (C : jCx p s m args meth c cc nL own w0 ret) (hO : jOk G M s H locs) (hX : va_X b L xs s s.heap) (hbl : b < s.heap.size) (hbA : ¬ jA G b) (hdg : decode cc pc = .ok (.arraylength, 1)) (kk : W p l e R s m args below meth c H locs cells slots Q (F0 m (pc + 1) ls (vI (L : Int) :: rest))) : W p l e R s m args below meth c H locs cells slots Q (F0 m pc ls (.ref b :: rest)) :=
  va_slen C.1 C.2.1 hX hbl hbA hO.2.2.2.2 hdg kk
theorem j_sldX {b L : Nat} {xs : Nat → Int32} {i I : Int} (C : jCx p s m args meth c cc nL own w0 ret) (hO : jOk G M s H locs) (hX : va_X b L xs s s.heap) (hbl : b < s.heap.size) (hbA : ¬ jA G b) (hi : w32 i = I) (h0 : 0 ≤ I) (h1 : I < (L : Int)) (hdg : decode cc pc = .ok (.iaload, 1)) (kk : W p l e R s m args below meth c H locs cells slots Q (F0 m (pc + 1) ls (vI (xs I.toNat).toInt :: rest))) : W p l e R s m args below meth c H locs cells slots Q (F0 m pc ls (vI i :: .ref b :: rest)) := by
  subst hi
  refine va_sld C.1 C.2.1 hX hbl hbA hO.2.2.2.2 (w32_in h0 h1) hdg ?_
  have e : xs (Int32.ofInt i).toNatClampNeg = Int32.ofInt (xs (w32 i).toNat).toInt := (Int32.ofInt_toInt _).symm
  rw [e]
  exact kk
end JL
set_option maxHeartbeats 4000000 in
theorem w_L_law_1093 {p : Program} {l : Launch} {e : Env} {s : State} {m : MethodId} {below : List Frame} {meth : Method} {c : Code} {H : Heap} {locs : List Loc} {ls : Array Slot} {G : jG} {b L : Nat} {xs : Nat → Int32} (hX : va_X b L xs s s.heap) (hbl : b < s.heap.size) (hbA : ¬ jA G b) (hL : L ≤ 2048) (C : jCx p s m #[Value.ref b] meth c code 4 RL (Cond.initialized RX9) ret) (M : jM) (l1 l2 l3 : Int) (h1 : jkd l1 = (9, 0)) (h2 : jkd l2 = (10, 0)) {rr : (jM × Int) ⊕ jM} (hf : f_L_law_1093 L xs M l1 l2 l3 = some rr) (kc : ∀ q : jM × Int, rr = .inl q → ∀ (H : Heap) (locs : List Loc) (ls : Array Slot), jOk G q.1 s H locs → lv_has ls 4 [(0, .ref b), (1, jR G l1), (2, jR G l2), (3, vI q.2)] → W p l e room_1 s m #[Value.ref b] below meth c H locs 600000 7302250 (lw_Z below #[Value.ref b] s) (F0 m 18 ls [])) (kx0 : ∀ q : jM, rr = .inr q → ∀ (H : Heap) (locs : List Loc) (ls : Array Slot), jOk G q s H locs → lv_has ls 4 [] → W p l e room_1 s m #[Value.ref b] below meth c H locs 600000 7302250 (lw_Z below #[Value.ref b] s) (F0 m 1099 ls [])) (hO : jOk G M s H locs) (hl : lv_has ls 4 [(0, .ref b), (1, jR G l1), (2, jR G l2), (3, vI l3)]) : W p l e room_1 s m #[Value.ref b] below meth c H locs 600000 7302250 (lw_Z below #[Value.ref b] s) (F0 m 1093 ls []) := by
  unfold f_L_law_1093 at hf
  refine lv_iinc (v := Int32.ofInt (l3 + 4)) (lv' := [(3, vI (l3 + 4)), (0, .ref b), (1, jR G l1), (2, jR G l2)]) C.1 C.2.1 dL_law_1093 hl (k := 3) rfl (Int32.ofInt_add _ _).symm (by decide) rfl (fun ls hl => ?_)
  refine lv_goto (tgt := 18) C.1 C.2.1 dL_law_1096 (by decide) ?_
  exact kc _ (som_e hf).symm _ _ _ hO (lv_sub hl [1, 2, 3, 0] rfl)
set_option maxHeartbeats 4000000 in
theorem w_L_law_L18 {p : Program} {l : Launch} {e : Env} {s : State} {m : MethodId} {below : List Frame} {meth : Method} {c : Code} {H : Heap} {locs : List Loc} {ls : Array Slot} {G : jG} {b L : Nat} {xs : Nat → Int32} (hX : va_X b L xs s s.heap) (hbl : b < s.heap.size) (hbA : ¬ jA G b) (hL : L ≤ 2048) (C : jCx p s m #[Value.ref b] meth c code 4 RL (Cond.initialized RX9) ret) (M : jM) (l1 l2 : Int) (h1 : jkd l1 = (9, 0)) (h2 : jkd l2 = (10, 0)) (S : jM × Int) {rr : (jM × Int) ⊕ jM} (hf : f_L_law_L18 L xs M l1 l2 S = some rr) (kc : ∀ q : jM × Int, rr = .inl q → ∀ (H : Heap) (locs : List Loc) (ls : Array Slot), jOk G q.1 s H locs → lv_has ls 4 [(0, .ref b), (1, jR G l1), (2, jR G l2), (3, vI q.2)] → W p l e room_1 s m #[Value.ref b] below meth c H locs 600000 7302250 (lw_Z below #[Value.ref b] s) (F0 m 18 ls [])) (kx0 : ∀ q : jM, rr = .inr q → ∀ (H : Heap) (locs : List Loc) (ls : Array Slot), jOk G q s H locs → lv_has ls 4 [] → W p l e room_1 s m #[Value.ref b] below meth c H locs 600000 7302250 (lw_Z below #[Value.ref b] s) (F0 m 1099 ls [])) (hO : jOk G S.1 s H locs) (hl : lv_has ls 4 [(0, .ref b), (1, jR G l1), (2, jR G l2), (3, vI S.2)]) : W p l e room_1 s m #[Value.ref b] below meth c H locs 600000 7302250 (lw_Z below #[Value.ref b] s) (F0 m 18 ls []) := by
  unfold f_L_law_L18 at hf
  refine lv_iload_n C.1 C.2.1 dL_law_18 rfl (lv_at hl 3 rfl) ?_
  refine lv_aload_n C.1 C.2.1 dL_law_19 rfl (lv_at hl 0 rfl) ?_
  refine j_slenX C hO hX hbl hbA dL_law_20 ?_
  refine lv_iconst (v := Int32.ofInt 4) C.1 C.2.1 dL_law_21 rfl ?_
  refine j_isub C dL_law_22 ?_
  refine j_icmp_gt (tgt := 1099) C rfl rfl dL_law_23 (by decide) (fun c1 => ?_) (fun c1 => ?_)
  · have hf := (if_pos c1).symm.trans hf
    exact kx0 _ (som_e hf).symm _ _ _ hO (lv_sub hl [] rfl)
  · have hf := (if_neg c1).symm.trans hf
    refine lv_aload_n C.1 C.2.1 dL_law_26 rfl (lv_at hl 0 rfl) ?_
    refine lv_iload_n C.1 C.2.1 dL_law_27 rfl (lv_at hl 3 rfl) ?_
    obtain ⟨g2, hf⟩ := grd_e hf
    refine j_sldX C hO hX hbl hbA rfl g2.1 g2.2 dL_law_28 ?_
    refine lv_bipush (v := Int32.ofInt 31) C.1 C.2.1 dL_law_29 (by decide) ?_
    refine j_iand C dL_law_31 ?_
    by_cases c3 : w32 (iand ((xs (w32 S.2).toNat).toInt) 31) = 0
    · have hf := (if_pos c3).symm.trans hf
      refine j_tsw (tgt := 172) C c3 dL_law_32 (by decide) (by decide) rfl (by decide) ?_
      refine lv_aload_n C.1 C.2.1 dL_law_172 rfl (lv_at hl 1 rfl) ?_
      refine lv_aload_n C.1 C.2.1 dL_law_173 rfl (lv_at hl 0 rfl) ?_
      refine lv_iload_n C.1 C.2.1 dL_law_174 rfl (lv_at hl 3 rfl) ?_
      refine lv_iconst (v := Int32.ofInt 1) C.1 C.2.1 dL_law_175 rfl ?_
      refine j_iadd C dL_law_176 ?_
      obtain ⟨g4, hf⟩ := grd_e hf
      refine j_sldX C hO hX hbl hbA rfl g4.1 g4.2 dL_law_177 ?_
      obtain ⟨r5, hr5, hf⟩ := bnd_e hf
      refine j_callV C hO (n := 1) (As := [vI ((xs (w32 (S.2 + 1)).toNat).toInt)]) (st1 := [vI r5.1]) (c_X9_feed l G S.1 l1 ((xs (w32 (S.2 + 1)).toNat).toInt) h1 hr5) h1 rfl kC_6_12 kM_6_9 kI_6_10 kS_6_11 kN_1_2 ⟨by decide, by decide, by decide⟩ ⟨Nat.le_of_ble_eq_true rfl, Nat.le_of_ble_eq_true rfl⟩ rfl rfl rfl hl.1 rfl (Nat.le_of_ble_eq_true rfl) ⟨Nat.le_of_ble_eq_true rfl, Nat.le_of_ble_eq_true rfl⟩ dL_law_178 rfl (fun H locs hO => ?_)
      refine lv_aload_n C.1 C.2.1 dL_law_181 rfl (lv_at hl 2 rfl) ?_
      refine lv_aload_n C.1 C.2.1 dL_law_182 rfl (lv_at hl 0 rfl) ?_
      refine lv_iload_n C.1 C.2.1 dL_law_183 rfl (lv_at hl 3 rfl) ?_
      refine lv_iconst (v := Int32.ofInt 1) C.1 C.2.1 dL_law_184 rfl ?_
      refine j_iadd C dL_law_185 ?_
      obtain ⟨g6, hf⟩ := grd_e hf
      refine j_sldX C hO hX hbl hbA rfl g6.1 g6.2 dL_law_186 ?_
      obtain ⟨r7, hr7, hf⟩ := bnd_e hf
      refine j_callV C hO (n := 1) (As := [vI ((xs (w32 (S.2 + 1)).toNat).toInt)]) (st1 := [vI r7.1, vI r5.1]) (c_X10_feed l G r5.2 l2 ((xs (w32 (S.2 + 1)).toNat).toInt) h2 hr7) h2 rfl kC_6_22 kM_6_19 kI_6_20 kS_6_21 kN_1_5 ⟨by decide, by decide, by decide⟩ ⟨Nat.le_of_ble_eq_true rfl, Nat.le_of_ble_eq_true rfl⟩ rfl rfl rfl hl.1 rfl (Nat.le_of_ble_eq_true rfl) ⟨Nat.le_of_ble_eq_true rfl, Nat.le_of_ble_eq_true rfl⟩ dL_law_187 rfl (fun H locs hO => ?_)
      obtain ⟨g8, hf⟩ := grd_e hf
      refine j_icmp_eq (tgt := 1093) C rfl rfl dL_law_190 (by decide) (fun _ => ?_) (fun h => absurd g8 h)
      exact w_L_law_1093 hX hbl hbA hL C r7.2 l1 l2 S.2 h1 h2 hf kc kx0 hO (lv_sub hl [0, 1, 2, 3] rfl)
    have hf := (if_neg c3).symm.trans hf
    by_cases c9 : w32 (iand ((xs (w32 S.2).toNat).toInt) 31) = 1
    · have hf := (if_pos c9).symm.trans hf
      refine j_tsw (tgt := 195) C c9 dL_law_32 (by decide) (by decide) rfl (by decide) ?_
      refine lv_aload_n C.1 C.2.1 dL_law_195 rfl (lv_at hl 1 rfl) ?_
      obtain ⟨r10, hr10, hf⟩ := bnd_e hf
      refine j_callV C hO (n := 0) (As := []) (st1 := [vI r10.1]) (c_X9_stall l G S.1 l1 h1 hr10) h1 rfl kC_7_5 kM_7_2 kI_7_3 kS_7_4 kN_1_2 ⟨by decide, by decide, by decide⟩ ⟨Nat.le_of_ble_eq_true rfl, Nat.le_of_ble_eq_true rfl⟩ rfl rfl rfl hl.1 rfl (Nat.le_of_ble_eq_true rfl) ⟨Nat.le_of_ble_eq_true rfl, Nat.le_of_ble_eq_true rfl⟩ dL_law_196 rfl (fun H locs hO => ?_)
      refine lv_aload_n C.1 C.2.1 dL_law_199 rfl (lv_at hl 2 rfl) ?_
      obtain ⟨r11, hr11, hf⟩ := bnd_e hf
      refine j_callV C hO (n := 0) (As := []) (st1 := [vI r11.1, vI r10.1]) (c_X10_stall l G r10.2 l2 h2 hr11) h2 rfl kC_12_12 kM_12_9 kI_12_10 kS_12_11 kN_1_5 ⟨by decide, by decide, by decide⟩ ⟨Nat.le_of_ble_eq_true rfl, Nat.le_of_ble_eq_true rfl⟩ rfl rfl rfl hl.1 rfl (Nat.le_of_ble_eq_true rfl) ⟨Nat.le_of_ble_eq_true rfl, Nat.le_of_ble_eq_true rfl⟩ dL_law_200 rfl (fun H locs hO => ?_)
      obtain ⟨g12, hf⟩ := grd_e hf
      refine j_icmp_eq (tgt := 1093) C rfl rfl dL_law_203 (by decide) (fun _ => ?_) (fun h => absurd g12 h)
      exact w_L_law_1093 hX hbl hbA hL C r11.2 l1 l2 S.2 h1 h2 hf kc kx0 hO (lv_sub hl [0, 1, 2, 3] rfl)
    have hf := (if_neg c9).symm.trans hf
    by_cases c13 : w32 (iand ((xs (w32 S.2).toNat).toInt) 31) = 2
    · have hf := (if_pos c13).symm.trans hf
      refine j_tsw (tgt := 208) C c13 dL_law_32 (by decide) (by decide) rfl (by decide) ?_
      refine lv_aload_n C.1 C.2.1 dL_law_208 rfl (lv_at hl 1 rfl) ?_
      refine lv_aload_n C.1 C.2.1 dL_law_209 rfl (lv_at hl 0 rfl) ?_
      refine lv_iload_n C.1 C.2.1 dL_law_210 rfl (lv_at hl 3 rfl) ?_
      refine lv_iconst (v := Int32.ofInt 1) C.1 C.2.1 dL_law_211 rfl ?_
      refine j_iadd C dL_law_212 ?_
      obtain ⟨g14, hf⟩ := grd_e hf
      refine j_sldX C hO hX hbl hbA rfl g14.1 g14.2 dL_law_213 ?_
      obtain ⟨r15, hr15, hf⟩ := bnd_e hf
      refine j_callV C hO (n := 1) (As := [vI ((xs (w32 (S.2 + 1)).toNat).toInt)]) (st1 := [vI r15.1]) (c_X9_day l G S.1 l1 ((xs (w32 (S.2 + 1)).toNat).toInt) h1 hr15) h1 rfl kC_14_19 kM_14_16 kI_14_17 kS_14_18 kN_1_2 ⟨by decide, by decide, by decide⟩ ⟨Nat.le_of_ble_eq_true rfl, Nat.le_of_ble_eq_true rfl⟩ rfl rfl rfl hl.1 rfl (Nat.le_of_ble_eq_true rfl) ⟨Nat.le_of_ble_eq_true rfl, Nat.le_of_ble_eq_true rfl⟩ dL_law_214 rfl (fun H locs hO => ?_)
      refine lv_aload_n C.1 C.2.1 dL_law_217 rfl (lv_at hl 2 rfl) ?_
      refine lv_aload_n C.1 C.2.1 dL_law_218 rfl (lv_at hl 0 rfl) ?_
      refine lv_iload_n C.1 C.2.1 dL_law_219 rfl (lv_at hl 3 rfl) ?_
      refine lv_iconst (v := Int32.ofInt 1) C.1 C.2.1 dL_law_220 rfl ?_
      refine j_iadd C dL_law_221 ?_
      obtain ⟨g16, hf⟩ := grd_e hf
      refine j_sldX C hO hX hbl hbA rfl g16.1 g16.2 dL_law_222 ?_
      obtain ⟨r17, hr17, hf⟩ := bnd_e hf
      refine j_callV C hO (n := 1) (As := [vI ((xs (w32 (S.2 + 1)).toNat).toInt)]) (st1 := [vI r17.1, vI r15.1]) (c_X10_day l G r15.2 l2 ((xs (w32 (S.2 + 1)).toNat).toInt) h2 hr17) h2 rfl kC_15_0 kM_14_21 kI_14_22 kS_14_23 kN_1_5 ⟨by decide, by decide, by decide⟩ ⟨Nat.le_of_ble_eq_true rfl, Nat.le_of_ble_eq_true rfl⟩ rfl rfl rfl hl.1 rfl (Nat.le_of_ble_eq_true rfl) ⟨Nat.le_of_ble_eq_true rfl, Nat.le_of_ble_eq_true rfl⟩ dL_law_223 rfl (fun H locs hO => ?_)
      obtain ⟨g18, hf⟩ := grd_e hf
      refine j_icmp_eq (tgt := 1093) C rfl rfl dL_law_226 (by decide) (fun _ => ?_) (fun h => absurd g18 h)
      exact w_L_law_1093 hX hbl hbA hL C r17.2 l1 l2 S.2 h1 h2 hf kc kx0 hO (lv_sub hl [0, 1, 2, 3] rfl)
    have hf := (if_neg c13).symm.trans hf
    by_cases c19 : w32 (iand ((xs (w32 S.2).toNat).toInt) 31) = 3
    · have hf := (if_pos c19).symm.trans hf
      refine j_tsw (tgt := 231) C c19 dL_law_32 (by decide) (by decide) rfl (by decide) ?_
      refine lv_aload_n C.1 C.2.1 dL_law_231 rfl (lv_at hl 1 rfl) ?_
      refine lv_aload_n C.1 C.2.1 dL_law_232 rfl (lv_at hl 0 rfl) ?_
      refine lv_iload_n C.1 C.2.1 dL_law_233 rfl (lv_at hl 3 rfl) ?_
      refine lv_iconst (v := Int32.ofInt 1) C.1 C.2.1 dL_law_234 rfl ?_
      refine j_iadd C dL_law_235 ?_
      obtain ⟨g20, hf⟩ := grd_e hf
      refine j_sldX C hO hX hbl hbA rfl g20.1 g20.2 dL_law_236 ?_
      obtain ⟨r21, hr21, hf⟩ := bnd_e hf
      refine j_callV C hO (n := 1) (As := [vI ((xs (w32 (S.2 + 1)).toNat).toInt)]) (st1 := [vI r21.1]) (c_X9_told l G S.1 l1 ((xs (w32 (S.2 + 1)).toNat).toInt) h1 hr21) h1 rfl kC_15_4 kM_15_1 kI_15_2 kS_15_3 kN_1_2 ⟨by decide, by decide, by decide⟩ ⟨Nat.le_of_ble_eq_true rfl, Nat.le_of_ble_eq_true rfl⟩ rfl rfl rfl hl.1 rfl (Nat.le_of_ble_eq_true rfl) ⟨Nat.le_of_ble_eq_true rfl, Nat.le_of_ble_eq_true rfl⟩ dL_law_237 rfl (fun H locs hO => ?_)
      refine lv_aload_n C.1 C.2.1 dL_law_240 rfl (lv_at hl 2 rfl) ?_
      refine lv_aload_n C.1 C.2.1 dL_law_241 rfl (lv_at hl 0 rfl) ?_
      refine lv_iload_n C.1 C.2.1 dL_law_242 rfl (lv_at hl 3 rfl) ?_
      refine lv_iconst (v := Int32.ofInt 1) C.1 C.2.1 dL_law_243 rfl ?_
      refine j_iadd C dL_law_244 ?_
      obtain ⟨g22, hf⟩ := grd_e hf
      refine j_sldX C hO hX hbl hbA rfl g22.1 g22.2 dL_law_245 ?_
      obtain ⟨r23, hr23, hf⟩ := bnd_e hf
      refine j_callV C hO (n := 1) (As := [vI ((xs (w32 (S.2 + 1)).toNat).toInt)]) (st1 := [vI r23.1, vI r21.1]) (c_X10_told l G r21.2 l2 ((xs (w32 (S.2 + 1)).toNat).toInt) h2 hr23) h2 rfl kC_16_8 kM_16_5 kI_16_6 kS_16_7 kN_1_5 ⟨by decide, by decide, by decide⟩ ⟨Nat.le_of_ble_eq_true rfl, Nat.le_of_ble_eq_true rfl⟩ rfl rfl rfl hl.1 rfl (Nat.le_of_ble_eq_true rfl) ⟨Nat.le_of_ble_eq_true rfl, Nat.le_of_ble_eq_true rfl⟩ dL_law_246 rfl (fun H locs hO => ?_)
      obtain ⟨g24, hf⟩ := grd_e hf
      refine j_icmp_eq (tgt := 1093) C rfl rfl dL_law_249 (by decide) (fun _ => ?_) (fun h => absurd g24 h)
      exact w_L_law_1093 hX hbl hbA hL C r23.2 l1 l2 S.2 h1 h2 hf kc kx0 hO (lv_sub hl [0, 1, 2, 3] rfl)
    have hf := (if_neg c19).symm.trans hf
    by_cases c25 : w32 (iand ((xs (w32 S.2).toNat).toInt) 31) = 4
    · have hf := (if_pos c25).symm.trans hf
      refine j_tsw (tgt := 254) C c25 dL_law_32 (by decide) (by decide) rfl (by decide) ?_
      refine lv_aload_n C.1 C.2.1 dL_law_254 rfl (lv_at hl 1 rfl) ?_
      refine lv_aload_n C.1 C.2.1 dL_law_255 rfl (lv_at hl 0 rfl) ?_
      refine lv_iload_n C.1 C.2.1 dL_law_256 rfl (lv_at hl 3 rfl) ?_
      refine lv_iconst (v := Int32.ofInt 1) C.1 C.2.1 dL_law_257 rfl ?_
      refine j_iadd C dL_law_258 ?_
      obtain ⟨g26, hf⟩ := grd_e hf
      refine j_sldX C hO hX hbl hbA rfl g26.1 g26.2 dL_law_259 ?_
      obtain ⟨r27, hr27, hf⟩ := bnd_e hf
      refine j_callV C hO (n := 1) (As := [vI ((xs (w32 (S.2 + 1)).toNat).toInt)]) (st1 := [vI r27.1]) (c_X9_sign l G S.1 l1 ((xs (w32 (S.2 + 1)).toNat).toInt) h1 hr27) h1 rfl kC_17_5 kM_17_2 kI_17_3 kS_17_4 kN_1_2 ⟨by decide, by decide, by decide⟩ ⟨Nat.le_of_ble_eq_true rfl, Nat.le_of_ble_eq_true rfl⟩ rfl rfl rfl hl.1 rfl (Nat.le_of_ble_eq_true rfl) ⟨Nat.le_of_ble_eq_true rfl, Nat.le_of_ble_eq_true rfl⟩ dL_law_260 rfl (fun H locs hO => ?_)
      refine lv_aload_n C.1 C.2.1 dL_law_263 rfl (lv_at hl 2 rfl) ?_
      refine lv_aload_n C.1 C.2.1 dL_law_264 rfl (lv_at hl 0 rfl) ?_
      refine lv_iload_n C.1 C.2.1 dL_law_265 rfl (lv_at hl 3 rfl) ?_
      refine lv_iconst (v := Int32.ofInt 1) C.1 C.2.1 dL_law_266 rfl ?_
      refine j_iadd C dL_law_267 ?_
      obtain ⟨g28, hf⟩ := grd_e hf
      refine j_sldX C hO hX hbl hbA rfl g28.1 g28.2 dL_law_268 ?_
      obtain ⟨r29, hr29, hf⟩ := bnd_e hf
      refine j_callV C hO (n := 1) (As := [vI ((xs (w32 (S.2 + 1)).toNat).toInt)]) (st1 := [vI r29.1, vI r27.1]) (c_X10_sign l G r27.2 l2 ((xs (w32 (S.2 + 1)).toNat).toInt) h2 hr29) h2 rfl kC_18_0 kM_17_21 kI_17_22 kS_17_23 kN_1_5 ⟨by decide, by decide, by decide⟩ ⟨Nat.le_of_ble_eq_true rfl, Nat.le_of_ble_eq_true rfl⟩ rfl rfl rfl hl.1 rfl (Nat.le_of_ble_eq_true rfl) ⟨Nat.le_of_ble_eq_true rfl, Nat.le_of_ble_eq_true rfl⟩ dL_law_269 rfl (fun H locs hO => ?_)
      obtain ⟨g30, hf⟩ := grd_e hf
      refine j_icmp_eq (tgt := 1093) C rfl rfl dL_law_272 (by decide) (fun _ => ?_) (fun h => absurd g30 h)
      exact w_L_law_1093 hX hbl hbA hL C r29.2 l1 l2 S.2 h1 h2 hf kc kx0 hO (lv_sub hl [0, 1, 2, 3] rfl)
    have hf := (if_neg c25).symm.trans hf
    by_cases c31 : w32 (iand ((xs (w32 S.2).toNat).toInt) 31) = 5
    · have hf := (if_pos c31).symm.trans hf
      refine j_tsw (tgt := 277) C c31 dL_law_32 (by decide) (by decide) rfl (by decide) ?_
      refine lv_aload_n C.1 C.2.1 dL_law_277 rfl (lv_at hl 1 rfl) ?_
      obtain ⟨r32, hr32, hf⟩ := bnd_e hf
      refine j_callV C hO (n := 0) (As := []) (st1 := [vI r32.1]) (c_X9_row l G S.1 l1 h1 hr32) h1 rfl kC_18_4 kM_18_1 kI_18_2 kS_18_3 kN_1_2 ⟨by decide, by decide, by decide⟩ ⟨Nat.le_of_ble_eq_true rfl, Nat.le_of_ble_eq_true rfl⟩ rfl rfl rfl hl.1 rfl (Nat.le_of_ble_eq_true rfl) ⟨Nat.le_of_ble_eq_true rfl, Nat.le_of_ble_eq_true rfl⟩ dL_law_278 rfl (fun H locs hO => ?_)
      refine lv_aload_n C.1 C.2.1 dL_law_281 rfl (lv_at hl 2 rfl) ?_
      obtain ⟨r33, hr33, hf⟩ := bnd_e hf
      refine j_callV C hO (n := 0) (As := []) (st1 := [vI r33.1, vI r32.1]) (c_X10_row l G r32.2 l2 h2 hr33) h2 rfl kC_18_14 kM_18_11 kI_18_12 kS_18_13 kN_1_5 ⟨by decide, by decide, by decide⟩ ⟨Nat.le_of_ble_eq_true rfl, Nat.le_of_ble_eq_true rfl⟩ rfl rfl rfl hl.1 rfl (Nat.le_of_ble_eq_true rfl) ⟨Nat.le_of_ble_eq_true rfl, Nat.le_of_ble_eq_true rfl⟩ dL_law_282 rfl (fun H locs hO => ?_)
      obtain ⟨g34, hf⟩ := grd_e hf
      refine j_icmp_eq (tgt := 1093) C rfl rfl dL_law_285 (by decide) (fun _ => ?_) (fun h => absurd g34 h)
      exact w_L_law_1093 hX hbl hbA hL C r33.2 l1 l2 S.2 h1 h2 hf kc kx0 hO (lv_sub hl [0, 1, 2, 3] rfl)
    have hf := (if_neg c31).symm.trans hf
    by_cases c35 : w32 (iand ((xs (w32 S.2).toNat).toInt) 31) = 6
    · have hf := (if_pos c35).symm.trans hf
      refine j_tsw (tgt := 290) C c35 dL_law_32 (by decide) (by decide) rfl (by decide) ?_
      refine lv_aload_n C.1 C.2.1 dL_law_290 rfl (lv_at hl 1 rfl) ?_
      refine lv_aload_n C.1 C.2.1 dL_law_291 rfl (lv_at hl 0 rfl) ?_
      refine lv_iload_n C.1 C.2.1 dL_law_292 rfl (lv_at hl 3 rfl) ?_
      refine lv_iconst (v := Int32.ofInt 1) C.1 C.2.1 dL_law_293 rfl ?_
      refine j_iadd C dL_law_294 ?_
      obtain ⟨g36, hf⟩ := grd_e hf
      refine j_sldX C hO hX hbl hbA rfl g36.1 g36.2 dL_law_295 ?_
      refine lv_aload_n C.1 C.2.1 dL_law_296 rfl (lv_at hl 0 rfl) ?_
      refine lv_iload_n C.1 C.2.1 dL_law_297 rfl (lv_at hl 3 rfl) ?_
      refine lv_iconst (v := Int32.ofInt 2) C.1 C.2.1 dL_law_298 rfl ?_
      refine j_iadd C dL_law_299 ?_
      obtain ⟨g37, hf⟩ := grd_e hf
      refine j_sldX C hO hX hbl hbA rfl g37.1 g37.2 dL_law_300 ?_
      obtain ⟨r38, hr38, hf⟩ := bnd_e hf
      refine j_callV C hO (n := 2) (As := [vI ((xs (w32 (S.2 + 1)).toNat).toInt), vI ((xs (w32 (S.2 + 2)).toNat).toInt)]) (st1 := [vI r38]) (c_X9_of l G S.1 l1 ((xs (w32 (S.2 + 1)).toNat).toInt) ((xs (w32 (S.2 + 2)).toNat).toInt) h1 hr38) h1 rfl kC_18_18 kM_18_15 kI_18_16 kS_18_17 kN_1_2 ⟨by decide, by decide, by decide⟩ ⟨Nat.le_of_ble_eq_true rfl, Nat.le_of_ble_eq_true rfl⟩ rfl rfl rfl hl.1 rfl (Nat.le_of_ble_eq_true rfl) ⟨Nat.le_of_ble_eq_true rfl, Nat.le_of_ble_eq_true rfl⟩ dL_law_301 rfl (fun H locs hO => ?_)
      refine lv_aload_n C.1 C.2.1 dL_law_304 rfl (lv_at hl 2 rfl) ?_
      refine lv_aload_n C.1 C.2.1 dL_law_305 rfl (lv_at hl 0 rfl) ?_
      refine lv_iload_n C.1 C.2.1 dL_law_306 rfl (lv_at hl 3 rfl) ?_
      refine lv_iconst (v := Int32.ofInt 1) C.1 C.2.1 dL_law_307 rfl ?_
      refine j_iadd C dL_law_308 ?_
      obtain ⟨g39, hf⟩ := grd_e hf
      refine j_sldX C hO hX hbl hbA rfl g39.1 g39.2 dL_law_309 ?_
      refine lv_aload_n C.1 C.2.1 dL_law_310 rfl (lv_at hl 0 rfl) ?_
      refine lv_iload_n C.1 C.2.1 dL_law_311 rfl (lv_at hl 3 rfl) ?_
      refine lv_iconst (v := Int32.ofInt 2) C.1 C.2.1 dL_law_312 rfl ?_
      refine j_iadd C dL_law_313 ?_
      obtain ⟨g40, hf⟩ := grd_e hf
      refine j_sldX C hO hX hbl hbA rfl g40.1 g40.2 dL_law_314 ?_
      obtain ⟨r41, hr41, hf⟩ := bnd_e hf
      refine j_callV C hO (n := 2) (As := [vI ((xs (w32 (S.2 + 1)).toNat).toInt), vI ((xs (w32 (S.2 + 2)).toNat).toInt)]) (st1 := [vI r41, vI r38]) (c_X10_of l G S.1 l2 ((xs (w32 (S.2 + 1)).toNat).toInt) ((xs (w32 (S.2 + 2)).toNat).toInt) h2 hr41) h2 rfl kC_19_10 kM_19_7 kI_19_8 kS_19_9 kN_1_5 ⟨by decide, by decide, by decide⟩ ⟨Nat.le_of_ble_eq_true rfl, Nat.le_of_ble_eq_true rfl⟩ rfl rfl rfl hl.1 rfl (Nat.le_of_ble_eq_true rfl) ⟨Nat.le_of_ble_eq_true rfl, Nat.le_of_ble_eq_true rfl⟩ dL_law_315 rfl (fun H locs hO => ?_)
      obtain ⟨g42, hf⟩ := grd_e hf
      refine j_icmp_eq (tgt := 1093) C rfl rfl dL_law_318 (by decide) (fun _ => ?_) (fun h => absurd g42 h)
      exact w_L_law_1093 hX hbl hbA hL C S.1 l1 l2 S.2 h1 h2 hf kc kx0 hO (lv_sub hl [0, 1, 2, 3] rfl)
    have hf := (if_neg c35).symm.trans hf
    by_cases c43 : w32 (iand ((xs (w32 S.2).toNat).toInt) 31) = 7
    · have hf := (if_pos c43).symm.trans hf
      refine j_tsw (tgt := 323) C c43 dL_law_32 (by decide) (by decide) rfl (by decide) ?_
      refine lv_aload_n C.1 C.2.1 dL_law_323 rfl (lv_at hl 1 rfl) ?_
      refine lv_aload_n C.1 C.2.1 dL_law_324 rfl (lv_at hl 0 rfl) ?_
      refine lv_iload_n C.1 C.2.1 dL_law_325 rfl (lv_at hl 3 rfl) ?_
      refine lv_iconst (v := Int32.ofInt 1) C.1 C.2.1 dL_law_326 rfl ?_
      refine j_iadd C dL_law_327 ?_
      obtain ⟨g44, hf⟩ := grd_e hf
      refine j_sldX C hO hX hbl hbA rfl g44.1 g44.2 dL_law_328 ?_
      refine lv_aload_n C.1 C.2.1 dL_law_329 rfl (lv_at hl 0 rfl) ?_
      refine lv_iload_n C.1 C.2.1 dL_law_330 rfl (lv_at hl 3 rfl) ?_
      refine lv_iconst (v := Int32.ofInt 2) C.1 C.2.1 dL_law_331 rfl ?_
      refine j_iadd C dL_law_332 ?_
      obtain ⟨g45, hf⟩ := grd_e hf
      refine j_sldX C hO hX hbl hbA rfl g45.1 g45.2 dL_law_333 ?_
      obtain ⟨r46, hr46, hf⟩ := bnd_e hf
      refine j_callV C hO (n := 2) (As := [vI ((xs (w32 (S.2 + 1)).toNat).toInt), vI ((xs (w32 (S.2 + 2)).toNat).toInt)]) (st1 := [vI r46.1]) (c_X9_player l G S.1 l1 ((xs (w32 (S.2 + 1)).toNat).toInt) ((xs (w32 (S.2 + 2)).toNat).toInt) h1 hr46) h1 rfl kC_19_18 kM_19_15 kI_19_16 kS_19_17 kN_1_2 ⟨by decide, by decide, by decide⟩ ⟨Nat.le_of_ble_eq_true rfl, Nat.le_of_ble_eq_true rfl⟩ rfl rfl rfl hl.1 rfl (Nat.le_of_ble_eq_true rfl) ⟨Nat.le_of_ble_eq_true rfl, Nat.le_of_ble_eq_true rfl⟩ dL_law_334 rfl (fun H locs hO => ?_)
      refine lv_aload_n C.1 C.2.1 dL_law_337 rfl (lv_at hl 2 rfl) ?_
      refine lv_aload_n C.1 C.2.1 dL_law_338 rfl (lv_at hl 0 rfl) ?_
      refine lv_iload_n C.1 C.2.1 dL_law_339 rfl (lv_at hl 3 rfl) ?_
      refine lv_iconst (v := Int32.ofInt 1) C.1 C.2.1 dL_law_340 rfl ?_
      refine j_iadd C dL_law_341 ?_
      obtain ⟨g47, hf⟩ := grd_e hf
      refine j_sldX C hO hX hbl hbA rfl g47.1 g47.2 dL_law_342 ?_
      refine lv_aload_n C.1 C.2.1 dL_law_343 rfl (lv_at hl 0 rfl) ?_
      refine lv_iload_n C.1 C.2.1 dL_law_344 rfl (lv_at hl 3 rfl) ?_
      refine lv_iconst (v := Int32.ofInt 2) C.1 C.2.1 dL_law_345 rfl ?_
      refine j_iadd C dL_law_346 ?_
      obtain ⟨g48, hf⟩ := grd_e hf
      refine j_sldX C hO hX hbl hbA rfl g48.1 g48.2 dL_law_347 ?_
      obtain ⟨r49, hr49, hf⟩ := bnd_e hf
      refine j_callV C hO (n := 2) (As := [vI ((xs (w32 (S.2 + 1)).toNat).toInt), vI ((xs (w32 (S.2 + 2)).toNat).toInt)]) (st1 := [vI r49.1, vI r46.1]) (c_X10_player l G r46.2 l2 ((xs (w32 (S.2 + 1)).toNat).toInt) ((xs (w32 (S.2 + 2)).toNat).toInt) h2 hr49) h2 rfl kC_20_4 kM_20_1 kI_20_2 kS_20_3 kN_1_5 ⟨by decide, by decide, by decide⟩ ⟨Nat.le_of_ble_eq_true rfl, Nat.le_of_ble_eq_true rfl⟩ rfl rfl rfl hl.1 rfl (Nat.le_of_ble_eq_true rfl) ⟨Nat.le_of_ble_eq_true rfl, Nat.le_of_ble_eq_true rfl⟩ dL_law_348 rfl (fun H locs hO => ?_)
      obtain ⟨g50, hf⟩ := grd_e hf
      refine j_icmp_eq (tgt := 1093) C rfl rfl dL_law_351 (by decide) (fun _ => ?_) (fun h => absurd g50 h)
      exact w_L_law_1093 hX hbl hbA hL C r49.2 l1 l2 S.2 h1 h2 hf kc kx0 hO (lv_sub hl [0, 1, 2, 3] rfl)
    have hf := (if_neg c43).symm.trans hf
    by_cases c51 : w32 (iand ((xs (w32 S.2).toNat).toInt) 31) = 8
    · have hf := (if_pos c51).symm.trans hf
      refine j_tsw (tgt := 356) C c51 dL_law_32 (by decide) (by decide) rfl (by decide) ?_
      refine lv_aload_n C.1 C.2.1 dL_law_356 rfl (lv_at hl 1 rfl) ?_
      refine lv_aload_n C.1 C.2.1 dL_law_357 rfl (lv_at hl 0 rfl) ?_
      refine lv_iload_n C.1 C.2.1 dL_law_358 rfl (lv_at hl 3 rfl) ?_
      refine lv_iconst (v := Int32.ofInt 1) C.1 C.2.1 dL_law_359 rfl ?_
      refine j_iadd C dL_law_360 ?_
      obtain ⟨g52, hf⟩ := grd_e hf
      refine j_sldX C hO hX hbl hbA rfl g52.1 g52.2 dL_law_361 ?_
      obtain ⟨r53, hr53, hf⟩ := bnd_e hf
      refine j_callV C hO (n := 1) (As := [vI ((xs (w32 (S.2 + 1)).toNat).toInt)]) (st1 := [vI r53.1]) (c_X9_own l G S.1 l1 ((xs (w32 (S.2 + 1)).toNat).toInt) h1 hr53) h1 rfl kC_20_8 kM_20_5 kI_20_6 kS_20_7 kN_1_2 ⟨by decide, by decide, by decide⟩ ⟨Nat.le_of_ble_eq_true rfl, Nat.le_of_ble_eq_true rfl⟩ rfl rfl rfl hl.1 rfl (Nat.le_of_ble_eq_true rfl) ⟨Nat.le_of_ble_eq_true rfl, Nat.le_of_ble_eq_true rfl⟩ dL_law_362 rfl (fun H locs hO => ?_)
      refine lv_aload_n C.1 C.2.1 dL_law_365 rfl (lv_at hl 2 rfl) ?_
      refine lv_aload_n C.1 C.2.1 dL_law_366 rfl (lv_at hl 0 rfl) ?_
      refine lv_iload_n C.1 C.2.1 dL_law_367 rfl (lv_at hl 3 rfl) ?_
      refine lv_iconst (v := Int32.ofInt 1) C.1 C.2.1 dL_law_368 rfl ?_
      refine j_iadd C dL_law_369 ?_
      obtain ⟨g54, hf⟩ := grd_e hf
      refine j_sldX C hO hX hbl hbA rfl g54.1 g54.2 dL_law_370 ?_
      obtain ⟨r55, hr55, hf⟩ := bnd_e hf
      refine j_callV C hO (n := 1) (As := [vI ((xs (w32 (S.2 + 1)).toNat).toInt)]) (st1 := [vI r55.1, vI r53.1]) (c_X10_own l G r53.2 l2 ((xs (w32 (S.2 + 1)).toNat).toInt) h2 hr55) h2 rfl kC_20_18 kM_20_15 kI_20_16 kS_20_17 kN_1_5 ⟨by decide, by decide, by decide⟩ ⟨Nat.le_of_ble_eq_true rfl, Nat.le_of_ble_eq_true rfl⟩ rfl rfl rfl hl.1 rfl (Nat.le_of_ble_eq_true rfl) ⟨Nat.le_of_ble_eq_true rfl, Nat.le_of_ble_eq_true rfl⟩ dL_law_371 rfl (fun H locs hO => ?_)
      obtain ⟨g56, hf⟩ := grd_e hf
      refine j_icmp_eq (tgt := 1093) C rfl rfl dL_law_374 (by decide) (fun _ => ?_) (fun h => absurd g56 h)
      exact w_L_law_1093 hX hbl hbA hL C r55.2 l1 l2 S.2 h1 h2 hf kc kx0 hO (lv_sub hl [0, 1, 2, 3] rfl)
    have hf := (if_neg c51).symm.trans hf
    by_cases c57 : w32 (iand ((xs (w32 S.2).toNat).toInt) 31) = 9
    · have hf := (if_pos c57).symm.trans hf
      refine j_tsw (tgt := 379) C c57 dL_law_32 (by decide) (by decide) rfl (by decide) ?_
      refine lv_aload_n C.1 C.2.1 dL_law_379 rfl (lv_at hl 1 rfl) ?_
      refine lv_aload_n C.1 C.2.1 dL_law_380 rfl (lv_at hl 0 rfl) ?_
      refine lv_iload_n C.1 C.2.1 dL_law_381 rfl (lv_at hl 3 rfl) ?_
      refine lv_iconst (v := Int32.ofInt 1) C.1 C.2.1 dL_law_382 rfl ?_
      refine j_iadd C dL_law_383 ?_
      obtain ⟨g58, hf⟩ := grd_e hf
      refine j_sldX C hO hX hbl hbA rfl g58.1 g58.2 dL_law_384 ?_
      refine lv_aload_n C.1 C.2.1 dL_law_385 rfl (lv_at hl 0 rfl) ?_
      refine lv_iload_n C.1 C.2.1 dL_law_386 rfl (lv_at hl 3 rfl) ?_
      refine lv_iconst (v := Int32.ofInt 2) C.1 C.2.1 dL_law_387 rfl ?_
      refine j_iadd C dL_law_388 ?_
      obtain ⟨g59, hf⟩ := grd_e hf
      refine j_sldX C hO hX hbl hbA rfl g59.1 g59.2 dL_law_389 ?_
      obtain ⟨r60, hr60, hf⟩ := bnd_e hf
      refine j_callV C hO (n := 2) (As := [vI ((xs (w32 (S.2 + 1)).toNat).toInt), vI ((xs (w32 (S.2 + 2)).toNat).toInt)]) (st1 := [vL r60.1]) (c_X9_waits l G S.1 l1 ((xs (w32 (S.2 + 1)).toNat).toInt) ((xs (w32 (S.2 + 2)).toNat).toInt) h1 hr60) h1 rfl kC_21_2 kM_20_23 kI_21_0 kS_21_1 kN_1_2 ⟨by decide, by decide, by decide⟩ ⟨Nat.le_of_ble_eq_true rfl, Nat.le_of_ble_eq_true rfl⟩ rfl rfl rfl hl.1 rfl (Nat.le_of_ble_eq_true rfl) ⟨Nat.le_of_ble_eq_true rfl, Nat.le_of_ble_eq_true rfl⟩ dL_law_390 rfl (fun H locs hO => ?_)
      refine lv_aload_n C.1 C.2.1 dL_law_393 rfl (lv_at hl 2 rfl) ?_
      refine lv_aload_n C.1 C.2.1 dL_law_394 rfl (lv_at hl 0 rfl) ?_
      refine lv_iload_n C.1 C.2.1 dL_law_395 rfl (lv_at hl 3 rfl) ?_
      refine lv_iconst (v := Int32.ofInt 1) C.1 C.2.1 dL_law_396 rfl ?_
      refine j_iadd C dL_law_397 ?_
      obtain ⟨g61, hf⟩ := grd_e hf
      refine j_sldX C hO hX hbl hbA rfl g61.1 g61.2 dL_law_398 ?_
      refine lv_aload_n C.1 C.2.1 dL_law_399 rfl (lv_at hl 0 rfl) ?_
      refine lv_iload_n C.1 C.2.1 dL_law_400 rfl (lv_at hl 3 rfl) ?_
      refine lv_iconst (v := Int32.ofInt 2) C.1 C.2.1 dL_law_401 rfl ?_
      refine j_iadd C dL_law_402 ?_
      obtain ⟨g62, hf⟩ := grd_e hf
      refine j_sldX C hO hX hbl hbA rfl g62.1 g62.2 dL_law_403 ?_
      obtain ⟨r63, hr63, hf⟩ := bnd_e hf
      refine j_callV C hO (n := 2) (As := [vI ((xs (w32 (S.2 + 1)).toNat).toInt), vI ((xs (w32 (S.2 + 2)).toNat).toInt)]) (st1 := [vL r63.1, vL r60.1]) (c_X10_waits l G r60.2 l2 ((xs (w32 (S.2 + 1)).toNat).toInt) ((xs (w32 (S.2 + 2)).toNat).toInt) h2 hr63) h2 rfl kC_22_22 kM_22_19 kI_22_20 kS_22_21 kN_1_5 ⟨by decide, by decide, by decide⟩ ⟨Nat.le_of_ble_eq_true rfl, Nat.le_of_ble_eq_true rfl⟩ rfl rfl rfl hl.1 rfl (Nat.le_of_ble_eq_true rfl) ⟨Nat.le_of_ble_eq_true rfl, Nat.le_of_ble_eq_true rfl⟩ dL_law_404 rfl (fun H locs hO => ?_)
      obtain ⟨g64, hf⟩ := grd_e hf
      refine j_lcmp_eq (tgt := 1093) C rfl rfl dL_law_407 dL_law_408 (by decide) (fun _ => ?_) (fun h => absurd g64 h)
      exact w_L_law_1093 hX hbl hbA hL C r63.2 l1 l2 S.2 h1 h2 hf kc kx0 hO (lv_sub hl [0, 1, 2, 3] rfl)
    have hf := (if_neg c57).symm.trans hf
    by_cases c65 : w32 (iand ((xs (w32 S.2).toNat).toInt) 31) = 10
    · have hf := (if_pos c65).symm.trans hf
      refine j_tsw (tgt := 413) C c65 dL_law_32 (by decide) (by decide) rfl (by decide) ?_
      refine lv_aload_n C.1 C.2.1 dL_law_413 rfl (lv_at hl 1 rfl) ?_
      refine lv_aload_n C.1 C.2.1 dL_law_414 rfl (lv_at hl 0 rfl) ?_
      refine lv_iload_n C.1 C.2.1 dL_law_415 rfl (lv_at hl 3 rfl) ?_
      refine lv_iconst (v := Int32.ofInt 1) C.1 C.2.1 dL_law_416 rfl ?_
      refine j_iadd C dL_law_417 ?_
      obtain ⟨g66, hf⟩ := grd_e hf
      refine j_sldX C hO hX hbl hbA rfl g66.1 g66.2 dL_law_418 ?_
      refine lv_aload_n C.1 C.2.1 dL_law_419 rfl (lv_at hl 0 rfl) ?_
      refine lv_iload_n C.1 C.2.1 dL_law_420 rfl (lv_at hl 3 rfl) ?_
      refine lv_iconst (v := Int32.ofInt 2) C.1 C.2.1 dL_law_421 rfl ?_
      refine j_iadd C dL_law_422 ?_
      obtain ⟨g67, hf⟩ := grd_e hf
      refine j_sldX C hO hX hbl hbA rfl g67.1 g67.2 dL_law_423 ?_
      refine lv_aload_n C.1 C.2.1 dL_law_424 rfl (lv_at hl 0 rfl) ?_
      refine lv_iload_n C.1 C.2.1 dL_law_425 rfl (lv_at hl 3 rfl) ?_
      refine lv_iconst (v := Int32.ofInt 3) C.1 C.2.1 dL_law_426 rfl ?_
      refine j_iadd C dL_law_427 ?_
      obtain ⟨g68, hf⟩ := grd_e hf
      refine j_sldX C hO hX hbl hbA rfl g68.1 g68.2 dL_law_428 ?_
      obtain ⟨r69, hr69, hf⟩ := bnd_e hf
      refine j_callV C hO (n := 3) (As := [vI ((xs (w32 (S.2 + 1)).toNat).toInt), vI ((xs (w32 (S.2 + 2)).toNat).toInt), vI ((xs (w32 (S.2 + 3)).toNat).toInt)]) (st1 := [vL r69.1]) (c_X9_odds l G S.1 l1 ((xs (w32 (S.2 + 1)).toNat).toInt) ((xs (w32 (S.2 + 2)).toNat).toInt) ((xs (w32 (S.2 + 3)).toNat).toInt) h1 hr69) h1 rfl kC_24_5 kM_24_2 kI_24_3 kS_24_4 kN_1_2 ⟨by decide, by decide, by decide⟩ ⟨Nat.le_of_ble_eq_true rfl, Nat.le_of_ble_eq_true rfl⟩ rfl rfl rfl hl.1 rfl (Nat.le_of_ble_eq_true rfl) ⟨Nat.le_of_ble_eq_true rfl, Nat.le_of_ble_eq_true rfl⟩ dL_law_429 rfl (fun H locs hO => ?_)
      refine lv_aload_n C.1 C.2.1 dL_law_432 rfl (lv_at hl 2 rfl) ?_
      refine lv_aload_n C.1 C.2.1 dL_law_433 rfl (lv_at hl 0 rfl) ?_
      refine lv_iload_n C.1 C.2.1 dL_law_434 rfl (lv_at hl 3 rfl) ?_
      refine lv_iconst (v := Int32.ofInt 1) C.1 C.2.1 dL_law_435 rfl ?_
      refine j_iadd C dL_law_436 ?_
      obtain ⟨g70, hf⟩ := grd_e hf
      refine j_sldX C hO hX hbl hbA rfl g70.1 g70.2 dL_law_437 ?_
      refine lv_aload_n C.1 C.2.1 dL_law_438 rfl (lv_at hl 0 rfl) ?_
      refine lv_iload_n C.1 C.2.1 dL_law_439 rfl (lv_at hl 3 rfl) ?_
      refine lv_iconst (v := Int32.ofInt 2) C.1 C.2.1 dL_law_440 rfl ?_
      refine j_iadd C dL_law_441 ?_
      obtain ⟨g71, hf⟩ := grd_e hf
      refine j_sldX C hO hX hbl hbA rfl g71.1 g71.2 dL_law_442 ?_
      refine lv_aload_n C.1 C.2.1 dL_law_443 rfl (lv_at hl 0 rfl) ?_
      refine lv_iload_n C.1 C.2.1 dL_law_444 rfl (lv_at hl 3 rfl) ?_
      refine lv_iconst (v := Int32.ofInt 3) C.1 C.2.1 dL_law_445 rfl ?_
      refine j_iadd C dL_law_446 ?_
      obtain ⟨g72, hf⟩ := grd_e hf
      refine j_sldX C hO hX hbl hbA rfl g72.1 g72.2 dL_law_447 ?_
      obtain ⟨r73, hr73, hf⟩ := bnd_e hf
      refine j_callV C hO (n := 3) (As := [vI ((xs (w32 (S.2 + 1)).toNat).toInt), vI ((xs (w32 (S.2 + 2)).toNat).toInt), vI ((xs (w32 (S.2 + 3)).toNat).toInt)]) (st1 := [vL r73.1, vL r69.1]) (c_X10_odds l G r69.2 l2 ((xs (w32 (S.2 + 1)).toNat).toInt) ((xs (w32 (S.2 + 2)).toNat).toInt) ((xs (w32 (S.2 + 3)).toNat).toInt) h2 hr73) h2 rfl kC_25_14 kM_25_11 kI_25_12 kS_25_13 kN_1_5 ⟨by decide, by decide, by decide⟩ ⟨Nat.le_of_ble_eq_true rfl, Nat.le_of_ble_eq_true rfl⟩ rfl rfl rfl hl.1 rfl (Nat.le_of_ble_eq_true rfl) ⟨Nat.le_of_ble_eq_true rfl, Nat.le_of_ble_eq_true rfl⟩ dL_law_448 rfl (fun H locs hO => ?_)
      obtain ⟨g74, hf⟩ := grd_e hf
      refine j_lcmp_eq (tgt := 1093) C rfl rfl dL_law_451 dL_law_452 (by decide) (fun _ => ?_) (fun h => absurd g74 h)
      exact w_L_law_1093 hX hbl hbA hL C r73.2 l1 l2 S.2 h1 h2 hf kc kx0 hO (lv_sub hl [0, 1, 2, 3] rfl)
    have hf := (if_neg c65).symm.trans hf
    by_cases c75 : w32 (iand ((xs (w32 S.2).toNat).toInt) 31) = 11
    · have hf := (if_pos c75).symm.trans hf
      refine j_tsw (tgt := 457) C c75 dL_law_32 (by decide) (by decide) rfl (by decide) ?_
      refine lv_aload_n C.1 C.2.1 dL_law_457 rfl (lv_at hl 1 rfl) ?_
      refine lv_aload_n C.1 C.2.1 dL_law_458 rfl (lv_at hl 0 rfl) ?_
      refine lv_iload_n C.1 C.2.1 dL_law_459 rfl (lv_at hl 3 rfl) ?_
      refine lv_iconst (v := Int32.ofInt 1) C.1 C.2.1 dL_law_460 rfl ?_
      refine j_iadd C dL_law_461 ?_
      obtain ⟨g76, hf⟩ := grd_e hf
      refine j_sldX C hO hX hbl hbA rfl g76.1 g76.2 dL_law_462 ?_
      refine lv_aload_n C.1 C.2.1 dL_law_463 rfl (lv_at hl 0 rfl) ?_
      refine lv_iload_n C.1 C.2.1 dL_law_464 rfl (lv_at hl 3 rfl) ?_
      refine lv_iconst (v := Int32.ofInt 2) C.1 C.2.1 dL_law_465 rfl ?_
      refine j_iadd C dL_law_466 ?_
      obtain ⟨g77, hf⟩ := grd_e hf
      refine j_sldX C hO hX hbl hbA rfl g77.1 g77.2 dL_law_467 ?_
      refine lv_aload_n C.1 C.2.1 dL_law_468 rfl (lv_at hl 0 rfl) ?_
      refine lv_iload_n C.1 C.2.1 dL_law_469 rfl (lv_at hl 3 rfl) ?_
      refine lv_iconst (v := Int32.ofInt 3) C.1 C.2.1 dL_law_470 rfl ?_
      refine j_iadd C dL_law_471 ?_
      obtain ⟨g78, hf⟩ := grd_e hf
      refine j_sldX C hO hX hbl hbA rfl g78.1 g78.2 dL_law_472 ?_
      obtain ⟨r79, hr79, hf⟩ := bnd_e hf
      refine j_callV C hO (n := 3) (As := [vI ((xs (w32 (S.2 + 1)).toNat).toInt), vI ((xs (w32 (S.2 + 2)).toNat).toInt), vI ((xs (w32 (S.2 + 3)).toNat).toInt)]) (st1 := [vL r79.1]) (c_X9_lasts l G S.1 l1 ((xs (w32 (S.2 + 1)).toNat).toInt) ((xs (w32 (S.2 + 2)).toNat).toInt) ((xs (w32 (S.2 + 3)).toNat).toInt) h1 hr79) h1 rfl kC_26_12 kM_26_9 kI_26_10 kS_26_11 kN_1_2 ⟨by decide, by decide, by decide⟩ ⟨Nat.le_of_ble_eq_true rfl, Nat.le_of_ble_eq_true rfl⟩ rfl rfl rfl hl.1 rfl (Nat.le_of_ble_eq_true rfl) ⟨Nat.le_of_ble_eq_true rfl, Nat.le_of_ble_eq_true rfl⟩ dL_law_473 rfl (fun H locs hO => ?_)
      refine lv_aload_n C.1 C.2.1 dL_law_476 rfl (lv_at hl 2 rfl) ?_
      refine lv_aload_n C.1 C.2.1 dL_law_477 rfl (lv_at hl 0 rfl) ?_
      refine lv_iload_n C.1 C.2.1 dL_law_478 rfl (lv_at hl 3 rfl) ?_
      refine lv_iconst (v := Int32.ofInt 1) C.1 C.2.1 dL_law_479 rfl ?_
      refine j_iadd C dL_law_480 ?_
      obtain ⟨g80, hf⟩ := grd_e hf
      refine j_sldX C hO hX hbl hbA rfl g80.1 g80.2 dL_law_481 ?_
      refine lv_aload_n C.1 C.2.1 dL_law_482 rfl (lv_at hl 0 rfl) ?_
      refine lv_iload_n C.1 C.2.1 dL_law_483 rfl (lv_at hl 3 rfl) ?_
      refine lv_iconst (v := Int32.ofInt 2) C.1 C.2.1 dL_law_484 rfl ?_
      refine j_iadd C dL_law_485 ?_
      obtain ⟨g81, hf⟩ := grd_e hf
      refine j_sldX C hO hX hbl hbA rfl g81.1 g81.2 dL_law_486 ?_
      refine lv_aload_n C.1 C.2.1 dL_law_487 rfl (lv_at hl 0 rfl) ?_
      refine lv_iload_n C.1 C.2.1 dL_law_488 rfl (lv_at hl 3 rfl) ?_
      refine lv_iconst (v := Int32.ofInt 3) C.1 C.2.1 dL_law_489 rfl ?_
      refine j_iadd C dL_law_490 ?_
      obtain ⟨g82, hf⟩ := grd_e hf
      refine j_sldX C hO hX hbl hbA rfl g82.1 g82.2 dL_law_491 ?_
      obtain ⟨r83, hr83, hf⟩ := bnd_e hf
      refine j_callV C hO (n := 3) (As := [vI ((xs (w32 (S.2 + 1)).toNat).toInt), vI ((xs (w32 (S.2 + 2)).toNat).toInt), vI ((xs (w32 (S.2 + 3)).toNat).toInt)]) (st1 := [vL r83.1, vL r79.1]) (c_X10_lasts l G r79.2 l2 ((xs (w32 (S.2 + 1)).toNat).toInt) ((xs (w32 (S.2 + 2)).toNat).toInt) ((xs (w32 (S.2 + 3)).toNat).toInt) h2 hr83) h2 rfl kC_26_17 kM_26_14 kI_26_15 kS_26_16 kN_1_5 ⟨by decide, by decide, by decide⟩ ⟨Nat.le_of_ble_eq_true rfl, Nat.le_of_ble_eq_true rfl⟩ rfl rfl rfl hl.1 rfl (Nat.le_of_ble_eq_true rfl) ⟨Nat.le_of_ble_eq_true rfl, Nat.le_of_ble_eq_true rfl⟩ dL_law_492 rfl (fun H locs hO => ?_)
      obtain ⟨g84, hf⟩ := grd_e hf
      refine j_lcmp_eq (tgt := 1093) C rfl rfl dL_law_495 dL_law_496 (by decide) (fun _ => ?_) (fun h => absurd g84 h)
      exact w_L_law_1093 hX hbl hbA hL C r83.2 l1 l2 S.2 h1 h2 hf kc kx0 hO (lv_sub hl [0, 1, 2, 3] rfl)
    have hf := (if_neg c75).symm.trans hf
    by_cases c85 : w32 (iand ((xs (w32 S.2).toNat).toInt) 31) = 12
    · have hf := (if_pos c85).symm.trans hf
      refine j_tsw (tgt := 501) C c85 dL_law_32 (by decide) (by decide) rfl (by decide) ?_
      refine lv_aload_n C.1 C.2.1 dL_law_501 rfl (lv_at hl 1 rfl) ?_
      refine lv_aload_n C.1 C.2.1 dL_law_502 rfl (lv_at hl 0 rfl) ?_
      refine lv_iload_n C.1 C.2.1 dL_law_503 rfl (lv_at hl 3 rfl) ?_
      refine lv_iconst (v := Int32.ofInt 1) C.1 C.2.1 dL_law_504 rfl ?_
      refine j_iadd C dL_law_505 ?_
      obtain ⟨g86, hf⟩ := grd_e hf
      refine j_sldX C hO hX hbl hbA rfl g86.1 g86.2 dL_law_506 ?_
      refine lv_aload_n C.1 C.2.1 dL_law_507 rfl (lv_at hl 0 rfl) ?_
      refine lv_iload_n C.1 C.2.1 dL_law_508 rfl (lv_at hl 3 rfl) ?_
      refine lv_iconst (v := Int32.ofInt 2) C.1 C.2.1 dL_law_509 rfl ?_
      refine j_iadd C dL_law_510 ?_
      obtain ⟨g87, hf⟩ := grd_e hf
      refine j_sldX C hO hX hbl hbA rfl g87.1 g87.2 dL_law_511 ?_
      refine lv_aload_n C.1 C.2.1 dL_law_512 rfl (lv_at hl 0 rfl) ?_
      refine lv_iload_n C.1 C.2.1 dL_law_513 rfl (lv_at hl 3 rfl) ?_
      refine lv_iconst (v := Int32.ofInt 3) C.1 C.2.1 dL_law_514 rfl ?_
      refine j_iadd C dL_law_515 ?_
      obtain ⟨g88, hf⟩ := grd_e hf
      refine j_sldX C hO hX hbl hbA rfl g88.1 g88.2 dL_law_516 ?_
      obtain ⟨r89, hr89, hf⟩ := bnd_e hf
      refine j_callV C hO (n := 3) (As := [vI ((xs (w32 (S.2 + 1)).toNat).toInt), vI ((xs (w32 (S.2 + 2)).toNat).toInt), vI ((xs (w32 (S.2 + 3)).toNat).toInt)]) (st1 := [vL r89.1]) (c_X9_half l G S.1 l1 ((xs (w32 (S.2 + 1)).toNat).toInt) ((xs (w32 (S.2 + 2)).toNat).toInt) ((xs (w32 (S.2 + 3)).toNat).toInt) h1 hr89) h1 rfl kC_27_1 kM_26_22 kI_26_23 kS_27_0 kN_1_2 ⟨by decide, by decide, by decide⟩ ⟨Nat.le_of_ble_eq_true rfl, Nat.le_of_ble_eq_true rfl⟩ rfl rfl rfl hl.1 rfl (Nat.le_of_ble_eq_true rfl) ⟨Nat.le_of_ble_eq_true rfl, Nat.le_of_ble_eq_true rfl⟩ dL_law_517 rfl (fun H locs hO => ?_)
      refine lv_aload_n C.1 C.2.1 dL_law_520 rfl (lv_at hl 2 rfl) ?_
      refine lv_aload_n C.1 C.2.1 dL_law_521 rfl (lv_at hl 0 rfl) ?_
      refine lv_iload_n C.1 C.2.1 dL_law_522 rfl (lv_at hl 3 rfl) ?_
      refine lv_iconst (v := Int32.ofInt 1) C.1 C.2.1 dL_law_523 rfl ?_
      refine j_iadd C dL_law_524 ?_
      obtain ⟨g90, hf⟩ := grd_e hf
      refine j_sldX C hO hX hbl hbA rfl g90.1 g90.2 dL_law_525 ?_
      refine lv_aload_n C.1 C.2.1 dL_law_526 rfl (lv_at hl 0 rfl) ?_
      refine lv_iload_n C.1 C.2.1 dL_law_527 rfl (lv_at hl 3 rfl) ?_
      refine lv_iconst (v := Int32.ofInt 2) C.1 C.2.1 dL_law_528 rfl ?_
      refine j_iadd C dL_law_529 ?_
      obtain ⟨g91, hf⟩ := grd_e hf
      refine j_sldX C hO hX hbl hbA rfl g91.1 g91.2 dL_law_530 ?_
      refine lv_aload_n C.1 C.2.1 dL_law_531 rfl (lv_at hl 0 rfl) ?_
      refine lv_iload_n C.1 C.2.1 dL_law_532 rfl (lv_at hl 3 rfl) ?_
      refine lv_iconst (v := Int32.ofInt 3) C.1 C.2.1 dL_law_533 rfl ?_
      refine j_iadd C dL_law_534 ?_
      obtain ⟨g92, hf⟩ := grd_e hf
      refine j_sldX C hO hX hbl hbA rfl g92.1 g92.2 dL_law_535 ?_
      obtain ⟨r93, hr93, hf⟩ := bnd_e hf
      refine j_callV C hO (n := 3) (As := [vI ((xs (w32 (S.2 + 1)).toNat).toInt), vI ((xs (w32 (S.2 + 2)).toNat).toInt), vI ((xs (w32 (S.2 + 3)).toNat).toInt)]) (st1 := [vL r93.1, vL r89.1]) (c_X10_half l G r89.2 l2 ((xs (w32 (S.2 + 1)).toNat).toInt) ((xs (w32 (S.2 + 2)).toNat).toInt) ((xs (w32 (S.2 + 3)).toNat).toInt) h2 hr93) h2 rfl kC_27_10 kM_27_7 kI_27_8 kS_27_9 kN_1_5 ⟨by decide, by decide, by decide⟩ ⟨Nat.le_of_ble_eq_true rfl, Nat.le_of_ble_eq_true rfl⟩ rfl rfl rfl hl.1 rfl (Nat.le_of_ble_eq_true rfl) ⟨Nat.le_of_ble_eq_true rfl, Nat.le_of_ble_eq_true rfl⟩ dL_law_536 rfl (fun H locs hO => ?_)
      obtain ⟨g94, hf⟩ := grd_e hf
      refine j_lcmp_eq (tgt := 1093) C rfl rfl dL_law_539 dL_law_540 (by decide) (fun _ => ?_) (fun h => absurd g94 h)
      exact w_L_law_1093 hX hbl hbA hL C r93.2 l1 l2 S.2 h1 h2 hf kc kx0 hO (lv_sub hl [0, 1, 2, 3] rfl)
    have hf := (if_neg c85).symm.trans hf
    by_cases c95 : w32 (iand ((xs (w32 S.2).toNat).toInt) 31) = 13
    · have hf := (if_pos c95).symm.trans hf
      refine j_tsw (tgt := 545) C c95 dL_law_32 (by decide) (by decide) rfl (by decide) ?_
      refine lv_aload_n C.1 C.2.1 dL_law_545 rfl (lv_at hl 1 rfl) ?_
      refine lv_aload_n C.1 C.2.1 dL_law_546 rfl (lv_at hl 0 rfl) ?_
      refine lv_iload_n C.1 C.2.1 dL_law_547 rfl (lv_at hl 3 rfl) ?_
      refine lv_iconst (v := Int32.ofInt 1) C.1 C.2.1 dL_law_548 rfl ?_
      refine j_iadd C dL_law_549 ?_
      obtain ⟨g96, hf⟩ := grd_e hf
      refine j_sldX C hO hX hbl hbA rfl g96.1 g96.2 dL_law_550 ?_
      refine lv_aload_n C.1 C.2.1 dL_law_551 rfl (lv_at hl 0 rfl) ?_
      refine lv_iload_n C.1 C.2.1 dL_law_552 rfl (lv_at hl 3 rfl) ?_
      refine lv_iconst (v := Int32.ofInt 2) C.1 C.2.1 dL_law_553 rfl ?_
      refine j_iadd C dL_law_554 ?_
      obtain ⟨g97, hf⟩ := grd_e hf
      refine j_sldX C hO hX hbl hbA rfl g97.1 g97.2 dL_law_555 ?_
      refine lv_aload_n C.1 C.2.1 dL_law_556 rfl (lv_at hl 0 rfl) ?_
      refine lv_iload_n C.1 C.2.1 dL_law_557 rfl (lv_at hl 3 rfl) ?_
      refine lv_iconst (v := Int32.ofInt 3) C.1 C.2.1 dL_law_558 rfl ?_
      refine j_iadd C dL_law_559 ?_
      obtain ⟨g98, hf⟩ := grd_e hf
      refine j_sldX C hO hX hbl hbA rfl g98.1 g98.2 dL_law_560 ?_
      obtain ⟨r99, hr99, hf⟩ := bnd_e hf
      refine j_callV C hO (n := 3) (As := [vI ((xs (w32 (S.2 + 1)).toNat).toInt), vI ((xs (w32 (S.2 + 2)).toNat).toInt), vI ((xs (w32 (S.2 + 3)).toNat).toInt)]) (st1 := [vL r99.1]) (c_X9_worth l G S.1 l1 ((xs (w32 (S.2 + 1)).toNat).toInt) ((xs (w32 (S.2 + 2)).toNat).toInt) ((xs (w32 (S.2 + 3)).toNat).toInt) h1 hr99) h1 rfl kC_27_18 kM_27_15 kI_27_16 kS_27_17 kN_1_2 ⟨by decide, by decide, by decide⟩ ⟨Nat.le_of_ble_eq_true rfl, Nat.le_of_ble_eq_true rfl⟩ rfl rfl rfl hl.1 rfl (Nat.le_of_ble_eq_true rfl) ⟨Nat.le_of_ble_eq_true rfl, Nat.le_of_ble_eq_true rfl⟩ dL_law_561 rfl (fun H locs hO => ?_)
      refine lv_aload_n C.1 C.2.1 dL_law_564 rfl (lv_at hl 2 rfl) ?_
      refine lv_aload_n C.1 C.2.1 dL_law_565 rfl (lv_at hl 0 rfl) ?_
      refine lv_iload_n C.1 C.2.1 dL_law_566 rfl (lv_at hl 3 rfl) ?_
      refine lv_iconst (v := Int32.ofInt 1) C.1 C.2.1 dL_law_567 rfl ?_
      refine j_iadd C dL_law_568 ?_
      obtain ⟨g100, hf⟩ := grd_e hf
      refine j_sldX C hO hX hbl hbA rfl g100.1 g100.2 dL_law_569 ?_
      refine lv_aload_n C.1 C.2.1 dL_law_570 rfl (lv_at hl 0 rfl) ?_
      refine lv_iload_n C.1 C.2.1 dL_law_571 rfl (lv_at hl 3 rfl) ?_
      refine lv_iconst (v := Int32.ofInt 2) C.1 C.2.1 dL_law_572 rfl ?_
      refine j_iadd C dL_law_573 ?_
      obtain ⟨g101, hf⟩ := grd_e hf
      refine j_sldX C hO hX hbl hbA rfl g101.1 g101.2 dL_law_574 ?_
      refine lv_aload_n C.1 C.2.1 dL_law_575 rfl (lv_at hl 0 rfl) ?_
      refine lv_iload_n C.1 C.2.1 dL_law_576 rfl (lv_at hl 3 rfl) ?_
      refine lv_iconst (v := Int32.ofInt 3) C.1 C.2.1 dL_law_577 rfl ?_
      refine j_iadd C dL_law_578 ?_
      obtain ⟨g102, hf⟩ := grd_e hf
      refine j_sldX C hO hX hbl hbA rfl g102.1 g102.2 dL_law_579 ?_
      obtain ⟨r103, hr103, hf⟩ := bnd_e hf
      refine j_callV C hO (n := 3) (As := [vI ((xs (w32 (S.2 + 1)).toNat).toInt), vI ((xs (w32 (S.2 + 2)).toNat).toInt), vI ((xs (w32 (S.2 + 3)).toNat).toInt)]) (st1 := [vL r103.1, vL r99.1]) (c_X10_worth l G r99.2 l2 ((xs (w32 (S.2 + 1)).toNat).toInt) ((xs (w32 (S.2 + 2)).toNat).toInt) ((xs (w32 (S.2 + 3)).toNat).toInt) h2 hr103) h2 rfl kC_27_22 kM_27_19 kI_27_20 kS_27_21 kN_1_5 ⟨by decide, by decide, by decide⟩ ⟨Nat.le_of_ble_eq_true rfl, Nat.le_of_ble_eq_true rfl⟩ rfl rfl rfl hl.1 rfl (Nat.le_of_ble_eq_true rfl) ⟨Nat.le_of_ble_eq_true rfl, Nat.le_of_ble_eq_true rfl⟩ dL_law_580 rfl (fun H locs hO => ?_)
      obtain ⟨g104, hf⟩ := grd_e hf
      refine j_lcmp_eq (tgt := 1093) C rfl rfl dL_law_583 dL_law_584 (by decide) (fun _ => ?_) (fun h => absurd g104 h)
      exact w_L_law_1093 hX hbl hbA hL C r103.2 l1 l2 S.2 h1 h2 hf kc kx0 hO (lv_sub hl [0, 1, 2, 3] rfl)
    have hf := (if_neg c95).symm.trans hf
    by_cases c105 : w32 (iand ((xs (w32 S.2).toNat).toInt) 31) = 14
    · have hf := (if_pos c105).symm.trans hf
      refine j_tsw (tgt := 589) C c105 dL_law_32 (by decide) (by decide) rfl (by decide) ?_
      refine lv_aload_n C.1 C.2.1 dL_law_589 rfl (lv_at hl 1 rfl) ?_
      refine lv_aload_n C.1 C.2.1 dL_law_590 rfl (lv_at hl 0 rfl) ?_
      refine lv_iload_n C.1 C.2.1 dL_law_591 rfl (lv_at hl 3 rfl) ?_
      refine lv_iconst (v := Int32.ofInt 1) C.1 C.2.1 dL_law_592 rfl ?_
      refine j_iadd C dL_law_593 ?_
      obtain ⟨g106, hf⟩ := grd_e hf
      refine j_sldX C hO hX hbl hbA rfl g106.1 g106.2 dL_law_594 ?_
      refine lv_aload_n C.1 C.2.1 dL_law_595 rfl (lv_at hl 0 rfl) ?_
      refine lv_iload_n C.1 C.2.1 dL_law_596 rfl (lv_at hl 3 rfl) ?_
      refine lv_iconst (v := Int32.ofInt 2) C.1 C.2.1 dL_law_597 rfl ?_
      refine j_iadd C dL_law_598 ?_
      obtain ⟨g107, hf⟩ := grd_e hf
      refine j_sldX C hO hX hbl hbA rfl g107.1 g107.2 dL_law_599 ?_
      refine lv_aload_n C.1 C.2.1 dL_law_600 rfl (lv_at hl 0 rfl) ?_
      refine lv_iload_n C.1 C.2.1 dL_law_601 rfl (lv_at hl 3 rfl) ?_
      refine lv_iconst (v := Int32.ofInt 3) C.1 C.2.1 dL_law_602 rfl ?_
      refine j_iadd C dL_law_603 ?_
      obtain ⟨g108, hf⟩ := grd_e hf
      refine j_sldX C hO hX hbl hbA rfl g108.1 g108.2 dL_law_604 ?_
      obtain ⟨r109, hr109, hf⟩ := bnd_e hf
      refine j_callV C hO (n := 3) (As := [vI ((xs (w32 (S.2 + 1)).toNat).toInt), vI ((xs (w32 (S.2 + 2)).toNat).toInt), vI ((xs (w32 (S.2 + 3)).toNat).toInt)]) (st1 := [vI r109.1]) (c_X9_best l G S.1 l1 ((xs (w32 (S.2 + 1)).toNat).toInt) ((xs (w32 (S.2 + 2)).toNat).toInt) ((xs (w32 (S.2 + 3)).toNat).toInt) h1 hr109) h1 rfl kC_28_2 kM_27_23 kI_28_0 kS_28_1 kN_1_2 ⟨by decide, by decide, by decide⟩ ⟨Nat.le_of_ble_eq_true rfl, Nat.le_of_ble_eq_true rfl⟩ rfl rfl rfl hl.1 rfl (Nat.le_of_ble_eq_true rfl) ⟨Nat.le_of_ble_eq_true rfl, Nat.le_of_ble_eq_true rfl⟩ dL_law_605 rfl (fun H locs hO => ?_)
      refine lv_aload_n C.1 C.2.1 dL_law_608 rfl (lv_at hl 2 rfl) ?_
      refine lv_aload_n C.1 C.2.1 dL_law_609 rfl (lv_at hl 0 rfl) ?_
      refine lv_iload_n C.1 C.2.1 dL_law_610 rfl (lv_at hl 3 rfl) ?_
      refine lv_iconst (v := Int32.ofInt 1) C.1 C.2.1 dL_law_611 rfl ?_
      refine j_iadd C dL_law_612 ?_
      obtain ⟨g110, hf⟩ := grd_e hf
      refine j_sldX C hO hX hbl hbA rfl g110.1 g110.2 dL_law_613 ?_
      refine lv_aload_n C.1 C.2.1 dL_law_614 rfl (lv_at hl 0 rfl) ?_
      refine lv_iload_n C.1 C.2.1 dL_law_615 rfl (lv_at hl 3 rfl) ?_
      refine lv_iconst (v := Int32.ofInt 2) C.1 C.2.1 dL_law_616 rfl ?_
      refine j_iadd C dL_law_617 ?_
      obtain ⟨g111, hf⟩ := grd_e hf
      refine j_sldX C hO hX hbl hbA rfl g111.1 g111.2 dL_law_618 ?_
      refine lv_aload_n C.1 C.2.1 dL_law_619 rfl (lv_at hl 0 rfl) ?_
      refine lv_iload_n C.1 C.2.1 dL_law_620 rfl (lv_at hl 3 rfl) ?_
      refine lv_iconst (v := Int32.ofInt 3) C.1 C.2.1 dL_law_621 rfl ?_
      refine j_iadd C dL_law_622 ?_
      obtain ⟨g112, hf⟩ := grd_e hf
      refine j_sldX C hO hX hbl hbA rfl g112.1 g112.2 dL_law_623 ?_
      obtain ⟨r113, hr113, hf⟩ := bnd_e hf
      refine j_callV C hO (n := 3) (As := [vI ((xs (w32 (S.2 + 1)).toNat).toInt), vI ((xs (w32 (S.2 + 2)).toNat).toInt), vI ((xs (w32 (S.2 + 3)).toNat).toInt)]) (st1 := [vI r113.1, vI r109.1]) (c_X10_best l G r109.2 l2 ((xs (w32 (S.2 + 1)).toNat).toInt) ((xs (w32 (S.2 + 2)).toNat).toInt) ((xs (w32 (S.2 + 3)).toNat).toInt) h2 hr113) h2 rfl kC_29_12 kM_29_9 kI_29_10 kS_29_11 kN_1_5 ⟨by decide, by decide, by decide⟩ ⟨Nat.le_of_ble_eq_true rfl, Nat.le_of_ble_eq_true rfl⟩ rfl rfl rfl hl.1 rfl (Nat.le_of_ble_eq_true rfl) ⟨Nat.le_of_ble_eq_true rfl, Nat.le_of_ble_eq_true rfl⟩ dL_law_624 rfl (fun H locs hO => ?_)
      obtain ⟨g114, hf⟩ := grd_e hf
      refine j_icmp_eq (tgt := 1093) C rfl rfl dL_law_627 (by decide) (fun _ => ?_) (fun h => absurd g114 h)
      exact w_L_law_1093 hX hbl hbA hL C r113.2 l1 l2 S.2 h1 h2 hf kc kx0 hO (lv_sub hl [0, 1, 2, 3] rfl)
    have hf := (if_neg c105).symm.trans hf
    by_cases c115 : w32 (iand ((xs (w32 S.2).toNat).toInt) 31) = 15
    · have hf := (if_pos c115).symm.trans hf
      refine j_tsw (tgt := 632) C c115 dL_law_32 (by decide) (by decide) rfl (by decide) ?_
      refine lv_aload_n C.1 C.2.1 dL_law_632 rfl (lv_at hl 1 rfl) ?_
      refine lv_aload_n C.1 C.2.1 dL_law_633 rfl (lv_at hl 0 rfl) ?_
      refine lv_iload_n C.1 C.2.1 dL_law_634 rfl (lv_at hl 3 rfl) ?_
      refine lv_iconst (v := Int32.ofInt 1) C.1 C.2.1 dL_law_635 rfl ?_
      refine j_iadd C dL_law_636 ?_
      obtain ⟨g116, hf⟩ := grd_e hf
      refine j_sldX C hO hX hbl hbA rfl g116.1 g116.2 dL_law_637 ?_
      refine lv_aload_n C.1 C.2.1 dL_law_638 rfl (lv_at hl 0 rfl) ?_
      refine lv_iload_n C.1 C.2.1 dL_law_639 rfl (lv_at hl 3 rfl) ?_
      refine lv_iconst (v := Int32.ofInt 2) C.1 C.2.1 dL_law_640 rfl ?_
      refine j_iadd C dL_law_641 ?_
      obtain ⟨g117, hf⟩ := grd_e hf
      refine j_sldX C hO hX hbl hbA rfl g117.1 g117.2 dL_law_642 ?_
      refine lv_aload_n C.1 C.2.1 dL_law_643 rfl (lv_at hl 0 rfl) ?_
      refine lv_iload_n C.1 C.2.1 dL_law_644 rfl (lv_at hl 3 rfl) ?_
      refine lv_iconst (v := Int32.ofInt 3) C.1 C.2.1 dL_law_645 rfl ?_
      refine j_iadd C dL_law_646 ?_
      obtain ⟨g118, hf⟩ := grd_e hf
      refine j_sldX C hO hX hbl hbA rfl g118.1 g118.2 dL_law_647 ?_
      obtain ⟨r119, hr119, hf⟩ := bnd_e hf
      refine j_callV C hO (n := 3) (As := [vI ((xs (w32 (S.2 + 1)).toNat).toInt), vI ((xs (w32 (S.2 + 2)).toNat).toInt), vI ((xs (w32 (S.2 + 3)).toNat).toInt)]) (st1 := [vI r119.1]) (c_X9_ring l G S.1 l1 ((xs (w32 (S.2 + 1)).toNat).toInt) ((xs (w32 (S.2 + 2)).toNat).toInt) ((xs (w32 (S.2 + 3)).toNat).toInt) h1 hr119) h1 rfl kC_30_15 kM_30_12 kI_30_13 kS_30_14 kN_1_2 ⟨by decide, by decide, by decide⟩ ⟨Nat.le_of_ble_eq_true rfl, Nat.le_of_ble_eq_true rfl⟩ rfl rfl rfl hl.1 rfl (Nat.le_of_ble_eq_true rfl) ⟨Nat.le_of_ble_eq_true rfl, Nat.le_of_ble_eq_true rfl⟩ dL_law_648 rfl (fun H locs hO => ?_)
      refine lv_aload_n C.1 C.2.1 dL_law_651 rfl (lv_at hl 2 rfl) ?_
      refine lv_aload_n C.1 C.2.1 dL_law_652 rfl (lv_at hl 0 rfl) ?_
      refine lv_iload_n C.1 C.2.1 dL_law_653 rfl (lv_at hl 3 rfl) ?_
      refine lv_iconst (v := Int32.ofInt 1) C.1 C.2.1 dL_law_654 rfl ?_
      refine j_iadd C dL_law_655 ?_
      obtain ⟨g120, hf⟩ := grd_e hf
      refine j_sldX C hO hX hbl hbA rfl g120.1 g120.2 dL_law_656 ?_
      refine lv_aload_n C.1 C.2.1 dL_law_657 rfl (lv_at hl 0 rfl) ?_
      refine lv_iload_n C.1 C.2.1 dL_law_658 rfl (lv_at hl 3 rfl) ?_
      refine lv_iconst (v := Int32.ofInt 2) C.1 C.2.1 dL_law_659 rfl ?_
      refine j_iadd C dL_law_660 ?_
      obtain ⟨g121, hf⟩ := grd_e hf
      refine j_sldX C hO hX hbl hbA rfl g121.1 g121.2 dL_law_661 ?_
      refine lv_aload_n C.1 C.2.1 dL_law_662 rfl (lv_at hl 0 rfl) ?_
      refine lv_iload_n C.1 C.2.1 dL_law_663 rfl (lv_at hl 3 rfl) ?_
      refine lv_iconst (v := Int32.ofInt 3) C.1 C.2.1 dL_law_664 rfl ?_
      refine j_iadd C dL_law_665 ?_
      obtain ⟨g122, hf⟩ := grd_e hf
      refine j_sldX C hO hX hbl hbA rfl g122.1 g122.2 dL_law_666 ?_
      obtain ⟨r123, hr123, hf⟩ := bnd_e hf
      refine j_callV C hO (n := 3) (As := [vI ((xs (w32 (S.2 + 1)).toNat).toInt), vI ((xs (w32 (S.2 + 2)).toNat).toInt), vI ((xs (w32 (S.2 + 3)).toNat).toInt)]) (st1 := [vI r123.1, vI r119.1]) (c_X10_ring l G r119.2 l2 ((xs (w32 (S.2 + 1)).toNat).toInt) ((xs (w32 (S.2 + 2)).toNat).toInt) ((xs (w32 (S.2 + 3)).toNat).toInt) h2 hr123) h2 rfl kC_31_0 kM_30_21 kI_30_22 kS_30_23 kN_1_5 ⟨by decide, by decide, by decide⟩ ⟨Nat.le_of_ble_eq_true rfl, Nat.le_of_ble_eq_true rfl⟩ rfl rfl rfl hl.1 rfl (Nat.le_of_ble_eq_true rfl) ⟨Nat.le_of_ble_eq_true rfl, Nat.le_of_ble_eq_true rfl⟩ dL_law_667 rfl (fun H locs hO => ?_)
      obtain ⟨g124, hf⟩ := grd_e hf
      refine j_icmp_eq (tgt := 1093) C rfl rfl dL_law_670 (by decide) (fun _ => ?_) (fun h => absurd g124 h)
      exact w_L_law_1093 hX hbl hbA hL C r123.2 l1 l2 S.2 h1 h2 hf kc kx0 hO (lv_sub hl [0, 1, 2, 3] rfl)
    have hf := (if_neg c115).symm.trans hf
    by_cases c125 : w32 (iand ((xs (w32 S.2).toNat).toInt) 31) = 16
    · have hf := (if_pos c125).symm.trans hf
      refine j_tsw (tgt := 675) C c125 dL_law_32 (by decide) (by decide) rfl (by decide) ?_
      refine lv_aload_n C.1 C.2.1 dL_law_675 rfl (lv_at hl 1 rfl) ?_
      refine lv_aload_n C.1 C.2.1 dL_law_676 rfl (lv_at hl 0 rfl) ?_
      refine lv_iload_n C.1 C.2.1 dL_law_677 rfl (lv_at hl 3 rfl) ?_
      refine lv_iconst (v := Int32.ofInt 1) C.1 C.2.1 dL_law_678 rfl ?_
      refine j_iadd C dL_law_679 ?_
      obtain ⟨g126, hf⟩ := grd_e hf
      refine j_sldX C hO hX hbl hbA rfl g126.1 g126.2 dL_law_680 ?_
      refine lv_aload_n C.1 C.2.1 dL_law_681 rfl (lv_at hl 0 rfl) ?_
      refine lv_iload_n C.1 C.2.1 dL_law_682 rfl (lv_at hl 3 rfl) ?_
      refine lv_iconst (v := Int32.ofInt 2) C.1 C.2.1 dL_law_683 rfl ?_
      refine j_iadd C dL_law_684 ?_
      obtain ⟨g127, hf⟩ := grd_e hf
      refine j_sldX C hO hX hbl hbA rfl g127.1 g127.2 dL_law_685 ?_
      refine lv_aload_n C.1 C.2.1 dL_law_686 rfl (lv_at hl 0 rfl) ?_
      refine lv_iload_n C.1 C.2.1 dL_law_687 rfl (lv_at hl 3 rfl) ?_
      refine lv_iconst (v := Int32.ofInt 3) C.1 C.2.1 dL_law_688 rfl ?_
      refine j_iadd C dL_law_689 ?_
      obtain ⟨g128, hf⟩ := grd_e hf
      refine j_sldX C hO hX hbl hbA rfl g128.1 g128.2 dL_law_690 ?_
      obtain ⟨r129, hr129, hf⟩ := bnd_e hf
      refine j_callV C hO (n := 3) (As := [vI ((xs (w32 (S.2 + 1)).toNat).toInt), vI ((xs (w32 (S.2 + 2)).toNat).toInt), vI ((xs (w32 (S.2 + 3)).toNat).toInt)]) (st1 := [vI r129.1]) (c_X9_pick l G S.1 l1 ((xs (w32 (S.2 + 1)).toNat).toInt) ((xs (w32 (S.2 + 2)).toNat).toInt) ((xs (w32 (S.2 + 3)).toNat).toInt) h1 hr129) h1 rfl kC_31_8 kM_31_5 kI_31_6 kS_31_7 kN_1_2 ⟨by decide, by decide, by decide⟩ ⟨Nat.le_of_ble_eq_true rfl, Nat.le_of_ble_eq_true rfl⟩ rfl rfl rfl hl.1 rfl (Nat.le_of_ble_eq_true rfl) ⟨Nat.le_of_ble_eq_true rfl, Nat.le_of_ble_eq_true rfl⟩ dL_law_691 rfl (fun H locs hO => ?_)
      refine lv_aload_n C.1 C.2.1 dL_law_694 rfl (lv_at hl 2 rfl) ?_
      refine lv_aload_n C.1 C.2.1 dL_law_695 rfl (lv_at hl 0 rfl) ?_
      refine lv_iload_n C.1 C.2.1 dL_law_696 rfl (lv_at hl 3 rfl) ?_
      refine lv_iconst (v := Int32.ofInt 1) C.1 C.2.1 dL_law_697 rfl ?_
      refine j_iadd C dL_law_698 ?_
      obtain ⟨g130, hf⟩ := grd_e hf
      refine j_sldX C hO hX hbl hbA rfl g130.1 g130.2 dL_law_699 ?_
      refine lv_aload_n C.1 C.2.1 dL_law_700 rfl (lv_at hl 0 rfl) ?_
      refine lv_iload_n C.1 C.2.1 dL_law_701 rfl (lv_at hl 3 rfl) ?_
      refine lv_iconst (v := Int32.ofInt 2) C.1 C.2.1 dL_law_702 rfl ?_
      refine j_iadd C dL_law_703 ?_
      obtain ⟨g131, hf⟩ := grd_e hf
      refine j_sldX C hO hX hbl hbA rfl g131.1 g131.2 dL_law_704 ?_
      refine lv_aload_n C.1 C.2.1 dL_law_705 rfl (lv_at hl 0 rfl) ?_
      refine lv_iload_n C.1 C.2.1 dL_law_706 rfl (lv_at hl 3 rfl) ?_
      refine lv_iconst (v := Int32.ofInt 3) C.1 C.2.1 dL_law_707 rfl ?_
      refine j_iadd C dL_law_708 ?_
      obtain ⟨g132, hf⟩ := grd_e hf
      refine j_sldX C hO hX hbl hbA rfl g132.1 g132.2 dL_law_709 ?_
      obtain ⟨r133, hr133, hf⟩ := bnd_e hf
      refine j_callV C hO (n := 3) (As := [vI ((xs (w32 (S.2 + 1)).toNat).toInt), vI ((xs (w32 (S.2 + 2)).toNat).toInt), vI ((xs (w32 (S.2 + 3)).toNat).toInt)]) (st1 := [vI r133.1, vI r129.1]) (c_X10_pick l G r129.2 l2 ((xs (w32 (S.2 + 1)).toNat).toInt) ((xs (w32 (S.2 + 2)).toNat).toInt) ((xs (w32 (S.2 + 3)).toNat).toInt) h2 hr133) h2 rfl kC_32_19 kM_32_16 kI_32_17 kS_32_18 kN_1_5 ⟨by decide, by decide, by decide⟩ ⟨Nat.le_of_ble_eq_true rfl, Nat.le_of_ble_eq_true rfl⟩ rfl rfl rfl hl.1 rfl (Nat.le_of_ble_eq_true rfl) ⟨Nat.le_of_ble_eq_true rfl, Nat.le_of_ble_eq_true rfl⟩ dL_law_710 rfl (fun H locs hO => ?_)
      obtain ⟨g134, hf⟩ := grd_e hf
      refine j_icmp_eq (tgt := 1093) C rfl rfl dL_law_713 (by decide) (fun _ => ?_) (fun h => absurd g134 h)
      exact w_L_law_1093 hX hbl hbA hL C r133.2 l1 l2 S.2 h1 h2 hf kc kx0 hO (lv_sub hl [0, 1, 2, 3] rfl)
    have hf := (if_neg c125).symm.trans hf
    by_cases c135 : w32 (iand ((xs (w32 S.2).toNat).toInt) 31) = 17
    · have hf := (if_pos c135).symm.trans hf
      refine j_tsw (tgt := 718) C c135 dL_law_32 (by decide) (by decide) rfl (by decide) ?_
      refine lv_aload_n C.1 C.2.1 dL_law_718 rfl (lv_at hl 1 rfl) ?_
      refine lv_aload_n C.1 C.2.1 dL_law_719 rfl (lv_at hl 0 rfl) ?_
      refine lv_iload_n C.1 C.2.1 dL_law_720 rfl (lv_at hl 3 rfl) ?_
      refine lv_iconst (v := Int32.ofInt 1) C.1 C.2.1 dL_law_721 rfl ?_
      refine j_iadd C dL_law_722 ?_
      obtain ⟨g136, hf⟩ := grd_e hf
      refine j_sldX C hO hX hbl hbA rfl g136.1 g136.2 dL_law_723 ?_
      refine lv_aload_n C.1 C.2.1 dL_law_724 rfl (lv_at hl 0 rfl) ?_
      refine lv_iload_n C.1 C.2.1 dL_law_725 rfl (lv_at hl 3 rfl) ?_
      refine lv_iconst (v := Int32.ofInt 2) C.1 C.2.1 dL_law_726 rfl ?_
      refine j_iadd C dL_law_727 ?_
      obtain ⟨g137, hf⟩ := grd_e hf
      refine j_sldX C hO hX hbl hbA rfl g137.1 g137.2 dL_law_728 ?_
      obtain ⟨r138, hr138, hf⟩ := bnd_e hf
      refine j_callV C hO (n := 2) (As := [vI ((xs (w32 (S.2 + 1)).toNat).toInt), vI ((xs (w32 (S.2 + 2)).toNat).toInt)]) (st1 := [vI r138.1]) (c_X9_fair l G S.1 l1 ((xs (w32 (S.2 + 1)).toNat).toInt) ((xs (w32 (S.2 + 2)).toNat).toInt) h1 hr138) h1 rfl kC_33_11 kM_33_8 kI_33_9 kS_33_10 kN_1_2 ⟨by decide, by decide, by decide⟩ ⟨Nat.le_of_ble_eq_true rfl, Nat.le_of_ble_eq_true rfl⟩ rfl rfl rfl hl.1 rfl (Nat.le_of_ble_eq_true rfl) ⟨Nat.le_of_ble_eq_true rfl, Nat.le_of_ble_eq_true rfl⟩ dL_law_729 rfl (fun H locs hO => ?_)
      refine lv_aload_n C.1 C.2.1 dL_law_732 rfl (lv_at hl 2 rfl) ?_
      refine lv_aload_n C.1 C.2.1 dL_law_733 rfl (lv_at hl 0 rfl) ?_
      refine lv_iload_n C.1 C.2.1 dL_law_734 rfl (lv_at hl 3 rfl) ?_
      refine lv_iconst (v := Int32.ofInt 1) C.1 C.2.1 dL_law_735 rfl ?_
      refine j_iadd C dL_law_736 ?_
      obtain ⟨g139, hf⟩ := grd_e hf
      refine j_sldX C hO hX hbl hbA rfl g139.1 g139.2 dL_law_737 ?_
      refine lv_aload_n C.1 C.2.1 dL_law_738 rfl (lv_at hl 0 rfl) ?_
      refine lv_iload_n C.1 C.2.1 dL_law_739 rfl (lv_at hl 3 rfl) ?_
      refine lv_iconst (v := Int32.ofInt 2) C.1 C.2.1 dL_law_740 rfl ?_
      refine j_iadd C dL_law_741 ?_
      obtain ⟨g140, hf⟩ := grd_e hf
      refine j_sldX C hO hX hbl hbA rfl g140.1 g140.2 dL_law_742 ?_
      obtain ⟨r141, hr141, hf⟩ := bnd_e hf
      refine j_callV C hO (n := 2) (As := [vI ((xs (w32 (S.2 + 1)).toNat).toInt), vI ((xs (w32 (S.2 + 2)).toNat).toInt)]) (st1 := [vI r141.1, vI r138.1]) (c_X10_fair l G r138.2 l2 ((xs (w32 (S.2 + 1)).toNat).toInt) ((xs (w32 (S.2 + 2)).toNat).toInt) h2 hr141) h2 rfl kC_34_0 kM_33_21 kI_33_22 kS_33_23 kN_1_5 ⟨by decide, by decide, by decide⟩ ⟨Nat.le_of_ble_eq_true rfl, Nat.le_of_ble_eq_true rfl⟩ rfl rfl rfl hl.1 rfl (Nat.le_of_ble_eq_true rfl) ⟨Nat.le_of_ble_eq_true rfl, Nat.le_of_ble_eq_true rfl⟩ dL_law_743 rfl (fun H locs hO => ?_)
      obtain ⟨g142, hf⟩ := grd_e hf
      refine j_icmp_eq (tgt := 1093) C rfl rfl dL_law_746 (by decide) (fun _ => ?_) (fun h => absurd g142 h)
      exact w_L_law_1093 hX hbl hbA hL C r141.2 l1 l2 S.2 h1 h2 hf kc kx0 hO (lv_sub hl [0, 1, 2, 3] rfl)
    have hf := (if_neg c135).symm.trans hf
    by_cases c143 : w32 (iand ((xs (w32 S.2).toNat).toInt) 31) = 18
    · have hf := (if_pos c143).symm.trans hf
      refine j_tsw (tgt := 751) C c143 dL_law_32 (by decide) (by decide) rfl (by decide) ?_
      refine lv_aload_n C.1 C.2.1 dL_law_751 rfl (lv_at hl 1 rfl) ?_
      refine lv_aload_n C.1 C.2.1 dL_law_752 rfl (lv_at hl 0 rfl) ?_
      refine lv_iload_n C.1 C.2.1 dL_law_753 rfl (lv_at hl 3 rfl) ?_
      refine lv_iconst (v := Int32.ofInt 1) C.1 C.2.1 dL_law_754 rfl ?_
      refine j_iadd C dL_law_755 ?_
      obtain ⟨g144, hf⟩ := grd_e hf
      refine j_sldX C hO hX hbl hbA rfl g144.1 g144.2 dL_law_756 ?_
      refine lv_aload_n C.1 C.2.1 dL_law_757 rfl (lv_at hl 0 rfl) ?_
      refine lv_iload_n C.1 C.2.1 dL_law_758 rfl (lv_at hl 3 rfl) ?_
      refine lv_iconst (v := Int32.ofInt 2) C.1 C.2.1 dL_law_759 rfl ?_
      refine j_iadd C dL_law_760 ?_
      obtain ⟨g145, hf⟩ := grd_e hf
      refine j_sldX C hO hX hbl hbA rfl g145.1 g145.2 dL_law_761 ?_
      refine lv_aload_n C.1 C.2.1 dL_law_762 rfl (lv_at hl 0 rfl) ?_
      refine lv_iload_n C.1 C.2.1 dL_law_763 rfl (lv_at hl 3 rfl) ?_
      refine lv_iconst (v := Int32.ofInt 3) C.1 C.2.1 dL_law_764 rfl ?_
      refine j_iadd C dL_law_765 ?_
      obtain ⟨g146, hf⟩ := grd_e hf
      refine j_sldX C hO hX hbl hbA rfl g146.1 g146.2 dL_law_766 ?_
      obtain ⟨r147, hr147, hf⟩ := bnd_e hf
      refine j_callV C hO (n := 3) (As := [vI ((xs (w32 (S.2 + 1)).toNat).toInt), vI ((xs (w32 (S.2 + 2)).toNat).toInt), vI ((xs (w32 (S.2 + 3)).toNat).toInt)]) (st1 := [vL r147.1]) (c_X9_within l G S.1 l1 ((xs (w32 (S.2 + 1)).toNat).toInt) ((xs (w32 (S.2 + 2)).toNat).toInt) ((xs (w32 (S.2 + 3)).toNat).toInt) h1 hr147) h1 rfl kC_34_4 kM_34_1 kI_34_2 kS_34_3 kN_1_2 ⟨by decide, by decide, by decide⟩ ⟨Nat.le_of_ble_eq_true rfl, Nat.le_of_ble_eq_true rfl⟩ rfl rfl rfl hl.1 rfl (Nat.le_of_ble_eq_true rfl) ⟨Nat.le_of_ble_eq_true rfl, Nat.le_of_ble_eq_true rfl⟩ dL_law_767 rfl (fun H locs hO => ?_)
      refine lv_aload_n C.1 C.2.1 dL_law_770 rfl (lv_at hl 2 rfl) ?_
      refine lv_aload_n C.1 C.2.1 dL_law_771 rfl (lv_at hl 0 rfl) ?_
      refine lv_iload_n C.1 C.2.1 dL_law_772 rfl (lv_at hl 3 rfl) ?_
      refine lv_iconst (v := Int32.ofInt 1) C.1 C.2.1 dL_law_773 rfl ?_
      refine j_iadd C dL_law_774 ?_
      obtain ⟨g148, hf⟩ := grd_e hf
      refine j_sldX C hO hX hbl hbA rfl g148.1 g148.2 dL_law_775 ?_
      refine lv_aload_n C.1 C.2.1 dL_law_776 rfl (lv_at hl 0 rfl) ?_
      refine lv_iload_n C.1 C.2.1 dL_law_777 rfl (lv_at hl 3 rfl) ?_
      refine lv_iconst (v := Int32.ofInt 2) C.1 C.2.1 dL_law_778 rfl ?_
      refine j_iadd C dL_law_779 ?_
      obtain ⟨g149, hf⟩ := grd_e hf
      refine j_sldX C hO hX hbl hbA rfl g149.1 g149.2 dL_law_780 ?_
      refine lv_aload_n C.1 C.2.1 dL_law_781 rfl (lv_at hl 0 rfl) ?_
      refine lv_iload_n C.1 C.2.1 dL_law_782 rfl (lv_at hl 3 rfl) ?_
      refine lv_iconst (v := Int32.ofInt 3) C.1 C.2.1 dL_law_783 rfl ?_
      refine j_iadd C dL_law_784 ?_
      obtain ⟨g150, hf⟩ := grd_e hf
      refine j_sldX C hO hX hbl hbA rfl g150.1 g150.2 dL_law_785 ?_
      obtain ⟨r151, hr151, hf⟩ := bnd_e hf
      refine j_callV C hO (n := 3) (As := [vI ((xs (w32 (S.2 + 1)).toNat).toInt), vI ((xs (w32 (S.2 + 2)).toNat).toInt), vI ((xs (w32 (S.2 + 3)).toNat).toInt)]) (st1 := [vL r151.1, vL r147.1]) (c_X10_within l G r147.2 l2 ((xs (w32 (S.2 + 1)).toNat).toInt) ((xs (w32 (S.2 + 2)).toNat).toInt) ((xs (w32 (S.2 + 3)).toNat).toInt) h2 hr151) h2 rfl kC_36_3 kM_36_0 kI_36_1 kS_36_2 kN_1_5 ⟨by decide, by decide, by decide⟩ ⟨Nat.le_of_ble_eq_true rfl, Nat.le_of_ble_eq_true rfl⟩ rfl rfl rfl hl.1 rfl (Nat.le_of_ble_eq_true rfl) ⟨Nat.le_of_ble_eq_true rfl, Nat.le_of_ble_eq_true rfl⟩ dL_law_786 rfl (fun H locs hO => ?_)
      obtain ⟨g152, hf⟩ := grd_e hf
      refine j_lcmp_eq (tgt := 1093) C rfl rfl dL_law_789 dL_law_790 (by decide) (fun _ => ?_) (fun h => absurd g152 h)
      exact w_L_law_1093 hX hbl hbA hL C r151.2 l1 l2 S.2 h1 h2 hf kc kx0 hO (lv_sub hl [0, 1, 2, 3] rfl)
    have hf := (if_neg c143).symm.trans hf
    by_cases c153 : w32 (iand ((xs (w32 S.2).toNat).toInt) 31) = 19
    · have hf := (if_pos c153).symm.trans hf
      refine j_tsw (tgt := 795) C c153 dL_law_32 (by decide) (by decide) rfl (by decide) ?_
      refine lv_aload_n C.1 C.2.1 dL_law_795 rfl (lv_at hl 1 rfl) ?_
      refine lv_aload_n C.1 C.2.1 dL_law_796 rfl (lv_at hl 0 rfl) ?_
      refine lv_iload_n C.1 C.2.1 dL_law_797 rfl (lv_at hl 3 rfl) ?_
      refine lv_iconst (v := Int32.ofInt 1) C.1 C.2.1 dL_law_798 rfl ?_
      refine j_iadd C dL_law_799 ?_
      obtain ⟨g154, hf⟩ := grd_e hf
      refine j_sldX C hO hX hbl hbA rfl g154.1 g154.2 dL_law_800 ?_
      refine lv_aload_n C.1 C.2.1 dL_law_801 rfl (lv_at hl 0 rfl) ?_
      refine lv_iload_n C.1 C.2.1 dL_law_802 rfl (lv_at hl 3 rfl) ?_
      refine lv_iconst (v := Int32.ofInt 2) C.1 C.2.1 dL_law_803 rfl ?_
      refine j_iadd C dL_law_804 ?_
      obtain ⟨g155, hf⟩ := grd_e hf
      refine j_sldX C hO hX hbl hbA rfl g155.1 g155.2 dL_law_805 ?_
      refine lv_aload_n C.1 C.2.1 dL_law_806 rfl (lv_at hl 0 rfl) ?_
      refine lv_iload_n C.1 C.2.1 dL_law_807 rfl (lv_at hl 3 rfl) ?_
      refine lv_iconst (v := Int32.ofInt 3) C.1 C.2.1 dL_law_808 rfl ?_
      refine j_iadd C dL_law_809 ?_
      obtain ⟨g156, hf⟩ := grd_e hf
      refine j_sldX C hO hX hbl hbA rfl g156.1 g156.2 dL_law_810 ?_
      obtain ⟨r157, hr157, hf⟩ := bnd_e hf
      refine j_callV C hO (n := 3) (As := [vI ((xs (w32 (S.2 + 1)).toNat).toInt), vI ((xs (w32 (S.2 + 2)).toNat).toInt), vI ((xs (w32 (S.2 + 3)).toNat).toInt)]) (st1 := [vL r157.1]) (c_X9_often l G S.1 l1 ((xs (w32 (S.2 + 1)).toNat).toInt) ((xs (w32 (S.2 + 2)).toNat).toInt) ((xs (w32 (S.2 + 3)).toNat).toInt) h1 hr157) h1 rfl kC_37_6 kM_37_3 kI_37_4 kS_37_5 kN_1_2 ⟨by decide, by decide, by decide⟩ ⟨Nat.le_of_ble_eq_true rfl, Nat.le_of_ble_eq_true rfl⟩ rfl rfl rfl hl.1 rfl (Nat.le_of_ble_eq_true rfl) ⟨Nat.le_of_ble_eq_true rfl, Nat.le_of_ble_eq_true rfl⟩ dL_law_811 rfl (fun H locs hO => ?_)
      refine lv_aload_n C.1 C.2.1 dL_law_814 rfl (lv_at hl 2 rfl) ?_
      refine lv_aload_n C.1 C.2.1 dL_law_815 rfl (lv_at hl 0 rfl) ?_
      refine lv_iload_n C.1 C.2.1 dL_law_816 rfl (lv_at hl 3 rfl) ?_
      refine lv_iconst (v := Int32.ofInt 1) C.1 C.2.1 dL_law_817 rfl ?_
      refine j_iadd C dL_law_818 ?_
      obtain ⟨g158, hf⟩ := grd_e hf
      refine j_sldX C hO hX hbl hbA rfl g158.1 g158.2 dL_law_819 ?_
      refine lv_aload_n C.1 C.2.1 dL_law_820 rfl (lv_at hl 0 rfl) ?_
      refine lv_iload_n C.1 C.2.1 dL_law_821 rfl (lv_at hl 3 rfl) ?_
      refine lv_iconst (v := Int32.ofInt 2) C.1 C.2.1 dL_law_822 rfl ?_
      refine j_iadd C dL_law_823 ?_
      obtain ⟨g159, hf⟩ := grd_e hf
      refine j_sldX C hO hX hbl hbA rfl g159.1 g159.2 dL_law_824 ?_
      refine lv_aload_n C.1 C.2.1 dL_law_825 rfl (lv_at hl 0 rfl) ?_
      refine lv_iload_n C.1 C.2.1 dL_law_826 rfl (lv_at hl 3 rfl) ?_
      refine lv_iconst (v := Int32.ofInt 3) C.1 C.2.1 dL_law_827 rfl ?_
      refine j_iadd C dL_law_828 ?_
      obtain ⟨g160, hf⟩ := grd_e hf
      refine j_sldX C hO hX hbl hbA rfl g160.1 g160.2 dL_law_829 ?_
      obtain ⟨r161, hr161, hf⟩ := bnd_e hf
      refine j_callV C hO (n := 3) (As := [vI ((xs (w32 (S.2 + 1)).toNat).toInt), vI ((xs (w32 (S.2 + 2)).toNat).toInt), vI ((xs (w32 (S.2 + 3)).toNat).toInt)]) (st1 := [vL r161.1, vL r157.1]) (c_X10_often l G r157.2 l2 ((xs (w32 (S.2 + 1)).toNat).toInt) ((xs (w32 (S.2 + 2)).toNat).toInt) ((xs (w32 (S.2 + 3)).toNat).toInt) h2 hr161) h2 rfl kC_37_13 kM_37_10 kI_37_11 kS_37_12 kN_1_5 ⟨by decide, by decide, by decide⟩ ⟨Nat.le_of_ble_eq_true rfl, Nat.le_of_ble_eq_true rfl⟩ rfl rfl rfl hl.1 rfl (Nat.le_of_ble_eq_true rfl) ⟨Nat.le_of_ble_eq_true rfl, Nat.le_of_ble_eq_true rfl⟩ dL_law_830 rfl (fun H locs hO => ?_)
      obtain ⟨g162, hf⟩ := grd_e hf
      refine j_lcmp_eq (tgt := 1093) C rfl rfl dL_law_833 dL_law_834 (by decide) (fun _ => ?_) (fun h => absurd g162 h)
      exact w_L_law_1093 hX hbl hbA hL C r161.2 l1 l2 S.2 h1 h2 hf kc kx0 hO (lv_sub hl [0, 1, 2, 3] rfl)
    have hf := (if_neg c153).symm.trans hf
    by_cases c163 : w32 (iand ((xs (w32 S.2).toNat).toInt) 31) = 20
    · have hf := (if_pos c163).symm.trans hf
      refine j_tsw (tgt := 839) C c163 dL_law_32 (by decide) (by decide) rfl (by decide) ?_
      refine lv_aload_n C.1 C.2.1 dL_law_839 rfl (lv_at hl 1 rfl) ?_
      refine lv_aload_n C.1 C.2.1 dL_law_840 rfl (lv_at hl 0 rfl) ?_
      refine lv_iload_n C.1 C.2.1 dL_law_841 rfl (lv_at hl 3 rfl) ?_
      refine lv_iconst (v := Int32.ofInt 1) C.1 C.2.1 dL_law_842 rfl ?_
      refine j_iadd C dL_law_843 ?_
      obtain ⟨g164, hf⟩ := grd_e hf
      refine j_sldX C hO hX hbl hbA rfl g164.1 g164.2 dL_law_844 ?_
      obtain ⟨r165, hr165, hf⟩ := bnd_e hf
      refine j_callV C hO (n := 1) (As := [vI ((xs (w32 (S.2 + 1)).toNat).toInt)]) (st1 := [vL r165.1]) (c_X9_free l G S.1 l1 ((xs (w32 (S.2 + 1)).toNat).toInt) h1 hr165) h1 rfl kC_37_17 kM_37_14 kI_37_15 kS_37_16 kN_1_2 ⟨by decide, by decide, by decide⟩ ⟨Nat.le_of_ble_eq_true rfl, Nat.le_of_ble_eq_true rfl⟩ rfl rfl rfl hl.1 rfl (Nat.le_of_ble_eq_true rfl) ⟨Nat.le_of_ble_eq_true rfl, Nat.le_of_ble_eq_true rfl⟩ dL_law_845 rfl (fun H locs hO => ?_)
      refine lv_aload_n C.1 C.2.1 dL_law_848 rfl (lv_at hl 2 rfl) ?_
      refine lv_aload_n C.1 C.2.1 dL_law_849 rfl (lv_at hl 0 rfl) ?_
      refine lv_iload_n C.1 C.2.1 dL_law_850 rfl (lv_at hl 3 rfl) ?_
      refine lv_iconst (v := Int32.ofInt 1) C.1 C.2.1 dL_law_851 rfl ?_
      refine j_iadd C dL_law_852 ?_
      obtain ⟨g166, hf⟩ := grd_e hf
      refine j_sldX C hO hX hbl hbA rfl g166.1 g166.2 dL_law_853 ?_
      obtain ⟨r167, hr167, hf⟩ := bnd_e hf
      refine j_callV C hO (n := 1) (As := [vI ((xs (w32 (S.2 + 1)).toNat).toInt)]) (st1 := [vL r167.1, vL r165.1]) (c_X10_free l G r165.2 l2 ((xs (w32 (S.2 + 1)).toNat).toInt) h2 hr167) h2 rfl kC_38_1 kM_37_22 kI_37_23 kS_38_0 kN_1_5 ⟨by decide, by decide, by decide⟩ ⟨Nat.le_of_ble_eq_true rfl, Nat.le_of_ble_eq_true rfl⟩ rfl rfl rfl hl.1 rfl (Nat.le_of_ble_eq_true rfl) ⟨Nat.le_of_ble_eq_true rfl, Nat.le_of_ble_eq_true rfl⟩ dL_law_854 rfl (fun H locs hO => ?_)
      obtain ⟨g168, hf⟩ := grd_e hf
      refine j_lcmp_eq (tgt := 1093) C rfl rfl dL_law_857 dL_law_858 (by decide) (fun _ => ?_) (fun h => absurd g168 h)
      exact w_L_law_1093 hX hbl hbA hL C r167.2 l1 l2 S.2 h1 h2 hf kc kx0 hO (lv_sub hl [0, 1, 2, 3] rfl)
    have hf := (if_neg c163).symm.trans hf
    by_cases c169 : w32 (iand ((xs (w32 S.2).toNat).toInt) 31) = 21
    · have hf := (if_pos c169).symm.trans hf
      refine j_tsw (tgt := 863) C c169 dL_law_32 (by decide) (by decide) rfl (by decide) ?_
      refine lv_aload_n C.1 C.2.1 dL_law_863 rfl (lv_at hl 1 rfl) ?_
      refine lv_aload_n C.1 C.2.1 dL_law_864 rfl (lv_at hl 0 rfl) ?_
      refine lv_iload_n C.1 C.2.1 dL_law_865 rfl (lv_at hl 3 rfl) ?_
      refine lv_iconst (v := Int32.ofInt 1) C.1 C.2.1 dL_law_866 rfl ?_
      refine j_iadd C dL_law_867 ?_
      obtain ⟨g170, hf⟩ := grd_e hf
      refine j_sldX C hO hX hbl hbA rfl g170.1 g170.2 dL_law_868 ?_
      obtain ⟨r171, hr171, hf⟩ := bnd_e hf
      refine j_callV C hO (n := 1) (As := [vI ((xs (w32 (S.2 + 1)).toNat).toInt)]) (st1 := [vI r171.1]) (c_X9_toss l G S.1 l1 ((xs (w32 (S.2 + 1)).toNat).toInt) h1 hr171) h1 rfl kC_38_5 kM_38_2 kI_38_3 kS_38_4 kN_1_2 ⟨by decide, by decide, by decide⟩ ⟨Nat.le_of_ble_eq_true rfl, Nat.le_of_ble_eq_true rfl⟩ rfl rfl rfl hl.1 rfl (Nat.le_of_ble_eq_true rfl) ⟨Nat.le_of_ble_eq_true rfl, Nat.le_of_ble_eq_true rfl⟩ dL_law_869 rfl (fun H locs hO => ?_)
      refine lv_aload_n C.1 C.2.1 dL_law_872 rfl (lv_at hl 2 rfl) ?_
      refine lv_aload_n C.1 C.2.1 dL_law_873 rfl (lv_at hl 0 rfl) ?_
      refine lv_iload_n C.1 C.2.1 dL_law_874 rfl (lv_at hl 3 rfl) ?_
      refine lv_iconst (v := Int32.ofInt 1) C.1 C.2.1 dL_law_875 rfl ?_
      refine j_iadd C dL_law_876 ?_
      obtain ⟨g172, hf⟩ := grd_e hf
      refine j_sldX C hO hX hbl hbA rfl g172.1 g172.2 dL_law_877 ?_
      obtain ⟨r173, hr173, hf⟩ := bnd_e hf
      refine j_callV C hO (n := 1) (As := [vI ((xs (w32 (S.2 + 1)).toNat).toInt)]) (st1 := [vI r173.1, vI r171.1]) (c_X10_toss l G r171.2 l2 ((xs (w32 (S.2 + 1)).toNat).toInt) h2 hr173) h2 rfl kC_38_9 kM_38_6 kI_38_7 kS_38_8 kN_1_5 ⟨by decide, by decide, by decide⟩ ⟨Nat.le_of_ble_eq_true rfl, Nat.le_of_ble_eq_true rfl⟩ rfl rfl rfl hl.1 rfl (Nat.le_of_ble_eq_true rfl) ⟨Nat.le_of_ble_eq_true rfl, Nat.le_of_ble_eq_true rfl⟩ dL_law_878 rfl (fun H locs hO => ?_)
      obtain ⟨g174, hf⟩ := grd_e hf
      refine j_icmp_eq (tgt := 1093) C rfl rfl dL_law_881 (by decide) (fun _ => ?_) (fun h => absurd g174 h)
      exact w_L_law_1093 hX hbl hbA hL C r173.2 l1 l2 S.2 h1 h2 hf kc kx0 hO (lv_sub hl [0, 1, 2, 3] rfl)
    have hf := (if_neg c169).symm.trans hf
    by_cases c175 : w32 (iand ((xs (w32 S.2).toNat).toInt) 31) = 22
    · have hf := (if_pos c175).symm.trans hf
      refine j_tsw (tgt := 886) C c175 dL_law_32 (by decide) (by decide) rfl (by decide) ?_
      refine lv_aload_n C.1 C.2.1 dL_law_886 rfl (lv_at hl 1 rfl) ?_
      refine lv_aload_n C.1 C.2.1 dL_law_887 rfl (lv_at hl 0 rfl) ?_
      refine lv_iload_n C.1 C.2.1 dL_law_888 rfl (lv_at hl 3 rfl) ?_
      refine lv_iconst (v := Int32.ofInt 1) C.1 C.2.1 dL_law_889 rfl ?_
      refine j_iadd C dL_law_890 ?_
      obtain ⟨g176, hf⟩ := grd_e hf
      refine j_sldX C hO hX hbl hbA rfl g176.1 g176.2 dL_law_891 ?_
      obtain ⟨r177, hr177, hf⟩ := bnd_e hf
      refine j_callV C hO (n := 1) (As := [vI ((xs (w32 (S.2 + 1)).toNat).toInt)]) (st1 := [vI r177]) (c_X9_came l G S.1 l1 ((xs (w32 (S.2 + 1)).toNat).toInt) h1 hr177) h1 rfl kC_38_13 kM_38_10 kI_38_11 kS_38_12 kN_1_2 ⟨by decide, by decide, by decide⟩ ⟨Nat.le_of_ble_eq_true rfl, Nat.le_of_ble_eq_true rfl⟩ rfl rfl rfl hl.1 rfl (Nat.le_of_ble_eq_true rfl) ⟨Nat.le_of_ble_eq_true rfl, Nat.le_of_ble_eq_true rfl⟩ dL_law_892 rfl (fun H locs hO => ?_)
      refine lv_aload_n C.1 C.2.1 dL_law_895 rfl (lv_at hl 2 rfl) ?_
      refine lv_aload_n C.1 C.2.1 dL_law_896 rfl (lv_at hl 0 rfl) ?_
      refine lv_iload_n C.1 C.2.1 dL_law_897 rfl (lv_at hl 3 rfl) ?_
      refine lv_iconst (v := Int32.ofInt 1) C.1 C.2.1 dL_law_898 rfl ?_
      refine j_iadd C dL_law_899 ?_
      obtain ⟨g178, hf⟩ := grd_e hf
      refine j_sldX C hO hX hbl hbA rfl g178.1 g178.2 dL_law_900 ?_
      obtain ⟨r179, hr179, hf⟩ := bnd_e hf
      refine j_callV C hO (n := 1) (As := [vI ((xs (w32 (S.2 + 1)).toNat).toInt)]) (st1 := [vI r179, vI r177]) (c_X10_came l G S.1 l2 ((xs (w32 (S.2 + 1)).toNat).toInt) h2 hr179) h2 rfl kC_38_18 kM_38_15 kI_38_16 kS_38_17 kN_1_5 ⟨by decide, by decide, by decide⟩ ⟨Nat.le_of_ble_eq_true rfl, Nat.le_of_ble_eq_true rfl⟩ rfl rfl rfl hl.1 rfl (Nat.le_of_ble_eq_true rfl) ⟨Nat.le_of_ble_eq_true rfl, Nat.le_of_ble_eq_true rfl⟩ dL_law_901 rfl (fun H locs hO => ?_)
      obtain ⟨g180, hf⟩ := grd_e hf
      refine j_icmp_eq (tgt := 1093) C rfl rfl dL_law_904 (by decide) (fun _ => ?_) (fun h => absurd g180 h)
      exact w_L_law_1093 hX hbl hbA hL C S.1 l1 l2 S.2 h1 h2 hf kc kx0 hO (lv_sub hl [0, 1, 2, 3] rfl)
    have hf := (if_neg c175).symm.trans hf
    by_cases c181 : w32 (iand ((xs (w32 S.2).toNat).toInt) 31) = 23
    · have hf := (if_pos c181).symm.trans hf
      refine j_tsw (tgt := 909) C c181 dL_law_32 (by decide) (by decide) rfl (by decide) ?_
      refine lv_aload_n C.1 C.2.1 dL_law_909 rfl (lv_at hl 1 rfl) ?_
      refine lv_aload_n C.1 C.2.1 dL_law_910 rfl (lv_at hl 0 rfl) ?_
      refine lv_iload_n C.1 C.2.1 dL_law_911 rfl (lv_at hl 3 rfl) ?_
      refine lv_iconst (v := Int32.ofInt 1) C.1 C.2.1 dL_law_912 rfl ?_
      refine j_iadd C dL_law_913 ?_
      obtain ⟨g182, hf⟩ := grd_e hf
      refine j_sldX C hO hX hbl hbA rfl g182.1 g182.2 dL_law_914 ?_
      obtain ⟨r183, hr183, hf⟩ := bnd_e hf
      refine j_callV C hO (n := 1) (As := [vI ((xs (w32 (S.2 + 1)).toNat).toInt)]) (st1 := [vI r183]) (c_X9_ends l G S.1 l1 ((xs (w32 (S.2 + 1)).toNat).toInt) h1 hr183) h1 rfl kC_39_2 kM_38_23 kI_39_0 kS_39_1 kN_1_2 ⟨by decide, by decide, by decide⟩ ⟨Nat.le_of_ble_eq_true rfl, Nat.le_of_ble_eq_true rfl⟩ rfl rfl rfl hl.1 rfl (Nat.le_of_ble_eq_true rfl) ⟨Nat.le_of_ble_eq_true rfl, Nat.le_of_ble_eq_true rfl⟩ dL_law_915 rfl (fun H locs hO => ?_)
      refine lv_aload_n C.1 C.2.1 dL_law_918 rfl (lv_at hl 2 rfl) ?_
      refine lv_aload_n C.1 C.2.1 dL_law_919 rfl (lv_at hl 0 rfl) ?_
      refine lv_iload_n C.1 C.2.1 dL_law_920 rfl (lv_at hl 3 rfl) ?_
      refine lv_iconst (v := Int32.ofInt 1) C.1 C.2.1 dL_law_921 rfl ?_
      refine j_iadd C dL_law_922 ?_
      obtain ⟨g184, hf⟩ := grd_e hf
      refine j_sldX C hO hX hbl hbA rfl g184.1 g184.2 dL_law_923 ?_
      obtain ⟨r185, hr185, hf⟩ := bnd_e hf
      refine j_callV C hO (n := 1) (As := [vI ((xs (w32 (S.2 + 1)).toNat).toInt)]) (st1 := [vI r185, vI r183]) (c_X10_ends l G S.1 l2 ((xs (w32 (S.2 + 1)).toNat).toInt) h2 hr185) h2 rfl kC_39_7 kM_39_4 kI_39_5 kS_39_6 kN_1_5 ⟨by decide, by decide, by decide⟩ ⟨Nat.le_of_ble_eq_true rfl, Nat.le_of_ble_eq_true rfl⟩ rfl rfl rfl hl.1 rfl (Nat.le_of_ble_eq_true rfl) ⟨Nat.le_of_ble_eq_true rfl, Nat.le_of_ble_eq_true rfl⟩ dL_law_924 rfl (fun H locs hO => ?_)
      obtain ⟨g186, hf⟩ := grd_e hf
      refine j_icmp_eq (tgt := 1093) C rfl rfl dL_law_927 (by decide) (fun _ => ?_) (fun h => absurd g186 h)
      exact w_L_law_1093 hX hbl hbA hL C S.1 l1 l2 S.2 h1 h2 hf kc kx0 hO (lv_sub hl [0, 1, 2, 3] rfl)
    have hf := (if_neg c181).symm.trans hf
    by_cases c187 : w32 (iand ((xs (w32 S.2).toNat).toInt) 31) = 24
    · have hf := (if_pos c187).symm.trans hf
      refine j_tsw (tgt := 932) C c187 dL_law_32 (by decide) (by decide) rfl (by decide) ?_
      refine lv_aload_n C.1 C.2.1 dL_law_932 rfl (lv_at hl 1 rfl) ?_
      obtain ⟨r188, hr188, hf⟩ := bnd_e hf
      refine j_callV C hO (n := 0) (As := []) (st1 := [vI r188]) (c_X9_ahead l G S.1 l1 h1 hr188) h1 rfl kC_39_11 kM_39_8 kI_39_9 kS_39_10 kN_1_2 ⟨by decide, by decide, by decide⟩ ⟨Nat.le_of_ble_eq_true rfl, Nat.le_of_ble_eq_true rfl⟩ rfl rfl rfl hl.1 rfl (Nat.le_of_ble_eq_true rfl) ⟨Nat.le_of_ble_eq_true rfl, Nat.le_of_ble_eq_true rfl⟩ dL_law_933 rfl (fun H locs hO => ?_)
      refine lv_aload_n C.1 C.2.1 dL_law_936 rfl (lv_at hl 2 rfl) ?_
      obtain ⟨r189, hr189, hf⟩ := bnd_e hf
      refine j_callV C hO (n := 0) (As := []) (st1 := [vI r189, vI r188]) (c_X10_ahead l G S.1 l2 h2 hr189) h2 rfl kC_39_15 kM_39_12 kI_39_13 kS_39_14 kN_1_5 ⟨by decide, by decide, by decide⟩ ⟨Nat.le_of_ble_eq_true rfl, Nat.le_of_ble_eq_true rfl⟩ rfl rfl rfl hl.1 rfl (Nat.le_of_ble_eq_true rfl) ⟨Nat.le_of_ble_eq_true rfl, Nat.le_of_ble_eq_true rfl⟩ dL_law_937 rfl (fun H locs hO => ?_)
      obtain ⟨g190, hf⟩ := grd_e hf
      refine j_icmp_eq (tgt := 1093) C rfl rfl dL_law_940 (by decide) (fun _ => ?_) (fun h => absurd g190 h)
      exact w_L_law_1093 hX hbl hbA hL C S.1 l1 l2 S.2 h1 h2 hf kc kx0 hO (lv_sub hl [0, 1, 2, 3] rfl)
    have hf := (if_neg c187).symm.trans hf
    by_cases c191 : w32 (iand ((xs (w32 S.2).toNat).toInt) 31) = 25
    · have hf := (if_pos c191).symm.trans hf
      refine j_tsw (tgt := 945) C c191 dL_law_32 (by decide) (by decide) rfl (by decide) ?_
      refine lv_aload_n C.1 C.2.1 dL_law_945 rfl (lv_at hl 1 rfl) ?_
      refine lv_aload_n C.1 C.2.1 dL_law_946 rfl (lv_at hl 0 rfl) ?_
      refine lv_iload_n C.1 C.2.1 dL_law_947 rfl (lv_at hl 3 rfl) ?_
      refine lv_iconst (v := Int32.ofInt 1) C.1 C.2.1 dL_law_948 rfl ?_
      refine j_iadd C dL_law_949 ?_
      obtain ⟨g192, hf⟩ := grd_e hf
      refine j_sldX C hO hX hbl hbA rfl g192.1 g192.2 dL_law_950 ?_
      refine lv_aload_n C.1 C.2.1 dL_law_951 rfl (lv_at hl 0 rfl) ?_
      refine lv_iload_n C.1 C.2.1 dL_law_952 rfl (lv_at hl 3 rfl) ?_
      refine lv_iconst (v := Int32.ofInt 2) C.1 C.2.1 dL_law_953 rfl ?_
      refine j_iadd C dL_law_954 ?_
      obtain ⟨g193, hf⟩ := grd_e hf
      refine j_sldX C hO hX hbl hbA rfl g193.1 g193.2 dL_law_955 ?_
      refine lv_aload_n C.1 C.2.1 dL_law_956 rfl (lv_at hl 0 rfl) ?_
      refine lv_iload_n C.1 C.2.1 dL_law_957 rfl (lv_at hl 3 rfl) ?_
      refine lv_iconst (v := Int32.ofInt 3) C.1 C.2.1 dL_law_958 rfl ?_
      refine j_iadd C dL_law_959 ?_
      obtain ⟨g194, hf⟩ := grd_e hf
      refine j_sldX C hO hX hbl hbA rfl g194.1 g194.2 dL_law_960 ?_
      obtain ⟨r195, hr195, hf⟩ := bnd_e hf
      refine j_callV C hO (n := 3) (As := [vI ((xs (w32 (S.2 + 1)).toNat).toInt), vI ((xs (w32 (S.2 + 2)).toNat).toInt), vI ((xs (w32 (S.2 + 3)).toNat).toInt)]) (st1 := [vI r195.1]) (c_X9_act l G S.1 l1 ((xs (w32 (S.2 + 1)).toNat).toInt) ((xs (w32 (S.2 + 2)).toNat).toInt) ((xs (w32 (S.2 + 3)).toNat).toInt) h1 hr195) h1 rfl kC_39_19 kM_39_16 kI_39_17 kS_39_18 kN_1_2 ⟨by decide, by decide, by decide⟩ ⟨Nat.le_of_ble_eq_true rfl, Nat.le_of_ble_eq_true rfl⟩ rfl rfl rfl hl.1 rfl (Nat.le_of_ble_eq_true rfl) ⟨Nat.le_of_ble_eq_true rfl, Nat.le_of_ble_eq_true rfl⟩ dL_law_961 rfl (fun H locs hO => ?_)
      refine lv_aload_n C.1 C.2.1 dL_law_964 rfl (lv_at hl 2 rfl) ?_
      refine lv_aload_n C.1 C.2.1 dL_law_965 rfl (lv_at hl 0 rfl) ?_
      refine lv_iload_n C.1 C.2.1 dL_law_966 rfl (lv_at hl 3 rfl) ?_
      refine lv_iconst (v := Int32.ofInt 1) C.1 C.2.1 dL_law_967 rfl ?_
      refine j_iadd C dL_law_968 ?_
      obtain ⟨g196, hf⟩ := grd_e hf
      refine j_sldX C hO hX hbl hbA rfl g196.1 g196.2 dL_law_969 ?_
      refine lv_aload_n C.1 C.2.1 dL_law_970 rfl (lv_at hl 0 rfl) ?_
      refine lv_iload_n C.1 C.2.1 dL_law_971 rfl (lv_at hl 3 rfl) ?_
      refine lv_iconst (v := Int32.ofInt 2) C.1 C.2.1 dL_law_972 rfl ?_
      refine j_iadd C dL_law_973 ?_
      obtain ⟨g197, hf⟩ := grd_e hf
      refine j_sldX C hO hX hbl hbA rfl g197.1 g197.2 dL_law_974 ?_
      refine lv_aload_n C.1 C.2.1 dL_law_975 rfl (lv_at hl 0 rfl) ?_
      refine lv_iload_n C.1 C.2.1 dL_law_976 rfl (lv_at hl 3 rfl) ?_
      refine lv_iconst (v := Int32.ofInt 3) C.1 C.2.1 dL_law_977 rfl ?_
      refine j_iadd C dL_law_978 ?_
      obtain ⟨g198, hf⟩ := grd_e hf
      refine j_sldX C hO hX hbl hbA rfl g198.1 g198.2 dL_law_979 ?_
      obtain ⟨r199, hr199, hf⟩ := bnd_e hf
      refine j_callV C hO (n := 3) (As := [vI ((xs (w32 (S.2 + 1)).toNat).toInt), vI ((xs (w32 (S.2 + 2)).toNat).toInt), vI ((xs (w32 (S.2 + 3)).toNat).toInt)]) (st1 := [vI r199.1, vI r195.1]) (c_X10_act l G r195.2 l2 ((xs (w32 (S.2 + 1)).toNat).toInt) ((xs (w32 (S.2 + 2)).toNat).toInt) ((xs (w32 (S.2 + 3)).toNat).toInt) h2 hr199) h2 rfl kC_41_5 kM_41_2 kI_41_3 kS_41_4 kN_1_5 ⟨by decide, by decide, by decide⟩ ⟨Nat.le_of_ble_eq_true rfl, Nat.le_of_ble_eq_true rfl⟩ rfl rfl rfl hl.1 rfl (Nat.le_of_ble_eq_true rfl) ⟨Nat.le_of_ble_eq_true rfl, Nat.le_of_ble_eq_true rfl⟩ dL_law_980 rfl (fun H locs hO => ?_)
      obtain ⟨g200, hf⟩ := grd_e hf
      refine j_icmp_eq (tgt := 1093) C rfl rfl dL_law_983 (by decide) (fun _ => ?_) (fun h => absurd g200 h)
      exact w_L_law_1093 hX hbl hbA hL C r199.2 l1 l2 S.2 h1 h2 hf kc kx0 hO (lv_sub hl [0, 1, 2, 3] rfl)
    have hf := (if_neg c191).symm.trans hf
    by_cases c201 : w32 (iand ((xs (w32 S.2).toNat).toInt) 31) = 26
    · have hf := (if_pos c201).symm.trans hf
      refine j_tsw (tgt := 988) C c201 dL_law_32 (by decide) (by decide) rfl (by decide) ?_
      refine lv_aload_n C.1 C.2.1 dL_law_988 rfl (lv_at hl 1 rfl) ?_
      refine lv_aload_n C.1 C.2.1 dL_law_989 rfl (lv_at hl 0 rfl) ?_
      refine lv_iload_n C.1 C.2.1 dL_law_990 rfl (lv_at hl 3 rfl) ?_
      refine lv_iconst (v := Int32.ofInt 1) C.1 C.2.1 dL_law_991 rfl ?_
      refine j_iadd C dL_law_992 ?_
      obtain ⟨g202, hf⟩ := grd_e hf
      refine j_sldX C hO hX hbl hbA rfl g202.1 g202.2 dL_law_993 ?_
      obtain ⟨r203, hr203, hf⟩ := bnd_e hf
      refine j_callV C hO (n := 1) (As := [vI ((xs (w32 (S.2 + 1)).toNat).toInt)]) (st1 := [vI r203]) (c_X9_trace l G S.1 l1 ((xs (w32 (S.2 + 1)).toNat).toInt) h1 hr203) h1 rfl kC_42_20 kM_42_17 kI_42_18 kS_42_19 kN_1_2 ⟨by decide, by decide, by decide⟩ ⟨Nat.le_of_ble_eq_true rfl, Nat.le_of_ble_eq_true rfl⟩ rfl rfl rfl hl.1 rfl (Nat.le_of_ble_eq_true rfl) ⟨Nat.le_of_ble_eq_true rfl, Nat.le_of_ble_eq_true rfl⟩ dL_law_994 rfl (fun H locs hO => ?_)
      refine lv_aload_n C.1 C.2.1 dL_law_997 rfl (lv_at hl 2 rfl) ?_
      refine lv_aload_n C.1 C.2.1 dL_law_998 rfl (lv_at hl 0 rfl) ?_
      refine lv_iload_n C.1 C.2.1 dL_law_999 rfl (lv_at hl 3 rfl) ?_
      refine lv_iconst (v := Int32.ofInt 1) C.1 C.2.1 dL_law_1000 rfl ?_
      refine j_iadd C dL_law_1001 ?_
      obtain ⟨g204, hf⟩ := grd_e hf
      refine j_sldX C hO hX hbl hbA rfl g204.1 g204.2 dL_law_1002 ?_
      obtain ⟨r205, hr205, hf⟩ := bnd_e hf
      refine j_callV C hO (n := 1) (As := [vI ((xs (w32 (S.2 + 1)).toNat).toInt)]) (st1 := [vI r205, vI r203]) (c_X10_trace l G S.1 l2 ((xs (w32 (S.2 + 1)).toNat).toInt) h2 hr205) h2 rfl kC_43_2 kM_42_23 kI_43_0 kS_43_1 kN_1_5 ⟨by decide, by decide, by decide⟩ ⟨Nat.le_of_ble_eq_true rfl, Nat.le_of_ble_eq_true rfl⟩ rfl rfl rfl hl.1 rfl (Nat.le_of_ble_eq_true rfl) ⟨Nat.le_of_ble_eq_true rfl, Nat.le_of_ble_eq_true rfl⟩ dL_law_1003 rfl (fun H locs hO => ?_)
      obtain ⟨g206, hf⟩ := grd_e hf
      refine j_icmp_eq (tgt := 1093) C rfl rfl dL_law_1006 (by decide) (fun _ => ?_) (fun h => absurd g206 h)
      exact w_L_law_1093 hX hbl hbA hL C S.1 l1 l2 S.2 h1 h2 hf kc kx0 hO (lv_sub hl [0, 1, 2, 3] rfl)
    have hf := (if_neg c201).symm.trans hf
    by_cases c207 : w32 (iand ((xs (w32 S.2).toNat).toInt) 31) = 27
    · have hf := (if_pos c207).symm.trans hf
      refine j_tsw (tgt := 1011) C c207 dL_law_32 (by decide) (by decide) rfl (by decide) ?_
      refine lv_aload_n C.1 C.2.1 dL_law_1011 rfl (lv_at hl 1 rfl) ?_
      refine lv_aload_n C.1 C.2.1 dL_law_1012 rfl (lv_at hl 0 rfl) ?_
      refine lv_iload_n C.1 C.2.1 dL_law_1013 rfl (lv_at hl 3 rfl) ?_
      refine lv_iconst (v := Int32.ofInt 1) C.1 C.2.1 dL_law_1014 rfl ?_
      refine j_iadd C dL_law_1015 ?_
      obtain ⟨g208, hf⟩ := grd_e hf
      refine j_sldX C hO hX hbl hbA rfl g208.1 g208.2 dL_law_1016 ?_
      refine lv_aload_n C.1 C.2.1 dL_law_1017 rfl (lv_at hl 0 rfl) ?_
      refine lv_iload_n C.1 C.2.1 dL_law_1018 rfl (lv_at hl 3 rfl) ?_
      refine lv_iconst (v := Int32.ofInt 2) C.1 C.2.1 dL_law_1019 rfl ?_
      refine j_iadd C dL_law_1020 ?_
      obtain ⟨g209, hf⟩ := grd_e hf
      refine j_sldX C hO hX hbl hbA rfl g209.1 g209.2 dL_law_1021 ?_
      obtain ⟨r210, hr210, hf⟩ := bnd_e hf
      refine j_callV C hO (n := 2) (As := [vI ((xs (w32 (S.2 + 1)).toNat).toInt), vI ((xs (w32 (S.2 + 2)).toNat).toInt)]) (st1 := [vI r210]) (c_X9_as l G S.1 l1 ((xs (w32 (S.2 + 1)).toNat).toInt) ((xs (w32 (S.2 + 2)).toNat).toInt) h1 hr210) h1 rfl kC_43_6 kM_43_3 kI_43_4 kS_43_5 kN_1_2 ⟨by decide, by decide, by decide⟩ ⟨Nat.le_of_ble_eq_true rfl, Nat.le_of_ble_eq_true rfl⟩ rfl rfl rfl hl.1 rfl (Nat.le_of_ble_eq_true rfl) ⟨Nat.le_of_ble_eq_true rfl, Nat.le_of_ble_eq_true rfl⟩ dL_law_1022 rfl (fun H locs hO => ?_)
      refine lv_aload_n C.1 C.2.1 dL_law_1025 rfl (lv_at hl 2 rfl) ?_
      refine lv_aload_n C.1 C.2.1 dL_law_1026 rfl (lv_at hl 0 rfl) ?_
      refine lv_iload_n C.1 C.2.1 dL_law_1027 rfl (lv_at hl 3 rfl) ?_
      refine lv_iconst (v := Int32.ofInt 1) C.1 C.2.1 dL_law_1028 rfl ?_
      refine j_iadd C dL_law_1029 ?_
      obtain ⟨g211, hf⟩ := grd_e hf
      refine j_sldX C hO hX hbl hbA rfl g211.1 g211.2 dL_law_1030 ?_
      refine lv_aload_n C.1 C.2.1 dL_law_1031 rfl (lv_at hl 0 rfl) ?_
      refine lv_iload_n C.1 C.2.1 dL_law_1032 rfl (lv_at hl 3 rfl) ?_
      refine lv_iconst (v := Int32.ofInt 2) C.1 C.2.1 dL_law_1033 rfl ?_
      refine j_iadd C dL_law_1034 ?_
      obtain ⟨g212, hf⟩ := grd_e hf
      refine j_sldX C hO hX hbl hbA rfl g212.1 g212.2 dL_law_1035 ?_
      obtain ⟨r213, hr213, hf⟩ := bnd_e hf
      refine j_callV C hO (n := 2) (As := [vI ((xs (w32 (S.2 + 1)).toNat).toInt), vI ((xs (w32 (S.2 + 2)).toNat).toInt)]) (st1 := [vI r213, vI r210]) (c_X10_as l G S.1 l2 ((xs (w32 (S.2 + 1)).toNat).toInt) ((xs (w32 (S.2 + 2)).toNat).toInt) h2 hr213) h2 rfl kC_43_11 kM_43_8 kI_43_9 kS_43_10 kN_1_5 ⟨by decide, by decide, by decide⟩ ⟨Nat.le_of_ble_eq_true rfl, Nat.le_of_ble_eq_true rfl⟩ rfl rfl rfl hl.1 rfl (Nat.le_of_ble_eq_true rfl) ⟨Nat.le_of_ble_eq_true rfl, Nat.le_of_ble_eq_true rfl⟩ dL_law_1036 rfl (fun H locs hO => ?_)
      obtain ⟨g214, hf⟩ := grd_e hf
      refine j_icmp_eq (tgt := 1093) C rfl rfl dL_law_1039 (by decide) (fun _ => ?_) (fun h => absurd g214 h)
      exact w_L_law_1093 hX hbl hbA hL C S.1 l1 l2 S.2 h1 h2 hf kc kx0 hO (lv_sub hl [0, 1, 2, 3] rfl)
    have hf := (if_neg c207).symm.trans hf
    by_cases c215 : w32 (iand ((xs (w32 S.2).toNat).toInt) 31) = 28
    · have hf := (if_pos c215).symm.trans hf
      refine j_tsw (tgt := 1044) C c215 dL_law_32 (by decide) (by decide) rfl (by decide) ?_
      refine lv_aload_n C.1 C.2.1 dL_law_1044 rfl (lv_at hl 1 rfl) ?_
      obtain ⟨r216, hr216, hf⟩ := bnd_e hf
      refine j_callV C hO (n := 0) (As := []) (st1 := [vI r216.1]) (c_X9_image l G S.1 l1 h1 hr216) h1 rfl kC_43_15 kM_43_12 kI_43_13 kS_43_14 kN_1_2 ⟨by decide, by decide, by decide⟩ ⟨Nat.le_of_ble_eq_true rfl, Nat.le_of_ble_eq_true rfl⟩ rfl rfl rfl hl.1 rfl (Nat.le_of_ble_eq_true rfl) ⟨Nat.le_of_ble_eq_true rfl, Nat.le_of_ble_eq_true rfl⟩ dL_law_1045 rfl (fun H locs hO => ?_)
      refine lv_aload_n C.1 C.2.1 dL_law_1048 rfl (lv_at hl 2 rfl) ?_
      obtain ⟨r217, hr217, hf⟩ := bnd_e hf
      refine j_callV C hO (n := 0) (As := []) (st1 := [vI r217.1, vI r216.1]) (c_X10_image l G r216.2 l2 h2 hr217) h2 rfl kC_44_3 kM_44_0 kI_44_1 kS_44_2 kN_1_5 ⟨by decide, by decide, by decide⟩ ⟨Nat.le_of_ble_eq_true rfl, Nat.le_of_ble_eq_true rfl⟩ rfl rfl rfl hl.1 rfl (Nat.le_of_ble_eq_true rfl) ⟨Nat.le_of_ble_eq_true rfl, Nat.le_of_ble_eq_true rfl⟩ dL_law_1049 rfl (fun H locs hO => ?_)
      obtain ⟨g218, hf⟩ := grd_e hf
      refine j_icmp_eq (tgt := 1093) C rfl rfl dL_law_1052 (by decide) (fun _ => ?_) (fun h => absurd g218 h)
      exact w_L_law_1093 hX hbl hbA hL C r217.2 l1 l2 S.2 h1 h2 hf kc kx0 hO (lv_sub hl [0, 1, 2, 3] rfl)
    have hf := (if_neg c215).symm.trans hf
    by_cases c219 : w32 (iand ((xs (w32 S.2).toNat).toInt) 31) = 29
    · have hf := (if_pos c219).symm.trans hf
      refine j_tsw (tgt := 1057) C c219 dL_law_32 (by decide) (by decide) rfl (by decide) ?_
      refine lv_aload_n C.1 C.2.1 dL_law_1057 rfl (lv_at hl 1 rfl) ?_
      obtain ⟨r220, hr220, hf⟩ := bnd_e hf
      refine j_callV C hO (n := 0) (As := []) (st1 := [vI r220.1]) (c_X9_undo l G S.1 l1 h1 hr220) h1 rfl kC_44_8 kM_44_5 kI_44_6 kS_44_7 kN_1_2 ⟨by decide, by decide, by decide⟩ ⟨Nat.le_of_ble_eq_true rfl, Nat.le_of_ble_eq_true rfl⟩ rfl rfl rfl hl.1 rfl (Nat.le_of_ble_eq_true rfl) ⟨Nat.le_of_ble_eq_true rfl, Nat.le_of_ble_eq_true rfl⟩ dL_law_1058 rfl (fun H locs hO => ?_)
      refine lv_aload_n C.1 C.2.1 dL_law_1061 rfl (lv_at hl 2 rfl) ?_
      obtain ⟨r221, hr221, hf⟩ := bnd_e hf
      refine j_callV C hO (n := 0) (As := []) (st1 := [vI r221.1, vI r220.1]) (c_X10_undo l G r220.2 l2 h2 hr221) h2 rfl kC_44_12 kM_44_9 kI_44_10 kS_44_11 kN_1_5 ⟨by decide, by decide, by decide⟩ ⟨Nat.le_of_ble_eq_true rfl, Nat.le_of_ble_eq_true rfl⟩ rfl rfl rfl hl.1 rfl (Nat.le_of_ble_eq_true rfl) ⟨Nat.le_of_ble_eq_true rfl, Nat.le_of_ble_eq_true rfl⟩ dL_law_1062 rfl (fun H locs hO => ?_)
      obtain ⟨g222, hf⟩ := grd_e hf
      refine j_icmp_eq (tgt := 1093) C rfl rfl dL_law_1065 (by decide) (fun _ => ?_) (fun h => absurd g222 h)
      exact w_L_law_1093 hX hbl hbA hL C r221.2 l1 l2 S.2 h1 h2 hf kc kx0 hO (lv_sub hl [0, 1, 2, 3] rfl)
    have hf := (if_neg c219).symm.trans hf
    by_cases c223 : w32 (iand ((xs (w32 S.2).toNat).toInt) 31) = 30
    · have hf := (if_pos c223).symm.trans hf
      refine j_tsw (tgt := 1070) C c223 dL_law_32 (by decide) (by decide) rfl (by decide) ?_
      refine lv_aload_n C.1 C.2.1 dL_law_1070 rfl (lv_at hl 1 rfl) ?_
      refine lv_aload_n C.1 C.2.1 dL_law_1071 rfl (lv_at hl 0 rfl) ?_
      refine lv_iload_n C.1 C.2.1 dL_law_1072 rfl (lv_at hl 3 rfl) ?_
      refine lv_iconst (v := Int32.ofInt 1) C.1 C.2.1 dL_law_1073 rfl ?_
      refine j_iadd C dL_law_1074 ?_
      obtain ⟨g224, hf⟩ := grd_e hf
      refine j_sldX C hO hX hbl hbA rfl g224.1 g224.2 dL_law_1075 ?_
      obtain ⟨r225, hr225, hf⟩ := bnd_e hf
      refine j_callV C hO (n := 1) (As := [vI ((xs (w32 (S.2 + 1)).toNat).toInt)]) (st1 := [vI r225]) (c_X9_count l G S.1 l1 ((xs (w32 (S.2 + 1)).toNat).toInt) h1 hr225) h1 rfl kC_44_16 kM_44_13 kI_44_14 kS_44_15 kN_1_2 ⟨by decide, by decide, by decide⟩ ⟨Nat.le_of_ble_eq_true rfl, Nat.le_of_ble_eq_true rfl⟩ rfl rfl rfl hl.1 rfl (Nat.le_of_ble_eq_true rfl) ⟨Nat.le_of_ble_eq_true rfl, Nat.le_of_ble_eq_true rfl⟩ dL_law_1076 rfl (fun H locs hO => ?_)
      refine lv_aload_n C.1 C.2.1 dL_law_1079 rfl (lv_at hl 2 rfl) ?_
      refine lv_aload_n C.1 C.2.1 dL_law_1080 rfl (lv_at hl 0 rfl) ?_
      refine lv_iload_n C.1 C.2.1 dL_law_1081 rfl (lv_at hl 3 rfl) ?_
      refine lv_iconst (v := Int32.ofInt 1) C.1 C.2.1 dL_law_1082 rfl ?_
      refine j_iadd C dL_law_1083 ?_
      obtain ⟨g226, hf⟩ := grd_e hf
      refine j_sldX C hO hX hbl hbA rfl g226.1 g226.2 dL_law_1084 ?_
      obtain ⟨r227, hr227, hf⟩ := bnd_e hf
      refine j_callV C hO (n := 1) (As := [vI ((xs (w32 (S.2 + 1)).toNat).toInt)]) (st1 := [vI r227, vI r225]) (c_X10_count l G S.1 l2 ((xs (w32 (S.2 + 1)).toNat).toInt) h2 hr227) h2 rfl kC_44_20 kM_44_17 kI_44_18 kS_44_19 kN_1_5 ⟨by decide, by decide, by decide⟩ ⟨Nat.le_of_ble_eq_true rfl, Nat.le_of_ble_eq_true rfl⟩ rfl rfl rfl hl.1 rfl (Nat.le_of_ble_eq_true rfl) ⟨Nat.le_of_ble_eq_true rfl, Nat.le_of_ble_eq_true rfl⟩ dL_law_1085 rfl (fun H locs hO => ?_)
      obtain ⟨g228, hf⟩ := grd_e hf
      refine j_icmp_eq (tgt := 1093) C rfl rfl dL_law_1088 (by decide) (fun _ => ?_) (fun h => absurd g228 h)
      exact w_L_law_1093 hX hbl hbA hL C S.1 l1 l2 S.2 h1 h2 hf kc kx0 hO (lv_sub hl [0, 1, 2, 3] rfl)
    have hf := (if_neg c223).symm.trans hf
    refine j_tsd (tgt := 1093) C dL_law_32 (by omega) (by decide) ?_
    exact w_L_law_1093 hX hbl hbA hL C S.1 l1 l2 S.2 h1 h2 hf kc kx0 hO (lv_sub hl [0, 1, 2, 3] rfl)
