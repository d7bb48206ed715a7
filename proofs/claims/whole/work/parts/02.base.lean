/-! words: one list for all methods -/
theorem jw_good : wsL_law.all goodWord = true := by decide +kernel
theorem jw_in {w0 cy : Cond} (h : cy ∈ wsL_law) : GoodIn (w0 :: wsL_law) (cy :: wsL_law) := by
  intro w hw
  have hm : w ∈ wsL_law := by
    rcases List.mem_cons.mp hw with e | e
    · rw [e]; exact h
    · exact e
  exact ⟨List.mem_cons_of_mem _ hm, good_of_word (List.all_eq_true.mp jw_good w hm)⟩
/-! numbers: all are Int, of 32 or 64 bits where they are looked at -/
abbrev jM : Type := Int → Int → Int
def sto (M : jM) (a b v : Int) : jM := fun x y => if x = a ∧ y = b then v else M x y
def w32 (x : Int) : Int := (Int32.ofInt x).toInt
def w64 (x : Int) : Int := (Int64.ofInt x).toInt
abbrev vI (e : Int) : Value := .int (Int32.ofInt e)
abbrev vL (e : Int) : Value := .long (Int64.ofInt e)
def ixor (a b : Int) : Int := (Int32.ofInt a ^^^ Int32.ofInt b).toInt
def iand (a b : Int) : Int := (Int32.ofInt a &&& Int32.ofInt b).toInt
def land (a b : Int) : Int := (Int64.ofInt a &&& Int64.ofInt b).toInt
def lor (a b : Int) : Int := (Int64.ofInt a ||| Int64.ofInt b).toInt
def lxor (a b : Int) : Int := (Int64.ofInt a ^^^ Int64.ofInt b).toInt
def lshl (a k : Int) : Int := (Int64.ofInt a <<< ((Int32.ofInt k).toInt64 &&& 63)).toInt
def lshr (a k : Int) : Int := (Int64.ofInt a >>> ((Int32.ofInt k).toInt64 &&& 63)).toInt
theorem j_bmod {x : Int} {n : Nat} (hn : 0 < n) (h1 : -(n : Int) ≤ 2 * x) (h2 : 2 * x < n) : x.bmod n = x := by
  unfold Int.bmod
  rcases Int.lt_or_le x 0 with h | h
  · have e : x % (n : Int) = x + n := by
      have h3 : x % (n : Int) = (x + n) % n := by rw [Int.add_emod_right]
      rw [h3, Int.emod_eq_of_lt (by omega) (by omega)]
    rw [e]; dsimp only; split <;> omega
  · have e : x % (n : Int) = x := Int.emod_eq_of_lt h (by omega)
    rw [e]; dsimp only; split <;> omega
theorem w32_id {x : Int} (h1 : -2147483648 ≤ x) (h2 : x < 2147483648) : w32 x = x := by
  unfold w32
  rw [Int32.toInt_ofInt]
  exact j_bmod (by decide) (by simp [Int32.size]; omega) (by simp [Int32.size]; omega)
theorem w64_id {x : Int} (h1 : -9223372036854775808 ≤ x) (h2 : x < 9223372036854775808) : w64 x = x := by
  unfold w64
  rw [Int64.toInt_ofInt]
  exact j_bmod (by decide) (by simp [Int64.size]; omega) (by simp [Int64.size]; omega)
theorem w32_o (x : Int) : Int32.ofInt (w32 x) = Int32.ofInt x := by unfold w32; exact Int32.ofInt_toInt _
theorem w64_o (x : Int) : Int64.ofInt (w64 x) = Int64.ofInt x := by unfold w64; exact Int64.ofInt_toInt _
theorem w32_lt (a b : Int) : Int32.ofInt a < Int32.ofInt b ↔ w32 a < w32 b := Int32.lt_iff_toInt_lt
theorem w32_le (a b : Int) : Int32.ofInt a ≤ Int32.ofInt b ↔ w32 a ≤ w32 b := Int32.le_iff_toInt_le
theorem w32_eq (a b : Int) : Int32.ofInt a = Int32.ofInt b ↔ w32 a = w32 b := Int32.toInt_inj.symm
theorem w64_lt (a b : Int) : Int64.ofInt a < Int64.ofInt b ↔ w64 a < w64 b := Int64.lt_iff_toInt_lt
theorem w64_le (a b : Int) : Int64.ofInt a ≤ Int64.ofInt b ↔ w64 a ≤ w64 b := Int64.le_iff_toInt_le
theorem w64_eq (a b : Int) : Int64.ofInt a = Int64.ofInt b ↔ w64 a = w64 b := Int64.toInt_inj.symm
theorem w32_rng (x : Int) : -2147483648 ≤ w32 x ∧ w32 x < 2147483648 := ⟨Int32.le_toInt _, Int32.toInt_lt _⟩
theorem w64_rng (x : Int) : -9223372036854775808 ≤ w64 x ∧ w64 x < 9223372036854775808 := ⟨Int64.le_toInt _, Int64.toInt_lt _⟩
theorem w32_in {a : Int} {n : Nat} (h0 : 0 ≤ w32 a) (h1 : w32 a < (n : Int)) : vp_in (Int32.ofInt a) n := vp_in_iff.mpr ⟨h0, h1⟩
theorem w32_cl {a : Int} : (Int32.ofInt a).toNatClampNeg = (w32 a).toNat := rfl
/-! text of functions -/
def lt1 {α β : Type} (x : α) (k : α → β) : β := k x
theorem lt1_e {α β : Type} {x : α} {k : α → β} {y : β} (h : lt1 x k = y) : ∃ z, z = x ∧ k z = y := ⟨x, rfl, h⟩
def grd {β : Type} (c : Prop) [Decidable c] (x : Option β) : Option β := if c then x else none
theorem grd_e {β : Type} {c : Prop} [Decidable c] {x : Option β} {y : β} (h : grd c x = some y) : c ∧ x = some y := by
  unfold grd at h
  split at h
  · exact ⟨‹_›, h⟩
  · cases h
theorem bnd_e {α β : Type} {x : Option α} {k : α → Option β} {y : β} (h : x.bind k = some y) : ∃ z, x = some z ∧ k z = some y := Option.bind_eq_some_iff.mp h
theorem som_e {α : Type} {x y : α} (h : some x = some y) : x = y := Option.some.inj h
def iter {S X : Type} (b : S → Option (S ⊕ X)) : Nat → S → Option X
  | 0, _ => none
  | n + 1, s => match b s with
    | none => none
    | some (.inl t) => iter b n t
    | some (.inr x) => some x
theorem iter_e {S X : Type} {b : S → Option (S ⊕ X)} {P : S → Prop} {E : X → Prop} (h : ∀ s r, b s = some r → (∀ t, r = .inl t → P t) → (∀ x, r = .inr x → E x) → P s) : ∀ (n : Nat) (s : S) (x : X), iter b n s = some x → E x → P s := by
  intro n
  induction n with
  | zero => intro s x hx; cases hx
  | succ n ih =>
    intro s x hx hE
    unfold iter at hx
    split at hx
    · cases hx
    · rename_i t ht
      exact h s _ ht (fun t' e => by cases e; exact ih t x hx hE) (fun x' e => by cases e)
    · rename_i y hy
      cases hx
      exact h s _ hy (fun t' e => by cases e) (fun x' e => by cases e; exact hE)

/-! the objects: the kind and the length of each, and whom each points to for good -/
abbrev jcl : List vw_C := [(RX0, TX0, 5), (RX1, TX1, 5), (RX2, TX2, 4), (RX3, TX3, 2), (RX4, TX4, 9), (RX5, TX5, 5), (RX6, TX6, 3), (RX7, TX7, 6), (RX8, TX8, 13), (RX9, TX9, 10), (RX10, TX10, 23)]
def jkdT : List (Nat × Nat) := [(9, 0), (8, 0), (11, 100), (7, 0), (11, 10), (12, 10), (3, 0), (14, 6), (3, 0), (3, 0), (3, 0), (3, 0), (3, 0), (3, 0), (11, 4), (11, 4), (14, 4), (3, 0), (3, 0), (3, 0), (3, 0), (3, 0), (8, 0), (11, 100), (7, 0), (11, 10), (12, 10), (3, 0), (14, 6), (3, 0), (3, 0), (3, 0), (3, 0), (3, 0), (3, 0), (11, 4), (11, 4), (14, 4), (3, 0), (3, 0), (3, 0), (3, 0), (3, 0), (7, 0), (11, 10), (12, 10), (5, 0), (6, 0), (11, 3), (2, 0), (1, 0), (3, 0), (3, 0), (4, 0), (11, 111), (11, 37), (11, 37), (11, 6), (12, 37), (12, 37), (0, 0), (11, 20), (10, 0), (11, 952), (11, 952), (11, 3), (13, 64), (11, 3), (12, 486), (12, 486), (11, 1458), (11, 20)]
def jptT : List (List Int) := [[1, 22, 0, 43, 46, 47, 49, 50, 53, 60], [2, 0, 3, 0, 0, 6, 7, 0, 14, 15, 16, 0, 21], [], [0, 0, 0, 0, 4, 5], [], [], [], [8, 9, 10, 11, 12, 13], [], [], [], [], [], [], [], [], [17, 18, 19, 20], [], [], [], [], [], [23, 0, 24, 0, 0, 27, 28, 0, 35, 36, 37, 0, 42], [], [0, 0, 0, 0, 25, 26], [], [], [], [29, 30, 31, 32, 33, 34], [], [], [], [], [], [], [], [], [38, 39, 40, 41], [], [], [], [], [], [0, 0, 0, 0, 44, 45], [], [], [], [0, 0, 48], [], [], [51, 52], [], [], [54, 55, 56, 57], [], [], [], [], [], [], [61], [], [0, 63, 64, 0, 0, 0, 0, 0, 0, 65, 66, 67, 0, 0, 0, 0, 0, 70, 71], [], [], [], [], [], [], [], [], []]
def jkd (e : Int) : Nat × Nat := if e < 0 then (99, 0) else jkdT.getD e.toNat (99, 0)
def jpt (k f : Int) : Int := (jptT.getD k.toNat []).getD f.toNat 0
abbrev jG : Type := va_G × (ClassId × ClassId × ClassId × ClassId) × (Nat → Nat) × (Nat × Nat) × (Nat → Nat) × (Nat → Nat)
def jad (G : jG) (e : Int) : Nat := G.2.2.1 e.toNat
abbrev jR (G : jG) (e : Int) : Value := .ref (jad G e)
def jN (G : jG) (e : Int) : Value := va_rf (if e < 0 then none else some (jad G e))
theorem jN_p {G : jG} {e : Int} (h : 0 ≤ e) : jN G e = jR G e := by unfold jN; rw [if_neg (by omega)]; rfl
theorem jN_n {G : jG} {e : Int} (h : e < 0) : jN G e = .null := by unfold jN; rw [if_pos h]; rfl
theorem jN_cat (G : jG) (e : Int) : (jN G e).category = 1 := by unfold jN; split <;> rfl
def jfl (G : jG) (M : jM) (ci : Nat) (e : Int) : List Value := match ci with
  | 0 => [jR G (jpt e 0), vI (M e 1), vI (M e 2), vI (M e 3), vI (M e 4)]
  | 1 => [jR G (jpt e 0), jR G (jpt e 1), vI (M e 2), vL (M e 3), vL (M e 4)]
  | 2 => [vL (M e 0), vL (M e 1), vL (M e 2), vL (M e 3)]
  | 3 => [vI (M e 0), vL (M e 1)]
  | 4 => [jR G (jpt e 0), jR G (jpt e 1), jR G (jpt e 2), jR G (jpt e 3), jN G (M e 4), jN G (M e 5), vI (M e 6), vI (M e 7), jN G (M e 8)]
  | 5 => [jN G (M e 0), vI (M e 1), vI (M e 2), vI (M e 3), jN G (M e 4)]
  | 6 => [vI (M e 0), vI (M e 1), jR G (jpt e 2)]
  | 7 => [vI (M e 0), vI (M e 1), vI (M e 2), vI (M e 3), jR G (jpt e 4), jR G (jpt e 5)]
  | 8 => [jR G (jpt e 0), vI (M e 1), jR G (jpt e 2), vI (M e 3), vI (M e 4), jR G (jpt e 5), jR G (jpt e 6), vI (M e 7), jR G (jpt e 8), jR G (jpt e 9), jR G (jpt e 10), vI (M e 11), jR G (jpt e 12)]
  | 9 => [jR G (jpt e 0), jR G (jpt e 1), vI (M e 2), jR G (jpt e 3), jR G (jpt e 4), jR G (jpt e 5), jR G (jpt e 6), jR G (jpt e 7), jR G (jpt e 8), jR G (jpt e 9)]
  | 10 => [vI (M e 0), jR G (jpt e 1), jR G (jpt e 2), vI (M e 3), vI (M e 4), vI (M e 5), vI (M e 6), vI (M e 7), vI (M e 8), jR G (jpt e 9), jR G (jpt e 10), jR G (jpt e 11), vI (M e 12), vL (M e 13), vL (M e 14), jN G (M e 15), jN G (M e 16), jR G (jpt e 17), jR G (jpt e 18), vI (M e 19), vI (M e 20), vI (M e 21), vI (M e 22)]
  | _ => []
def jcell (G : jG) (M : jM) (e : Int) : va_E := match jkd e with
  | (11, n) => .inl (G.2.1.1, n, .inl (fun j => Int32.ofInt (M e j)))
  | (12, n) => .inl (G.2.1.2.1, n, .inr (.inl (fun j => Int64.ofInt (M e j))))
  | (13, n) => .inl (G.2.1.2.2.1, n, .inl (fun j => Int32.ofInt (M e j)))
  | (14, n) => .inl (G.2.1.2.2.2, n, .inr (.inr (.inr (.inr (fun j => some (jad G (jpt e j)))))))
  | (ci, _) => .inr (ci, jfl G M ci e)
def jenc (G : jG) (M : jM) : va_W := (List.range 72).map (fun k : Nat => (jad G (k : Int), jcell G M (k : Int)))
abbrev jty (G : jG) : List (ClassId × FieldType) := [(G.2.1.1, .int), (G.2.1.2.1, .long), (G.2.1.2.2.1, .boolean), (G.2.1.2.2.2, .object "RowFirst$Line")]
def jA (G : jG) : Nat → Prop := fun q => ∃ k : Nat, k < 72 ∧ q = jad G (k : Int)
def jDis (G : jG) : Prop := ∀ i j : Nat, i < 72 → j < 72 → jad G (i : Int) = jad G (j : Int) → i = j
def jIs (ci : Nat) (e : Int) : Prop := jkd e = (ci, 0)
def jAr (k n : Nat) (e : Int) : Prop := jkd e = (k, n)
theorem jkd_in {e : Int} {k n : Nat} (h : jkd e = (k, n)) (hk : k ≠ 99) : 0 ≤ e ∧ e < 72 ∧ e.toNat < 72 ∧ (e.toNat : Int) = e := by
  unfold jkd at h
  split at h
  · cases h; exact absurd rfl hk
  · rename_i h0
    have hl : e.toNat < jkdT.length := by
      rcases Nat.lt_or_ge e.toNat jkdT.length with q | q
      · exact q
      · rw [List.getD_eq_getElem?_getD, List.getElem?_eq_none q] at h
        cases h; exact absurd rfl hk
    have hl2 : jkdT.length = 72 := rfl
    omega
theorem jenc_at {G : jG} {M : jM} {e : Int} {k n : Nat} (h : jkd e = (k, n)) (hk : k ≠ 99) : (jenc G M)[e.toNat]? = some (jad G e, jcell G M e) := by
  obtain ⟨h0, h1, h2, h3⟩ := jkd_in h hk
  unfold jenc
  rw [List.getElem?_map, List.getElem?_range h2]
  show some (jad G (e.toNat : Int), jcell G M (e.toNat : Int)) = _
  rw [h3]
theorem jenc_D {G : jG} (h : jDis G) (M : jM) : va_D (jA G) (jenc G M) := by
  have key : ∀ (i : Nat) (p : Nat × va_E), (jenc G M)[i]? = some p → i < 72 ∧ p.1 = jad G (i : Int) := by
    intro i p hp
    unfold jenc at hp
    rw [List.getElem?_map] at hp
    rcases Nat.lt_or_ge i 72 with q | q
    · rw [List.getElem?_range q] at hp
      exact ⟨q, by cases hp; rfl⟩
    · rw [List.getElem?_eq_none (by simpa using q)] at hp
      cases hp
  refine ⟨fun i j x y hi hj hxy => ?_, fun k q hk => ?_⟩
  · obtain ⟨a, b⟩ := key i x hi
    obtain ⟨c, d⟩ := key j y hj
    exact h i j a c (by rw [← b, ← d, hxy])
  · obtain ⟨a, b⟩ := key k q hk
    exact ⟨k, a, b⟩
/-- a cell that is put anew -/
theorem jenc_set {G : jG} {M M' : jM} {e : Int} {k n : Nat} {c : va_E} (h : jkd e = (k, n)) (hk : k ≠ 99) (hc : c = jcell G M' e) (ho : ∀ j : Int, j ≠ e → jcell G M j = jcell G M' j) : (jenc G M).set e.toNat (jad G e, c) = jenc G M' := by
  obtain ⟨h0, h1, h2, h3⟩ := jkd_in h hk
  apply List.ext_getElem?
  intro i
  unfold jenc
  rw [List.getElem?_set]
  by_cases hi : e.toNat = i
  · subst hi
    simp [h2, hc, h3]
  · rw [if_neg hi]
    rcases Nat.lt_or_ge i 72 with q | q
    · rw [List.getElem?_map, List.getElem?_map, List.getElem?_range q]
      show some (jad G (i : Int), jcell G M (i : Int)) = some (jad G (i : Int), jcell G M' (i : Int))
      rw [ho (i : Int) (by omega)]
    · rw [List.getElem?_eq_none (by simpa using q), List.getElem?_eq_none (by simpa using q)]

theorem sto_o {M : jM} {a b v : Int} {x : Int} (h : x ≠ a) (y : Int) : sto M a b v x y = M x y := by unfold sto; rw [if_neg (fun q => h q.1)]
theorem sto_n {M : jM} {a b v : Int} {y : Int} (h : y ≠ b) (x : Int) : sto M a b v x y = M x y := by unfold sto; rw [if_neg (fun q => h q.2)]
theorem sto_s {M : jM} {a b v : Int} : sto M a b v a b = v := by unfold sto; rw [if_pos ⟨rfl, rfl⟩]
theorem jfl_o {G : jG} {M : jM} {a b v : Int} {j : Int} (h : j ≠ a) (ci : Nat) : jfl G M ci j = jfl G (sto M a b v) ci j := by
  unfold jfl
  split <;> first | rfl | simp only [sto_o h]
theorem jcell_o {G : jG} {M : jM} {a b v : Int} (j : Int) (h : j ≠ a) : jcell G M j = jcell G (sto M a b v) j := by
  unfold jcell
  split <;> first | rfl | (simp only [sto_o h]; done) | exact congrArg (fun x => Sum.inr (_, x)) (jfl_o h _)
