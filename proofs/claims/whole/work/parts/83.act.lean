/-! acts: the bodies that run, newest first -/
def TL (o : Int) (M : jM) : List Int → Prop
  | [] => True
  | b :: t => (t.length < 20 → M o (t.length : Int) = b) ∧ TL o M t
theorem TL.fr {o : Int} {M M' : jM} : ∀ {l : List Int}, TL o M l → (∀ i : Int, 0 ≤ i → i < l.length → M' o i = M o i) → TL o M' l
  | [], _, _ => trivial
  | b :: t, h, e => ⟨fun q => by rw [e _ (by omega) (by show (t.length : Int) < ((t.length + 1 : Nat) : Int); omega)]; exact h.1 q, TL.fr h.2 (fun i i0 i1 => e i i0 (by show i < ((t.length + 1 : Nat) : Int); omega))⟩
theorem TL.same {o1 o2 : Int} {M : jM} : ∀ {l : List Int}, TL o1 M l → TL o2 M l → ∀ i : Int, 0 ≤ i → i < l.length → i < 20 → M o1 i = M o2 i
  | [], _, _, i, i0, i1, _ => by have i1 : i < ((0 : Nat) : Int) := i1; omega
  | b :: t, h1, h2, i, i0, i1, i2 => by
    have i1 : i < ((t.length + 1 : Nat) : Int) := i1
    by_cases c : i = (t.length : Int)
    · rw [c, h1.1 (by omega), h2.1 (by omega)]
    · exact TL.same h1.2 h2.2 i i0 (by omega) i2
/-- the class's trace -/
def TC (M0 M : jM) (l : List Int) : Prop := (∀ a b, ¬ (a = 60 ∧ b = 1) → a ≠ 61 → M a b = M0 a b) ∧ M 60 1 = (l.length : Int) ∧ TL 61 M l
/-- the reference's -/
def TR (M0 M : jM) (l : List Int) : Prop := (∀ a b, ¬ (a = 62 ∧ b = 19) → a ≠ 71 → M a b = M0 a b) ∧ M 62 19 = (l.length : Int) ∧ TL 71 M l
theorem c_note {M0 M : jM} {l : List Int} {b : Int} (h : TC M0 M l) (hl : l.length < 500) : Ret (f_X0_note M 60 b) (fun M' => TC M0 M' (b :: l)) := by
  obtain ⟨h1, h2, h3⟩ := h
  unfold f_X0_note f_X0_note_19
  rw [h2, w32_id (x := (l.length : Int)) (by omega) (by omega), jp_60_0]
  refine Ret.i (fun c => Ret.l (Ret.s ⟨fun x y q1 q2 => by rw [sto_ne (by omega)]; exact h1 x y q1 q2, ?_, fun q => by omega, h3.fr (fun i _ _ => by rw [sto_ne (by omega)])⟩)) (fun c => Ret.g ⟨by omega, by omega⟩ (Ret.l (Ret.l (Ret.s ⟨fun x y q1 q2 => by rw [sto_ne (by omega), sto_ne (by omega)]; exact h1 x y q1 q2, ?_, fun _ => ?_, h3.fr (fun i _ i1 => by rw [sto_ne (by omega), sto_ne (by omega)])⟩))))
  · rw [sto_eq rfl rfl]; show (l.length : Int) + 1 = ((l.length + 1 : Nat) : Int); omega
  · rw [sto_eq rfl rfl, sto_ne (by omega), h2]; show (l.length : Int) + 1 = ((l.length + 1 : Nat) : Int); omega
  · rw [sto_ne (by omega), sto_eq rfl rfl]
theorem r_note {M0 M : jM} {l : List Int} {b : Int} (h : TR M0 M l) (hl : l.length < 500) : Ret (f_X10_ranBody M 62 b) (fun M' => TR M0 M' (b :: l)) := by
  obtain ⟨h1, h2, h3⟩ := h
  unfold f_X10_ranBody f_X10_ranBody_19
  rw [h2, w32_id (x := (l.length : Int)) (by omega) (by omega), jp_62_18]
  refine Ret.i (fun c => Ret.l (Ret.s ⟨fun x y q1 q2 => by rw [sto_ne (by omega)]; exact h1 x y q1 q2, ?_, fun q => by omega, h3.fr (fun i _ _ => by rw [sto_ne (by omega)])⟩)) (fun c => Ret.g ⟨by omega, by omega⟩ (Ret.l (Ret.l (Ret.s ⟨fun x y q1 q2 => by rw [sto_ne (by omega), sto_ne (by omega)]; exact h1 x y q1 q2, ?_, fun _ => ?_, h3.fr (fun i _ i1 => by rw [sto_ne (by omega), sto_ne (by omega)])⟩))))
  · rw [sto_eq rfl rfl]; show (l.length : Int) + 1 = ((l.length + 1 : Nat) : Int); omega
  · rw [sto_eq rfl rfl, sto_ne (by omega), h2]; show (l.length : Int) + 1 = ((l.length + 1 : Nat) : Int); omega
  · rw [sto_ne (by omega), sto_eq rfl rfl]
/-! what an act comes to: its value, and the bodies in the order in which they began -/
def aPP (i x : Int) : Int := x + i
def aPA (K i x : Int) : Int := if K = 1 ∨ K = 4 then aPP i (x * 3) else if K = 5 then ixor (aPP i x) i else aPP i x
def bPA (K : Int) : List Int := if K = 1 ∨ K = 4 then [1, 11] else if K = 5 then [1, 51] else [1]
def aYP (K i v x : Int) : Int := aPA K i x - v
def aYA (K i v x : Int) : Int := if K = 2 ∨ K = 5 then -(aYP K i v x) else if K = 6 then aYP K i v x + v else aYP K i v x
def bYA (K : Int) : List Int := if K = 2 ∨ K = 5 then bPA K ++ [2, 21] else if K = 6 then bPA K ++ [2, 61] else bPA K ++ [2]
def aTP (K i v x : Int) : Int := aYA K i v x * 2
def aTA (K i v x : Int) : Int := if K = 3 ∨ K = 6 then ixor (aTP K i v x) 7 else if K = 4 then aTP K i v (x - 1) + aPA K i 2 else aTP K i v x
def bTA (K : Int) : List Int := if K = 3 ∨ K = 6 then bYA K ++ [3, 31] else if K = 4 then bPA K ++ (bYA K ++ [3, 41]) else bYA K ++ [3]
theorem b_len {K : Int} : (bPA K).length ≤ 2 ∧ (bYA K).length ≤ 4 ∧ (bTA K).length ≤ 8 := by
  have h1 : (bPA K).length ≤ 2 := by
    unfold bPA; split
    · decide
    · split <;> decide
  have h2 : (bYA K).length ≤ 4 := by
    unfold bYA
    split
    · rw [List.length_append]; show (bPA K).length + 2 ≤ 4; omega
    · split
      · rw [List.length_append]; show (bPA K).length + 2 ≤ 4; omega
      · rw [List.length_append]; show (bPA K).length + 1 ≤ 4; omega
  refine ⟨h1, h2, ?_⟩
  unfold bTA
  split
  · rw [List.length_append]; show (bYA K).length + 2 ≤ 8; omega
  · split
    · rw [List.length_append, List.length_append]; show (bPA K).length + ((bYA K).length + 2) ≤ 8; omega
    · rw [List.length_append]; show (bYA K).length + 1 ≤ 8; omega
/-! the class's walk through the bodies -/
def rAt (f a : Nat) : Nat := ([[0, 0, 0], [1, 0, 0], [0, 2, 0], [0, 0, 3], [1, 0, 4], [5, 2, 0], [0, 6, 3]].getD f []).getD a 0
def rBd (f a : Nat) : Int := ([[1, 2, 3], [11, 2, 3], [1, 21, 3], [1, 2, 31], [11, 2, 41], [51, 21, 3], [1, 61, 31]].getD f []).getD a 0
def rUp (n : Nat) : Int := [-1, 0, 0, 0, 1, 2, 3].getD n 0
theorem run_tab : ∀ f : Fin 7, ∀ a : Fin 3, iter (f_X0_run_L15 (fun _ _ _ _ _ _ => none) jM0 0 (a.val : Int) 0 0) 5000 ((f.val : Int), 0) = some (rAt f.val a.val : Int) ∧ f_X0_bodyOf jM0 (rAt f.val a.val : Int) (a.val : Int) = some (rBd f.val a.val) ∧ f_X9_above jM0 (rAt f.val a.val : Int) = some (rUp (rAt f.val a.val)) := by decide +kernel
def actB (rec : jM → Int → Int → Int → Int → Int → Option (Int × jM)) (x deep b up : Int) (r9 : jM) : Option (Int × jM) :=
  (if w32 b = 1 then some (x + (r9 60 4), r9) else (if w32 b = 2 then (rec r9 60 (r9 60 2) 0 x (deep + 1)).bind fun r12 => some (r12.1 - (r12.2 60 3), r12.2) else (if w32 b = 3 then (rec r9 60 (r9 60 2) 1 x (deep + 1)).bind fun r14 => some (r14.1 * 2, r14.2) else (if w32 b = 11 then (rec r9 60 up 0 (x * 3) (deep + 1)).bind fun r16 => some (r16.1, r16.2) else (if w32 b = 21 then (rec r9 60 up 1 x (deep + 1)).bind fun r18 => some ((-r18.1), r18.2) else (if w32 b = 31 then (rec r9 60 up 2 x (deep + 1)).bind fun r20 => some (ixor r20.1 7, r20.2) else (if w32 b = 41 then (rec r9 60 up 2 (x - 1) (deep + 1)).bind fun r22 => (rec r22.2 60 (r22.2 60 2) 0 2 (deep + 1)).bind fun r23 => some (r22.1 + r23.1, r23.2) else (if w32 b = 51 then (rec r9 60 up 0 x (deep + 1)).bind fun r25 => some (ixor r25.1 (r25.2 60 4), r25.2) else (if w32 b = 61 then (rec r9 60 up 1 x (deep + 1)).bind fun r27 => some (r27.1 + (r27.2 60 3), r27.2) else some (0, r9))))))))))
theorem c_step {d f a : Nat} {x deep : Int} {M0 M : jM} {l : List Int} {Q : Int × jM → Prop} (hf : f < 7) (ha : a < 3) (d0 : 0 ≤ deep) (d1 : deep < 20) (h : TC M0 M l) (hl : l.length < 500) (hk : ∀ M', TC M0 M' (rBd f a :: l) → Ret (actB (fx_ac d 0) x deep (rBd f a) (rUp (rAt f a)) M') Q) : Ret (fx_ac (d + 1) 0 M 60 (f : Int) (a : Int) x deep) Q := by
  obtain ⟨t1, t2, t3⟩ := run_tab ⟨f, hf⟩ ⟨a, ha⟩
  dsimp only at t1 t2 t3
  show Ret (fb_X0_run (fx_ac d 0) M 60 (f : Int) (a : Int) x deep) Q
  unfold fb_X0_run
  rw [w32_id (x := deep) (by omega) (by omega)]
  have e1 : f_X0_run_L15 (fx_ac d 0) M 60 (a : Int) x deep = f_X0_run_L15 (fun _ _ _ _ _ _ => none) jM0 0 (a : Int) 0 0 := rfl
  have e2 : ∀ y z, f_X0_bodyOf M y z = f_X0_bodyOf jM0 y z := fun _ _ => rfl
  have e3 : ∀ y, f_X9_above M y = f_X9_above jM0 y := fun _ => rfl
  rw [e1, t1]
  refine Ret.t d1 (Ret.b ⟨_, rfl, ?_⟩)
  dsimp only
  rw [e2, t2, e3, t3]
  refine Ret.b ⟨_, rfl, Ret.b ⟨_, rfl, ?_⟩⟩
  exact Ret.bb (c_note h hl) (fun M' h' => hk M' h')
