/-! what the invariant speaks of, and a memory that agrees there -/
def kp (a b : Int) : Prop := a ≤ 42 ∨ a = 60 ∨ a = 61 ∨ a = 64 ∨ a = 71 ∨ (a = 63 ∧ (b < 46 ∨ 58 ≤ b) ∧ b ≠ 64 ∧ b ≠ 65) ∨ (a = 62 ∧ (b = 3 ∨ b = 19))
def Fr (M M' : jM) : Prop := ∀ a b, kp a b → M' a b = M a b
theorem Fr.rfl {M : jM} : Fr M M := fun _ _ _ => Eq.refl _
theorem Fr.tr {M M1 M2 : jM} (h : Fr M M1) (h2 : Fr M1 M2) : Fr M M2 := fun a b k => (h2 a b k).trans (h a b k)
theorem Fr.sto {M M' : jM} (h : Fr M M') {a b v : Int} (hk : ¬ kp a b) : Fr M (sto M' a b v) := fun x y k => by
  rw [sto_ne (fun e => hk (by rw [← e.1, ← e.2]; exact k))]
  exact h x y k
theorem Fr.sym {M M' : jM} (h : Fr M M') : Fr M' M := fun a b k => (h a b k).symm
theorem kp_lo {a b : Int} (h : a ≤ 42) : kp a b := Or.inl h
theorem kp_63 {b : Int} (h : b < 46 ∨ 58 ≤ b) (h1 : b ≠ 64) (h2 : b ≠ 65) : kp 63 b := Or.inr (Or.inr (Or.inr (Or.inr (Or.inr (Or.inl ⟨rfl, h, h1, h2⟩)))))
/-- the pointers that change hands -/
def Pt (M M' : jM) : Prop := M' 53 4 = M 53 4 ∧ M' 53 5 = M 53 5 ∧ M' 62 15 = M 62 15 ∧ M' 62 16 = M 62 16
theorem Pt.rfl {M : jM} : Pt M M := ⟨Eq.refl _, Eq.refl _, Eq.refl _, Eq.refl _⟩
theorem Pt.tr {M M1 M2 : jM} (h : Pt M M1) (h2 : Pt M1 M2) : Pt M M2 := ⟨h2.1.trans h.1, h2.2.1.trans h.2.1, h2.2.2.1.trans h.2.2.1, h2.2.2.2.trans h.2.2.2⟩
theorem Pt.sto {M M' : jM} (h : Pt M M') {a b v : Int} (h1 : ¬ (a = 53 ∧ (b = 4 ∨ b = 5))) (h2 : ¬ (a = 62 ∧ (b = 15 ∨ b = 16))) : Pt M (sto M' a b v) := ⟨by rw [sto_ne (by omega)]; exact h.1, by rw [sto_ne (by omega)]; exact h.2.1, by rw [sto_ne (by omega)]; exact h.2.2.1, by rw [sto_ne (by omega)]; exact h.2.2.2⟩
theorem jInv.fr {M M' : jM} (h : jInv M) (f : Fr M M') (p : RPtrs M') : jInv M' := by
  obtain ⟨ht, i1, i2, i3, i4⟩ := h
  have ht' : RelT M' 1 63 := ht.fr (fun a b _ h2 => f a b (by unfold kp; omega)) (fun b h1 h2 h3 => f 63 b (by unfold kp; omega))
  refine ⟨ht', by rw [f 0 2 (by unfold kp; omega), f 62 3 (by unfold kp; omega)]; exact i1, ?_, ?_, p⟩
  · rw [f 0 2 (by unfold kp; omega)]
    exact i2.imp id (fun ⟨g1, g2⟩ => ⟨g1, g2.fr (fun a b h1 h2 => f a b (by unfold kp; omega)) (fun b _ _ _ => f 64 b (by unfold kp; omega))⟩)
  · obtain ⟨g1, g2, g3, g4⟩ := i3
    refine ⟨by rw [f 60 1 (by unfold kp; omega), f 62 19 (by unfold kp; omega)]; exact g1, by rw [f 60 1 (by unfold kp; omega)]; exact g2, by rw [f 60 1 (by unfold kp; omega)]; exact g3, fun i i0 i1 i2 => ?_⟩
    rw [f 60 1 (by unfold kp; omega)] at i1
    rw [f 61 i (by unfold kp; omega), f 71 i (by unfold kp; omega)]
    exact g4 i i0 i1 i2
theorem jInv.fp {M M' : jM} (h : jInv M) (f : Fr M M') (p : Pt M M') : jInv M' := h.fr f (by
  obtain ⟨p1, p2, p3, p4⟩ := p
  unfold RPtrs
  rw [p1, p2, p3, p4]
  exact h.2.2.2.2)
/-- rows: digits and sizes as the reference holds them -/
def rowd (M : jM) (r : Int) : Int → Int := fun j => M 63 (10 + 6 * r + j)
def rowz (M : jM) (r : Int) : Int := M 63 (58 + r)
theorem jInv.rl {M0 M : jM} (h : jInv M0) (f : Fr M0 M) {r : Int} (r0 : 0 ≤ r) (r1 : r < M0 63 0) : Ln M (8 + r) (rowd M0 r) (rowz M0 r) ∧ 1 ≤ rowz M0 r ∧ rowz M0 r ≤ 6 := by
  have hR := h.1.2.2.2.1
  obtain ⟨g1, g2, g3⟩ := row_ln hR r0 r1
  have := hR.2.2.1
  exact ⟨Ln.fr g1 (f _ _ (by unfold kp; omega)) (f _ _ (by unfold kp; omega)) (fun i _ _ => rfl), g2, g3⟩
/-- a row of the reference: any of 8 -/
def RRow (M : jM) (r : Int) (d : Int → Int) (n : Int) : Prop := 0 ≤ r ∧ r ≤ 7 ∧ 1 ≤ n ∧ n ≤ 6 ∧ M 63 (58 + r) = n ∧ ∀ j, 0 ≤ j → j < n → M 63 (10 + 6 * r + j) = d j ∧ 0 ≤ d j ∧ d j ≤ 2
theorem jInv.rr {M0 M : jM} (h : jInv M0) (f : Fr M0 M) {r : Int} (r0 : 0 ≤ r) (r1 : r < M0 63 0) : RRow M r (rowd M0 r) (rowz M0 r) := by
  have hR := h.1.2.2.2.1
  obtain ⟨g1, g2, g3⟩ := row_ln hR r0 r1
  have := hR.2.2.1
  refine ⟨r0, by omega, g2, g3, f _ _ (by unfold kp; omega), fun j j0 j1 => ⟨?_, g1.2.2.2.2 j j0 j1⟩⟩
  exact f _ _ (by unfold kp rowz at *; omega)
theorem RRow.fr {M M' : jM} {r : Int} {d : Int → Int} {n : Int} (h : RRow M r d n) (e : ∀ b, 10 + 6 * r ≤ b → b < 16 + 6 * r ∨ b = 58 + r → M' 63 b = M 63 b) : RRow M' r d n := by
  obtain ⟨a, b, c, k, e1, e2⟩ := h
  refine ⟨a, b, c, k, by rw [e _ (by omega) (Or.inr rfl)]; exact e1, fun j j0 j1 => ?_⟩
  rw [e _ (by omega) (Or.inl (by omega))]
  exact e2 j j0 j1
theorem EndsW.cong {d d' : Int → Int} {t : Int} {e e' : Int → Int} {m : Int} (h : EndsW d t e m) (h1 : ∀ i, t - m ≤ i → i < t → d' i = d i) (h2 : ∀ j, 0 ≤ j → j < m → e' j = e j) : EndsW d' t e' m := fun j j0 j1 => by rw [h1 _ (by omega) (by omega), h2 j j0 j1]; exact h j j0 j1
theorem EndsW.congr {d d' : Int → Int} {t : Int} {e e' : Int → Int} {m : Int} (h1 : ∀ i, t - m ≤ i → i < t → d' i = d i) (h2 : ∀ j, 0 ≤ j → j < m → e' j = e j) : EndsW d' t e' m ↔ EndsW d t e m := ⟨fun h => h.cong (fun i i0 i1 => (h1 i i0 i1).symm) (fun j j0 j1 => (h2 j j0 j1).symm), fun h => h.cong h1 h2⟩
/-- the row's first k at the end of any signs -/
theorem r_ends {M : jM} {fr sz row k : Int} {x d : Int → Int} {n : Int} (hr : RRow M row d n) (s0 : 0 ≤ sz) (s1 : sz ≤ 24) (f0 : 0 ≤ fr) (f1 : fr + sz ≤ 952) (k0 : 0 ≤ k) (k1 : k ≤ n) (hx : ∀ i, 0 ≤ i → i < sz → M 63 (fr + i) = x i ∧ 0 ≤ x i ∧ x i ≤ 2) :
    ∃ r : Int, f_X10_endsWith M 62 fr sz row k = some r ∧ (r = 0 ∨ r = 1) ∧ (r = 1 ↔ k ≤ sz ∧ EndsW x sz d k) := by
  obtain ⟨a, b, c, e, e1, e2⟩ := hr
  obtain ⟨r, h1, h2, h3⟩ := r_endsWith (M := M) (fr := fr) (sz := sz) (row := row) (k := k) s0 s1 f0 f1 k0 (by omega) a (by omega) (fun i i0 i1 => by obtain ⟨q1, q2, q3⟩ := hx i i0 i1; rw [q1]; exact ⟨q2, q3⟩) (fun j j0 j1 => by obtain ⟨q1, q2, q3⟩ := e2 j j0 (by omega); rw [q1]; exact ⟨q2, q3⟩)
  refine ⟨r, h1, h2, h3.trans ⟨fun ⟨g1, g2⟩ => ⟨g1, g2.cong (fun i i0 i1 => (hx i (by omega) i1).1.symm) (fun j j0 j1 => (e2 j j0 (by omega)).1.symm)⟩, fun ⟨g1, g2⟩ => ⟨g1, g2.cong (fun i i0 i1 => (hx i (by omega) i1).1) (fun j j0 j1 => (e2 j j0 (by omega)).1)⟩⟩⟩
