/-- where a row has come first (-5: nowhere) -/
def FirstEnd (d : Int → Int) (n : Int) (e : Int → Int) (m : Int) (r : Int) : Prop := (r = -5 ∧ ∀ t, m ≤ t → t ≤ n → ¬ EndsW d t e m) ∨ (m ≤ r ∧ r ≤ n ∧ EndsW d r e m ∧ ∀ t, m ≤ t → t < r → ¬ EndsW d t e m)
theorem FirstEnd.one {d : Int → Int} {n : Int} {e : Int → Int} {m r r' : Int} (h : FirstEnd d n e m r) (h' : FirstEnd d n e m r') : r = r' := by
  rcases h with ⟨h1, h2⟩ | ⟨h1, h2, h3, h4⟩ <;> rcases h' with ⟨g1, g2⟩ | ⟨g1, g2, g3, g4⟩
  · omega
  · exact absurd g3 (h2 r' g1 g2)
  · exact absurd h3 (g2 r h1 h2)
  · rcases Int.lt_trichotomy r r' with q | q | q
    · exact absurd h3 (g4 r h1 q)
    · exact q
    · exact absurd g3 (h4 r' g1 q)
theorem s_firstEndOf {M : jM} {a b : Int} {d e : Int → Int} {n m : Int} (ha : Ln M a d n) (hb : Ln M b e m) (h1 : 1 ≤ m) : Ret (f_X3_firstEndOf M a b) (FirstEnd d n e m) := by
  unfold f_X3_firstEndOf
  have hn := ha.2.1
  have hn0 := ha.1
  have hm := hb.2.1
  refine Ret.bb (P := fun x : Unit ⊕ Int => (x = .inl () ∧ ∀ t, m ≤ t → t ≤ n → ¬ EndsW d t e m) ∨ ∃ r, x = .inr r ∧ m ≤ r ∧ r ≤ n ∧ EndsW d r e m ∧ ∀ t, m ≤ t → t < r → ¬ EndsW d t e m) ?_ ?_
  · rw [hb.2.2.1]
    refine Ret.it (fun t : Int => m ≤ t ∧ t ≤ 25 ∧ ∀ t', m ≤ t' → t' < t → ¬ EndsW d t' e m) (fun t => (26 - t).toNat) ?_ 5000 m ⟨Int.le_refl m, by omega, fun t' h1 h2 => absurd h2 (by omega)⟩ (by show (26 - m).toNat < 5000; omega)
    intro t ⟨t0, t1, ht⟩
    unfold f_X3_firstEndOf_L5
    rw [ha.2.2.1, w32_id (x := n) (by omega) (by omega), w32_id (x := t) (by omega) (by omega)]
    refine Ret.i (fun c => Rr (Or.inl ⟨rfl, fun t' g1 g2 => ht t' g1 (by omega)⟩)) (fun c => ?_)
    obtain ⟨r, e1, e2, e3⟩ := s_endsAt ha hb (t := t) (by omega) (by omega)
    refine Ret.b ⟨r, e1, ?_⟩
    dsimp only
    rw [w32_id (x := r) (by omega) (by omega)]
    refine Ret.i (fun c2 => Rl ⟨⟨by omega, by omega, fun t' g1 g2 => ?_⟩, by show (26 - (t + 1)).toNat < (26 - t).toNat; omega⟩) (fun c2 => Rr (Or.inr ⟨t, rfl, t0, by omega, (e3.mp (by omega)).2.2, ht⟩))
    by_cases q : t' = t
    · intro z
      rw [q] at z
      have := e3.mpr ⟨t0, by omega, z⟩
      omega
    · exact ht t' g1 (by omega)
  · intro x hx
    rcases hx with ⟨rfl, h⟩ | ⟨r, rfl, h⟩
    · exact Ret.s (Or.inl ⟨rfl, h⟩)
    · exact Ret.s (Or.inr h)
theorem FirstEnd.rng {d : Int → Int} {n : Int} {e : Int → Int} {m r : Int} (h : FirstEnd d n e m r) (hm : 0 ≤ m) (hn : n ≤ 24) : -5 ≤ r ∧ r ≤ 24 ∧ (r = -5 ∨ m ≤ r) := by
  rcases h with ⟨h1, _⟩ | ⟨h1, h2, _⟩ <;> omega
/-- that a row comes somewhere -/
def Within (d : Int → Int) (n : Int) (e : Int → Int) (m : Int) : Prop := ∃ t, m ≤ t ∧ t ≤ n ∧ EndsW d t e m
theorem FirstEnd.within {d : Int → Int} {n : Int} {e : Int → Int} {m r : Int} (h : FirstEnd d n e m r) (hm : 0 ≤ m) : r = -5 ↔ ¬ Within d n e m := by
  rcases h with ⟨h1, h2⟩ | ⟨h1, h2, h3, h4⟩
  · exact ⟨fun _ ⟨t, g1, g2, g3⟩ => h2 t g1 g2 g3, fun _ => h1⟩
  · exact ⟨fun h => by omega, fun h => absurd ⟨r, h1, h2, h3⟩ h⟩
def Apart (d : Int → Int) (n : Int) (e : Int → Int) (m : Int) : Prop := ¬ Within d n e m ∧ ¬ Within e m d n
theorem s_has {M : jM} {a b : Int} {d e : Int → Int} {n m : Int} (ha : Ln M a d n) (hb : Ln M b e m) (h1 : 1 ≤ m) : Ret (f_X3_has M a b) (fun r => (r = 0 ∨ r = 1) ∧ (r = 1 ↔ Within d n e m)) := by
  unfold f_X3_has
  refine Ret.bb (s_firstEndOf ha hb h1) (fun r hr => ?_)
  obtain ⟨r0, r1, r2⟩ := hr.rng (by omega) ha.2.1
  have hw := hr.within (by omega)
  rw [w32_id (x := r) (by omega) (by omega)]
  refine Ret.i (fun c => Ret.s ⟨Or.inl rfl, ⟨fun h => by omega, fun h => absurd h (hw.mp c)⟩⟩) (fun c => Ret.s ⟨Or.inr rfl, ⟨fun _ => ?_, fun _ => rfl⟩⟩)
  exact Classical.byContradiction fun h => c (hw.mpr h)
theorem s_isApart {M : jM} {a b : Int} {d e : Int → Int} {n m : Int} (ha : Ln M a d n) (hb : Ln M b e m) (h0 : 1 ≤ n) (h1 : 1 ≤ m) : Ret (f_X3_isApart M a b) (fun r => (r = 0 ∨ r = 1) ∧ (r = 1 ↔ Apart d n e m)) := by
  unfold f_X3_isApart
  refine Ret.bb (s_firstEndOf ha hb h1) (fun r hr => ?_)
  obtain ⟨r0, r1, r2⟩ := hr.rng (by omega) ha.2.1
  have hw := hr.within (by omega)
  rw [w32_id (x := r) (by omega) (by omega)]
  refine Ret.i (fun c => ?_) (fun c => Ret.s ⟨Or.inl rfl, ⟨fun h => by omega, fun h => absurd (hw.mpr h.1) c⟩⟩)
  refine Ret.bb (s_firstEndOf hb ha h0) (fun r' hr' => ?_)
  obtain ⟨q0, q1, q2⟩ := hr'.rng (by omega) hb.2.1
  have hw' := hr'.within (by omega)
  rw [w32_id (x := r') (by omega) (by omega)]
  refine Ret.i (fun c' => Ret.s ⟨Or.inr rfl, ⟨fun _ => ⟨hw.mp c, hw'.mp c'⟩, fun _ => rfl⟩⟩) (fun c' => Ret.s ⟨Or.inl rfl, ⟨fun h => by omega, fun h => absurd (hw'.mpr h.2) c'⟩⟩)
/-- the reference's: whether a row (k signs) is within signs from a place on -/
theorem r_isWithin {M : jM} {row fr sz k : Int} (hk : M 63 (58 + row) = k) (s0 : 0 ≤ sz) (s1 : sz ≤ 24) (f0 : 0 ≤ fr) (f1 : fr + sz ≤ 952) (k0 : 1 ≤ k) (k1 : k ≤ 24) (w0 : 0 ≤ row) (w1 : row ≤ 7) (hd : ∀ i, 0 ≤ i → i < sz → 0 ≤ M 63 (fr + i) ∧ M 63 (fr + i) ≤ 2) (he : ∀ j, 0 ≤ j → j < k → 0 ≤ M 63 (10 + 6 * row + j) ∧ M 63 (10 + 6 * row + j) ≤ 2) :
    Ret (f_X10_isWithin M 62 row fr sz) (fun r => (r = 0 ∨ r = 1) ∧ (r = 1 ↔ Within (fun i => M 63 (fr + i)) sz (fun j => M 63 (10 + 6 * row + j)) k)) := by
  unfold f_X10_isWithin
  refine Ret.bb (P := fun r : Int => (r = 0 ∨ r = 1) ∧ (r = 1 ↔ Within (fun i => M 63 (fr + i)) sz (fun j => M 63 (10 + 6 * row + j)) k)) ?_ (fun r hr => Ret.g hr.1 (Ret.s hr))
  refine Ret.it (fun S : Int × Int => 1 ≤ S.2 ∧ S.2 ≤ 25 ∧ (S.1 = 0 ∨ S.1 = 1) ∧ (S.1 = 1 ↔ ∃ t, k ≤ t ∧ t < S.2 ∧ t ≤ sz ∧ EndsW (fun i => M 63 (fr + i)) t (fun j => M 63 (10 + 6 * row + j)) k)) (fun S => (26 - S.2).toNat) ?_ 5000 (0, 1) ⟨by show (1 : Int) ≤ 1; omega, by show (1 : Int) ≤ 25; omega, Or.inl rfl, ⟨fun h => absurd h (by show ¬ (0 : Int) = 1; omega), fun ⟨t, h1, h2, h3⟩ => by have h2 : t < 1 := h2; omega⟩⟩ (by show (26 - 1 : Int).toNat < 5000; omega)
  rintro ⟨a, t⟩ ⟨t0, t1, a0, ha⟩
  dsimp only at t0 t1 a0 ha
  unfold f_X10_isWithin_L6
  dsimp only
  rw [w32_id (x := sz) (by omega) (by omega), w32_id (x := t) (by omega) (by omega), w32_id (x := a) (by omega) (by omega)]
  have mu : (26 - (t + 1)).toNat < (26 - t).toNat := by omega
  refine Ret.i (fun c => Rr ⟨a0, ha.trans ⟨fun ⟨t', h1, h2, h3, h4⟩ => ⟨t', h1, h3, h4⟩, fun ⟨t', h1, h3, h4⟩ => ⟨t', h1, by omega, h3, h4⟩⟩⟩) (fun c => Ret.i (fun c2 => ?_) (fun c2 => ?_))
  · rw [w32_id (x := 58 + row) (by omega) (by omega), show jpt 62 1 = 63 from rfl, hk]
    refine Ret.g ⟨by omega, by omega⟩ ?_
    obtain ⟨r, e1, e2, e3⟩ := r_endsWith (M := M) (fr := fr) (sz := t) (row := row) (k := k) (by omega) (by omega) f0 (by omega) (by omega) k1 w0 (by omega) (fun i i0 i1 => hd i i0 (by omega)) he
    refine Ret.b ⟨r, e1, ?_⟩
    dsimp only
    rw [w32_id (x := r) (by omega) (by omega)]
    unfold f_X10_isWithin_37 f_X10_isWithin_42
    refine Ret.i (fun c3 => Rl ⟨⟨by show 1 ≤ t + 1; omega, by show t + 1 ≤ 25; omega, Or.inl rfl, ⟨fun h => absurd h (by show ¬ (0 : Int) = 1; omega), fun ⟨t', h1, h2, h3, h4⟩ => ?_⟩⟩, mu⟩) (fun c3 => Rl ⟨⟨by show 1 ≤ t + 1; omega, by show t + 1 ≤ 25; omega, Or.inr rfl, ⟨fun _ => ⟨t, (e3.mp (by omega)).1, by show t < t + 1; omega, by omega, (e3.mp (by omega)).2⟩, fun _ => rfl⟩⟩, mu⟩)
    exfalso
    have h2 : t' < t + 1 := h2
    by_cases q : t' = t
    · rw [q] at h1 h4
      have := e3.mpr ⟨h1, h4⟩
      omega
    · have := ha.mpr ⟨t', h1, by omega, h3, h4⟩
      omega
  · unfold f_X10_isWithin_37 f_X10_isWithin_42
    refine Rl ⟨⟨by show 1 ≤ t + 1; omega, by show t + 1 ≤ 25; omega, Or.inr rfl, ⟨fun _ => ?_, fun _ => rfl⟩⟩, mu⟩
    obtain ⟨t', h1, h2, h3, h4⟩ := ha.mp (by omega)
    exact ⟨t', h1, by show t' < t + 1; omega, h3, h4⟩
