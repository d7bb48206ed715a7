/-! the longer row waits longer: of two rows the one that does not begin the other gains -/
theorem ipow1 (a : Int) : a ^ 1 = a := (Int.pow_succ a 0).trans (by rw [Int.pow_zero, Int.one_mul])
def consF (t : Int) (v : Int → Int) : Int → Int := fun i => if i = 0 then t else v (i - 1)
def tailF (b : Int → Int) : Int → Int := fun i => b (i + 1)
theorem consF_0 {t : Int} {v : Int → Int} : consF t v 0 = t := if_pos rfl
theorem consF_s {t : Int} {v : Int → Int} {i : Int} (h : i ≠ 0) : consF t v i = v (i - 1) := if_neg h
theorem hit_tail {b y : Int → Int} {m : Nat} {k v : Int} (h : k ≤ m ∨ ¬ EndsW b ((m : Int) + 1) y ((m : Int) + 1)) : hit b ((m : Int) + 1) y k v = hit (tailF b) m y k v := by
  have e : EndsW b ((m : Int) + 1) y k ↔ EndsW (tailF b) m y k := by
    have e1 : ∀ j, b ((m : Int) + 1 - k + j) = tailF b ((m : Int) - k + j) := fun j => by show b _ = b _; congr 1; omega
    exact ⟨fun g j j0 j1 => by rw [← e1]; exact g j j0 j1, fun g j j0 j1 => by rw [e1]; exact g j j0 j1⟩
  by_cases c : k ≤ m ∧ EndsW (tailF b) m y k
  · rw [hit_y c, hit_y ⟨by omega, e.mpr c.2⟩]
  · rw [hit_n c, hit_n]
    rintro ⟨g1, g2⟩
    rcases h with h | h
    · exact c ⟨h, e.mp g2⟩
    · by_cases q : k ≤ m
      · exact c ⟨q, e.mp g2⟩
      · have : k = (m : Int) + 1 := by omega
        subst this
        exact h g2
theorem lap_tail {w : Int → Int} {al : Int} {b y : Int → Int} {m : Nat} : ∀ {k : Nat}, (k ≤ m ∨ ¬ EndsW b ((m : Int) + 1) y ((m : Int) + 1)) → lapW w al b ((m : Int) + 1) y k = lapW w al (tailF b) m y k
  | 0, _ => rfl
  | k + 1, h => by
    show lapW w al b ((m : Int) + 1) y k * w (y k) + hit b ((m : Int) + 1) y ((k : Int) + 1) (al ^ (k + 1)) = lapW w al (tailF b) m y k * w (y k) + hit (tailF b) m y ((k : Int) + 1) (al ^ (k + 1))
    rw [lap_tail (k := k) (h.imp (fun h => by omega) id), hit_tail (h.imp (fun h => by omega) id)]
theorem hit_sum {b : Int → Int} {m : Nat} (hb : ∀ i : Int, 0 ≤ i → i < m → 0 ≤ b i ∧ b i ≤ 2) {k : Nat} (hk : k + 1 ≤ m) {v : Int} : hit b m (consF 0 b) ((k : Int) + 1) v + hit b m (consF 1 b) ((k : Int) + 1) v + hit b m (consF 2 b) ((k : Int) + 1) v = hit b m b k v := by
  have key : ∀ t, ((k : Int) + 1 ≤ m ∧ EndsW b m (consF t b) ((k : Int) + 1)) ↔ (b ((m : Int) - (k + 1)) = t ∧ ((k : Int) ≤ m ∧ EndsW b m b k)) := by
    intro t
    constructor
    · rintro ⟨g1, g2⟩
      refine ⟨?_, by omega, fun j j0 j1 => ?_⟩
      · have := g2 0 (by omega) (by omega)
        rw [consF_0, Int.add_zero] at this
        exact this
      · have := g2 (j + 1) (by omega) (by omega)
        rw [consF_s (by omega)] at this
        have e1 : (m : Int) - ((k : Int) + 1) + (j + 1) = m - k + j := by omega
        have e2 : j + 1 - 1 = j := by omega
        rw [e1, e2] at this
        exact this
    · rintro ⟨g1, g2, g3⟩
      refine ⟨by omega, fun j j0 j1 => ?_⟩
      by_cases c : j = 0
      · rw [c, consF_0, Int.add_zero]; exact g1
      · rw [consF_s c]
        have := g3 (j - 1) (by omega) (by omega)
        have e1 : (m : Int) - (k : Int) + (j - 1) = m - ((k : Int) + 1) + j := by omega
        rw [e1] at this
        exact this
  obtain ⟨h0, h1⟩ := hb ((m : Int) - (k + 1)) (by omega) (by omega)
  by_cases c : (k : Int) ≤ m ∧ EndsW b m b k
  · rw [hit_y c]
    have hs : b ((m : Int) - (k + 1)) = 0 ∨ b ((m : Int) - (k + 1)) = 1 ∨ b ((m : Int) - (k + 1)) = 2 := by omega
    rcases hs with e | e | e
    · rw [hit_y ((key 0).mpr ⟨e, c⟩), hit_n (fun g => by have := ((key 1).mp g).1; omega), hit_n (fun g => by have := ((key 2).mp g).1; omega)]; omega
    · rw [hit_n (fun g => by have := ((key 0).mp g).1; omega), hit_y ((key 1).mpr ⟨e, c⟩), hit_n (fun g => by have := ((key 2).mp g).1; omega)]; omega
    · rw [hit_n (fun g => by have := ((key 0).mp g).1; omega), hit_n (fun g => by have := ((key 1).mp g).1; omega), hit_y ((key 2).mpr ⟨e, c⟩)]; omega
  · rw [hit_n c, hit_n (fun g => c ((key 0).mp g).2), hit_n (fun g => c ((key 1).mp g).2), hit_n (fun g => c ((key 2).mp g).2)]
    rfl
theorem hit_mul {x : Int → Int} {n : Int} {y : Int → Int} {k v a : Int} : hit x n y k (a * v) = a * hit x n y k v := by
  by_cases c : k ≤ n ∧ EndsW x n y k
  · rw [hit_y c, hit_y c]
  · rw [hit_n c, hit_n c, Int.mul_zero]
theorem lap_sum {w : Int → Int} {al : Int} {b : Int → Int} {m : Nat} (hb : ∀ i : Int, 0 ≤ i → i < m → 0 ≤ b i ∧ b i ≤ 2) : ∀ {k : Nat}, k + 1 ≤ m → lapW w al b m (consF 0 b) (k + 1) + lapW w al b m (consF 1 b) (k + 1) + lapW w al b m (consF 2 b) (k + 1) = al * (lapW w al b m b k + prodW w b k)
  | 0, h => by
    have s := hit_sum hb h (v := al ^ 1)
    show (0 * w _ + hit b m (consF 0 b) (((0 : Nat) : Int) + 1) (al ^ (0 + 1))) + (0 * w _ + hit b m (consF 1 b) (((0 : Nat) : Int) + 1) (al ^ (0 + 1))) + (0 * w _ + hit b m (consF 2 b) (((0 : Nat) : Int) + 1) (al ^ (0 + 1))) = al * (0 + 1)
    rw [Int.zero_mul, Int.zero_mul, Int.zero_mul, Int.zero_add, Int.zero_add, Int.zero_add, s, hit_y ⟨by omega, fun j j0 j1 => by omega⟩]
    simp [ipow1]
  | k + 1, h => by
    have ih := lap_sum hb (k := k) (by omega) (w := w) (al := al)
    have s := hit_sum hb h (v := al ^ (k + 1 + 1))
    have ec : ∀ t, consF t b ((k + 1 : Nat) : Int) = b k := fun t => by rw [consF_s (by omega)]; congr 1; omega
    show (lapW w al b m (consF 0 b) (k + 1) * w (consF 0 b ((k + 1 : Nat) : Int)) + hit b m (consF 0 b) (((k + 1 : Nat) : Int) + 1) (al ^ (k + 1 + 1))) + (lapW w al b m (consF 1 b) (k + 1) * w (consF 1 b ((k + 1 : Nat) : Int)) + hit b m (consF 1 b) (((k + 1 : Nat) : Int) + 1) (al ^ (k + 1 + 1))) + (lapW w al b m (consF 2 b) (k + 1) * w (consF 2 b ((k + 1 : Nat) : Int)) + hit b m (consF 2 b) (((k + 1 : Nat) : Int) + 1) (al ^ (k + 1 + 1))) = al * ((lapW w al b m b k * w (b k) + hit b m b ((k : Int) + 1) (al ^ (k + 1))) + prodW w b k * w (b k))
    rw [ec, ec, ec]
    have s2 : hit b m b ((k + 1 : Nat) : Int) (al ^ (k + 1 + 1)) = al * hit b m b ((k : Int) + 1) (al ^ (k + 1)) := by
      rw [Int.pow_succ, Int.mul_comm, hit_mul]
      rfl
    rw [s2] at s
    have e1 : al * ((lapW w al b m b k * w (b k) + hit b m b ((k : Int) + 1) (al ^ (k + 1))) + prodW w b k * w (b k)) = (al * (lapW w al b m b k + prodW w b k)) * w (b k) + al * hit b m b ((k : Int) + 1) (al ^ (k + 1)) := by
      rw [Int.mul_add, Int.mul_add, Int.mul_add, Int.add_mul, Int.mul_assoc, Int.mul_assoc]; omega
    rw [e1, ← ih, ← s, Int.add_mul, Int.add_mul]
    omega
def Fine (w b : Int → Int) (m : Nat) : Prop := ∀ i : Int, 0 ≤ i → i < m → 0 ≤ b i ∧ b i ≤ 2 ∧ 0 < w (b i)
theorem Fine.pos {w b : Int → Int} : ∀ {m : Nat}, Fine w b m → 0 < prodW w b m
  | 0, _ => by show (0 : Int) < 1; decide
  | m + 1, h => Int.mul_pos (Fine.pos (m := m) (fun i i0 i1 => h i i0 (by omega))) (h m (by omega) (by omega)).2.2
theorem prodW_cons {w : Int → Int} {t : Int} {b : Int → Int} {m : Nat} : prodW w (consF t b) (m + 1) = w t * prodW w b m := by
  have e : m + 1 = 1 + m := by omega
  rw [e, prodW_split]
  show (1 * w (consF t b 0)) * _ = _
  rw [consF_0, Int.one_mul]
  congr 1
  exact prodW_cong (fun i i0 i1 => by show consF t b _ = _; rw [consF_s (by omega)]; congr 1; omega)
theorem prodW_nn {w y : Int → Int} : ∀ {n : Nat}, (∀ i : Int, 0 ≤ i → i < n → 0 ≤ w (y i)) → 0 ≤ prodW w y n
  | 0, _ => by show (0 : Int) ≤ 1; decide
  | n + 1, h => Int.mul_nonneg (prodW_nn (fun i i0 i1 => h i i0 (by omega))) (h n (by omega) (by omega))
theorem hit_nn {x : Int → Int} {n : Int} {y : Int → Int} {k v : Int} (h : 0 ≤ v) : 0 ≤ hit x n y k v := by
  by_cases c : k ≤ n ∧ EndsW x n y k
  · rw [hit_y c]; exact h
  · rw [hit_n c]; exact Int.le_refl 0
theorem lapW_nn {w : Int → Int} {al : Int} {x : Int → Int} {n : Int} {y : Int → Int} (h0 : 0 ≤ al) : ∀ {k : Nat}, (∀ i : Int, 0 ≤ i → i < k → 0 ≤ w (y i)) → 0 ≤ lapW w al x n y k
  | 0, _ => Int.le_refl 0
  | k + 1, h => Int.add_nonneg (Int.mul_nonneg (lapW_nn h0 (fun i i0 i1 => h i i0 (by omega))) (h k (by omega) (by omega))) (hit_nn (Int.pow_nonneg h0))
theorem EndsW.self {d : Int → Int} {m : Int} : EndsW d m d m := fun j _ _ => by congr 1; omega
theorem tail_cons {t : Int} {b : Int → Int} {i : Int} (h : 0 ≤ i) : tailF (consF t b) i = b i := by
  show consF t b (i + 1) = b i
  rw [consF_s (by omega)]; congr 1; omega
theorem cons_tail {b : Int → Int} {i : Int} (h : 0 ≤ i) : consF (b 0) (tailF b) i = b i := by
  by_cases c : i = 0
  · rw [c, consF_0]
  · rw [consF_s c]; show b (i - 1 + 1) = b i; congr 1; omega
/-- the row with a sign ahead, in its parts -/
theorem lap_cons {w : Int → Int} {al t : Int} {b : Int → Int} {m : Nat} : lapW w al (consF t b) ((m : Int) + 1) (consF t b) (m + 1) = lapW w al b m (consF t b) (m + 1) + al ^ (m + 1) := by
  have e1 : lapW w al (consF t b) ((m : Int) + 1) (consF t b) m = lapW w al b m (consF t b) m := by
    rw [lap_tail (Or.inl (Nat.le_refl _))]
    exact (lapW_cong (fun i i0 i1 => tail_cons i0) (fun j _ _ => rfl))
  show lapW w al (consF t b) ((m : Int) + 1) (consF t b) m * w _ + hit (consF t b) ((m : Int) + 1) (consF t b) ((m : Int) + 1) (al ^ (m + 1)) = (lapW w al b m (consF t b) m * w _ + hit b m (consF t b) ((m : Int) + 1) (al ^ (m + 1))) + al ^ (m + 1)
  rw [e1, hit_y ⟨Int.le_refl _, EndsW.self⟩, hit_n (x := b) (fun g => by have := g.1; omega), Int.add_zero]
theorem lap_self {w : Int → Int} {al : Int} {b : Int → Int} {m : Nat} : lapW w al b ((m : Int) + 1) b (m + 1) = lapW w al b ((m : Int) + 1) b m * w (b m) + al ^ (m + 1) := by
  show lapW w al b ((m : Int) + 1) b m * w (b m) + hit b ((m : Int) + 1) b ((m : Int) + 1) (al ^ (m + 1)) = _
  rw [hit_y ⟨Int.le_refl _, EndsW.self⟩]
def GainP (w : Int → Int) (al : Int) (m : Nat) : Prop := ∀ b, Fine w b m → ∀ (y : Int → Int) (n : Nat), (∀ i : Int, 0 ≤ i → i < n → 0 ≤ w (y i)) → lapW w al b m y n * prodW w b m ≤ lapW w al b m b m * prodW w y n
theorem grow_sum {w : Int → Int} {al : Int} {b : Int → Int} : ∀ {m : Nat}, Fine w b m → lapW w al b m (consF 0 b) (m + 1) + lapW w al b m (consF 1 b) (m + 1) + lapW w al b m (consF 2 b) (m + 1) + al ^ (m + 1) = al * prodW w b m + al * lapW w al b m b m
  | 0, _ => by
    show (0 * w _ + hit b (0 : Nat) (consF 0 b) (((0 : Nat) : Int) + 1) (al ^ (0 + 1))) + (0 * w _ + hit b (0 : Nat) (consF 1 b) (((0 : Nat) : Int) + 1) (al ^ (0 + 1))) + (0 * w _ + hit b (0 : Nat) (consF 2 b) (((0 : Nat) : Int) + 1) (al ^ (0 + 1))) + al ^ (0 + 1) = al * 1 + al * 0
    rw [hit_n (fun g => by have := g.1; omega), hit_n (fun g => by have := g.1; omega), hit_n (fun g => by have := g.1; omega)]
    simp [ipow1]
  | m + 1, h => by
    have s := lap_sum (w := w) (al := al) (m := m + 1) (fun i i0 i1 => ⟨(h i i0 i1).1, (h i i0 i1).2.1⟩) (k := m) (by omega)
    have ec : ∀ t, consF t b ((m + 1 : Nat) : Int) = b m := fun t => by rw [consF_s (by omega)]; congr 1; omega
    have z : ∀ t, lapW w al b ((m + 1 : Nat) : Int) (consF t b) (m + 1 + 1) = lapW w al b ((m + 1 : Nat) : Int) (consF t b) (m + 1) * w (b m) := fun t => by
      show lapW w al b ((m + 1 : Nat) : Int) (consF t b) (m + 1) * w (consF t b ((m + 1 : Nat) : Int)) + hit b ((m + 1 : Nat) : Int) (consF t b) (((m + 1 : Nat) : Int) + 1) _ = _
      rw [hit_n (fun g => by have := g.1; omega), ec, Int.add_zero]
    have e2 : lapW w al b ((m + 1 : Nat) : Int) b (m + 1) = lapW w al b ((m + 1 : Nat) : Int) b m * w (b m) + al ^ (m + 1) := lap_self
    rw [z, z, z, e2, ← Int.add_mul, ← Int.add_mul, s]
    show _ = al * (prodW w b m * w (b m)) + _
    rw [Int.mul_add al (lapW w al b ((m + 1 : Nat) : Int) b m * w (b m)), Int.mul_add al (lapW w al b ((m + 1 : Nat) : Int) b m), Int.add_mul, Int.pow_succ al (m + 1), Int.mul_comm (al ^ (m + 1)) al, Int.mul_assoc, Int.mul_assoc]
    omega
theorem grow {w : Int → Int} {al : Int} (hal : al = w 0 + w 1 + w 2) (hw : ∀ s, 0 ≤ s → s ≤ 2 → 0 ≤ w s) {m : Nat} (P : GainP w al m) {b : Int → Int} (hb : Fine w b m) {t : Int} (t0 : 0 ≤ t) (t1 : t ≤ 2) : al * prodW w b m + w t * lapW w al b m b m ≤ lapW w al (consF t b) ((m : Int) + 1) (consF t b) (m + 1) := by
  have hp := hb.pos
  have key : ∀ t, 0 ≤ t → t ≤ 2 → lapW w al b m (consF t b) (m + 1) ≤ w t * lapW w al b m b m := by
    intro t t0 t1
    have := P b hb (consF t b) (m + 1) (fun i i0 i1 => by
      by_cases c : i = 0
      · rw [c, consF_0]; exact hw t t0 t1
      · rw [consF_s c]; exact Int.le_of_lt (hb _ (by omega) (by omega)).2.2)
    rw [prodW_cons, ← Int.mul_assoc, Int.mul_comm (lapW w al b m b m) (w t)] at this
    exact Int.le_of_mul_le_mul_right this hp
  have s := grow_sum (al := al) hb
  have k0 := key 0 (by decide) (by decide)
  have k1 := key 1 (by decide) (by decide)
  have k2 := key 2 (by decide) (by decide)
  rw [lap_cons]
  have ea : al * lapW w al b m b m = w 0 * lapW w al b m b m + w 1 * lapW w al b m b m + w 2 * lapW w al b m b m := by
    rw [← Int.add_mul, ← Int.add_mul, ← hal]
  have ht : t = 0 ∨ t = 1 ∨ t = 2 := by omega
  rcases ht with rfl | rfl | rfl <;> omega
theorem lap_full {w : Int → Int} {al : Int} {b y : Int → Int} {m : Nat} : ∀ {k : Nat}, lapW w al b m y (m + k) = lapW w al b m y m * prodW w (fun i => y ((m : Int) + i)) k
  | 0 => by show lapW w al b m y m = lapW w al b m y m * 1; rw [Int.mul_one]
  | k + 1 => by
    show lapW w al b m y (m + k) * w (y ((m + k : Nat) : Int)) + hit b m y (((m + k : Nat) : Int) + 1) (al ^ (m + k + 1)) = lapW w al b m y m * (prodW w (fun i => y ((m : Int) + i)) k * w (y ((m : Int) + (k : Int))))
    rw [hit_n (fun g => by have := g.1; omega), lap_full, Int.add_zero, Int.mul_assoc, Int.natCast_add]
/-- not a beginning: even more -/
theorem gain_step {w : Int → Int} {al : Int} (hal : al = w 0 + w 1 + w 2) (hw : ∀ s, 0 ≤ s → s ≤ 2 → 0 ≤ w s) {m : Nat} (P : GainP w al m) {b : Int → Int} (hb : Fine w b (m + 1)) {y : Int → Int} {n : Nat} (hy : ∀ i : Int, 0 ≤ i → i < n → 0 ≤ w (y i)) (hn : n ≤ m ∨ ¬ EndsW b ((m : Int) + 1) y ((m : Int) + 1)) : lapW w al b ((m : Int) + 1) y n * prodW w b (m + 1) + al * prodW w (tailF b) m * prodW w y n ≤ lapW w al b ((m : Int) + 1) b (m + 1) * prodW w y n := by
  have hv : Fine w (tailF b) m := fun i i0 i1 => hb (i + 1) (by omega) (by omega)
  obtain ⟨t0, t1, t2⟩ := hb 0 (by omega) (by omega)
  have hg := grow hal hw P hv t0 t1
  have e1 : lapW w al (consF (b 0) (tailF b)) ((m : Int) + 1) (consF (b 0) (tailF b)) (m + 1) = lapW w al b ((m : Int) + 1) b (m + 1) := lapW_cong (fun i i0 _ => cons_tail i0) (fun j j0 _ => cons_tail j0)
  have e2 : prodW w b (m + 1) = w (b 0) * prodW w (tailF b) m := by
    rw [← prodW_cons]
    exact prodW_cong (fun i i0 _ => (cons_tail i0).symm)
  have hp := prodW_nn hy
  rw [e1] at hg
  rw [lap_tail (hn.imp (fun h => by omega) id), e2]
  have ih := Int.mul_le_mul_of_nonneg_left (P (tailF b) hv y n hy) (Int.le_of_lt t2)
  have h3 := Int.mul_le_mul_of_nonneg_right hg hp
  rw [Int.add_mul, Int.mul_assoc (w (b 0))] at h3
  have e3 : lapW w al (tailF b) m y n * (w (b 0) * prodW w (tailF b) m) = w (b 0) * (lapW w al (tailF b) m y n * prodW w (tailF b) m) := by rw [Int.mul_left_comm]
  rw [e3]
  omega
theorem gain {w : Int → Int} {al : Int} (hal : al = w 0 + w 1 + w 2) (hw : ∀ s, 0 ≤ s → s ≤ 2 → 0 ≤ w s) : ∀ m : Nat, GainP w al m := by
  have ha : 0 ≤ al := by
    have := hw 0 (by decide) (by decide)
    have := hw 1 (by decide) (by decide)
    have := hw 2 (by decide) (by decide)
    omega
  intro m
  induction m with
  | zero =>
    intro b hb y n hy
    have e : ∀ (y : Int → Int) (k : Nat), lapW w al b ((0 : Nat) : Int) y k = 0 := by
      intro y k
      induction k with
      | zero => rfl
      | succ k ih =>
        show lapW w al b ((0 : Nat) : Int) y k * w (y k) + hit b ((0 : Nat) : Int) y ((k : Int) + 1) (al ^ (k + 1)) = 0
        rw [ih, hit_n (fun g => by have := g.1; omega)]
        simp
    rw [e, e, Int.zero_mul, Int.zero_mul]
    exact Int.le_refl 0
  | succ m P =>
    intro b hb y n hy
    by_cases c : n ≤ m ∨ ¬ EndsW b ((m : Int) + 1) y ((m : Int) + 1)
    · have h := gain_step hal hw P hb hy c
      have h1 : 0 ≤ al * prodW w (tailF b) m * prodW w y n := Int.mul_nonneg (Int.mul_nonneg ha (Int.le_of_lt (Fine.pos (fun i i0 i1 => hb (i + 1) (by omega) (by omega))))) (prodW_nn hy)
      show lapW w al b ((m : Int) + 1) y n * prodW w b (m + 1) ≤ lapW w al b ((m : Int) + 1) b (m + 1) * prodW w y n
      omega
    · have c1 : m + 1 ≤ n := by omega
      have c2 : EndsW b ((m : Int) + 1) y ((m : Int) + 1) := Classical.byContradiction fun g => c (Or.inr g)
      obtain ⟨k, rfl⟩ := Nat.exists_eq_add_of_le c1
      have hby : ∀ j : Int, 0 ≤ j → j < ((m + 1 : Nat) : Int) → y j = b j := fun j j0 j1 => by
        rw [← c2 j j0 (by omega)]; congr 1; omega
      rw [lap_full, prodW_split (d := y) (k := m + 1) (n := k), lapW_cong (x := b) (x' := b) (fun _ _ _ => rfl) hby, prodW_cong (n := m + 1) hby]
      have e3 : ∀ a p q : Int, a * q * p = a * (p * q) := fun a p q => by rw [Int.mul_assoc, Int.mul_comm q p]
      rw [e3]
      exact Int.le_refl _
theorem gain_lt {w : Int → Int} {al : Int} (hal : al = w 0 + w 1 + w 2) (hw : ∀ s, 0 ≤ s → s ≤ 2 → 0 ≤ w s) {m n : Nat} (hm : 1 ≤ m) {b y : Int → Int} (hb : Fine w b m) (hy : Fine w y n) (hn : ¬ (m ≤ n ∧ EndsW y m b m)) : lapW w al b m y n * prodW w b m < lapW w al b m b m * prodW w y n := by
  obtain ⟨q, rfl⟩ : ∃ q, m = q + 1 := ⟨m - 1, by omega⟩
  have ha : 0 < al := by
    have h0 := hw 0 (by decide) (by decide)
    have h1 := hw 1 (by decide) (by decide)
    have h2 := hw 2 (by decide) (by decide)
    obtain ⟨t0, t1, t2⟩ := hb 0 (by omega) (by omega)
    have ht : b 0 = 0 ∨ b 0 = 1 ∨ b 0 = 2 := by omega
    rcases ht with e | e | e <;> rw [e] at t2 <;> omega
  have h := gain_step hal hw (gain hal hw q) hb (fun i i0 i1 => Int.le_of_lt (hy i i0 i1).2.2) (n := n) (by
    by_cases c : n ≤ q
    · exact Or.inl c
    · refine Or.inr (fun g => hn ⟨by omega, fun j j0 j1 => ?_⟩)
      have := g j j0 (by omega)
      have e1 : ((q + 1 : Nat) : Int) - ((q + 1 : Nat) : Int) + j = j := by omega
      have e2 : (q : Int) + 1 - ((q : Int) + 1) + j = j := by omega
      rw [e2] at this
      rw [e1]
      exact this.symm)
  have h1 : 0 < al * prodW w (tailF b) q * prodW w y n := Int.mul_pos (Int.mul_pos ha (Fine.pos (fun i i0 i1 => hb (i + 1) (by omega) (by omega)))) hy.pos
  show lapW w al b ((q : Int) + 1) y n * prodW w b (q + 1) < lapW w al b ((q : Int) + 1) b (q + 1) * prodW w y n
  omega
