/-! the stall's text, read by the document's rules: ok, the place, the steps, the truth -/
abbrev jTV : Type := Int → Int → Int → Bool
abbrev jPR : Type := Bool × Int × List Int × jTV
def nxt (tp : Int → Int) (e p : Int) : Int := if p < e then tp p else -1
def pNum (tp : Int → Int) (e p : Int) : Bool × Int × Int :=
  if 48 ≤ nxt tp e p ∧ nxt tp e p ≤ 57 then (if nxt tp e p = 48 ∨ ¬ (48 ≤ nxt tp e (p + 1) ∧ nxt tp e (p + 1) ≤ 57) then (true, p + 1, nxt tp e p - 48) else (true, p + 2, (nxt tp e p - 48) * 10 + nxt tp e (p + 1) - 48)) else (false, p, 0)
def letN (w : Int) : Int := if w = 115 then 0 else if w = 103 then 1 else 2
def tvT (w h v : Int) : jTV := fun g sg dy =>
  let x := if w = 0 then sg else if w = 1 then g else dy
  if h = 0 then decide (x < v) else if h = 1 then decide (x = v) else decide (v < x)
def pTest (tp : Int → Int) (e p : Int) : jPR :=
  if nxt tp e p = 115 ∨ nxt tp e p = 103 ∨ nxt tp e p = 100 then
    (if 60 ≤ nxt tp e (p + 1) ∧ nxt tp e (p + 1) ≤ 62 then
      (if (pNum tp e (p + 2)).1 then (true, (pNum tp e (p + 2)).2.1, [letN (nxt tp e p) + 8 * (nxt tp e (p + 1) - 60) + 32 * (pNum tp e (p + 2)).2.2], tvT (letN (nxt tp e p)) (nxt tp e (p + 1) - 60) (pNum tp e (p + 2)).2.2)
      else (false, (pNum tp e (p + 2)).2.1, [], fun _ _ _ => false))
    else (false, p + 1, [], fun _ _ _ => false))
  else (false, p, [], fun _ _ _ => false)
def pJoin (stp : Int) (op : Bool → Bool → Bool) (r q : jPR) : jPR := (q.1, q.2.1, r.2.2.1 ++ (q.2.2.1 ++ (if q.1 then [stp] else [])), fun g s d => op (r.2.2.2 g s d) (q.2.2.2 g s d))
def pL (tp : Int → Int) (e : Int) (f : Int → jPR) (c stp : Int) (op : Bool → Bool → Bool) : Nat → jPR → jPR
  | 0, r => r
  | n + 1, r => if r.1 = true ∧ nxt tp e r.2.1 = c then pL tp e f c stp op n (pJoin stp op r (f (r.2.1 + 1))) else r
def pNeg (r : jPR) : jPR := (r.1, r.2.1, r.2.2.1 ++ (if r.1 then [-1] else []), fun g s d => !(r.2.2.2 g s d))
def pClose (tp : Int → Int) (e : Int) (r : jPR) : jPR := if r.1 = true ∧ nxt tp e r.2.1 = 41 then (true, r.2.1 + 1, r.2.2.1, r.2.2.2) else (false, r.2.1, r.2.2.1, r.2.2.2)
def pG (tp : Int → Int) (e : Int) : Nat → Nat → Int → Int → jPR
  | 0, _, p, _ => (false, p, [], fun _ _ _ => false)
  | d + 1, 0, p, o => pL tp e (fun q => pG tp e d 1 q o) 124 (-3) or 100 (pG tp e d 1 p o)
  | d + 1, 1, p, o => pL tp e (fun q => pG tp e d 2 q o) 38 (-2) and 100 (pG tp e d 2 p o)
  | d + 1, _, p, o => if nxt tp e p = 33 ∨ nxt tp e p = 40 then (if 5 ≤ o then (false, p, [], fun _ _ _ => false) else if nxt tp e p = 33 then pNeg (pG tp e d 2 (p + 1) (o + 1)) else pClose tp e (pG tp e d 0 (p + 1) (o + 1))) else pTest tp e p
/-- how far it goes, and how many steps it makes -/
def PB (e p : Int) (r : jPR) : Prop := p ≤ r.2.1 ∧ r.2.1 ≤ e ∧ (r.2.2.1.length : Int) ≤ r.2.1 - p
theorem nxt_lt {tp : Int → Int} {e p : Int} (h : 0 ≤ nxt tp e p) : p < e := by
  unfold nxt at h
  by_cases c : p < e
  · exact c
  · rw [if_neg c] at h; omega
theorem pNum_b {tp : Int → Int} {e p : Int} (h : p ≤ e) : p ≤ (pNum tp e p).2.1 ∧ (pNum tp e p).2.1 ≤ e ∧ ((pNum tp e p).1 = true → p < (pNum tp e p).2.1 ∧ 0 ≤ (pNum tp e p).2.2 ∧ (pNum tp e p).2.2 ≤ 99) := by
  unfold pNum
  by_cases c : 48 ≤ nxt tp e p ∧ nxt tp e p ≤ 57
  · rw [if_pos c]
    have h1 := nxt_lt (tp := tp) (e := e) (p := p) (by omega)
    by_cases c2 : nxt tp e p = 48 ∨ ¬ (48 ≤ nxt tp e (p + 1) ∧ nxt tp e (p + 1) ≤ 57)
    · rw [if_pos c2]
      exact ⟨by show p ≤ p + 1; omega, by show p + 1 ≤ e; omega, fun _ => ⟨by show p < p + 1; omega, by show 0 ≤ nxt tp e p - 48; omega, by show nxt tp e p - 48 ≤ 99; omega⟩⟩
    · rw [if_neg c2]
      have h2 := nxt_lt (tp := tp) (e := e) (p := p + 1) (by omega)
      exact ⟨by show p ≤ p + 2; omega, by show p + 2 ≤ e; omega, fun _ => ⟨by show p < p + 2; omega, by show 0 ≤ (nxt tp e p - 48) * 10 + nxt tp e (p + 1) - 48; omega, by show (nxt tp e p - 48) * 10 + nxt tp e (p + 1) - 48 ≤ 99; omega⟩⟩
  · rw [if_neg c]
    exact ⟨Int.le_refl p, h, fun q => by cases q⟩
theorem pTest_b {tp : Int → Int} {e p : Int} (h : p ≤ e) : PB e p (pTest tp e p) := by
  unfold pTest
  split
  · rename_i c
    have h1 := nxt_lt (tp := tp) (e := e) (p := p) (by omega)
    split
    · rename_i c2
      have h2 := nxt_lt (tp := tp) (e := e) (p := p + 1) (by omega)
      obtain ⟨b1, b2, b3⟩ := pNum_b (tp := tp) (e := e) (p := p + 2) (by omega)
      split
      · exact ⟨by show p ≤ (pNum tp e (p + 2)).2.1; omega, b2, by show ((1 : Nat) : Int) ≤ (pNum tp e (p + 2)).2.1 - p; omega⟩
      · exact ⟨by show p ≤ (pNum tp e (p + 2)).2.1; omega, b2, by show ((0 : Nat) : Int) ≤ (pNum tp e (p + 2)).2.1 - p; omega⟩
    · exact ⟨by show p ≤ p + 1; omega, by show p + 1 ≤ e; omega, by show ((0 : Nat) : Int) ≤ p + 1 - p; omega⟩
  · exact ⟨Int.le_refl p, h, by show ((0 : Nat) : Int) ≤ p - p; omega⟩
theorem PB.join {e p : Int} {stp : Int} {op : Bool → Bool → Bool} {r q : jPR} (h : PB e p r) (hq : PB e (r.2.1 + 1) q) : PB e p (pJoin stp op r q) := by
  obtain ⟨h1, h2, h3⟩ := h
  obtain ⟨q1, q2, q3⟩ := hq
  refine ⟨by show p ≤ q.2.1; omega, q2, ?_⟩
  show ((r.2.2.1 ++ (q.2.2.1 ++ (if q.1 then [stp] else []))).length : Int) ≤ q.2.1 - p
  have hl : (if q.1 then [stp] else []).length ≤ 1 := by
    split
    · exact Nat.le_refl 1
    · exact Nat.zero_le 1
  rw [List.length_append, List.length_append]
  omega
theorem pL_b {tp : Int → Int} {e p : Int} {f : Int → jPR} {c stp : Int} {op : Bool → Bool → Bool} (c0 : 0 ≤ c) (hf : ∀ q, p ≤ q → q ≤ e → PB e q (f q)) : ∀ {n : Nat} {r : jPR}, PB e p r → PB e p (pL tp e f c stp op n r)
  | 0, _, h => h
  | n + 1, r, h => by
    unfold pL
    split
    · rename_i q
      have h1 := nxt_lt (tp := tp) (e := e) (p := r.2.1) (by omega)
      exact pL_b c0 hf (h.join (hf _ (by have := h.1; omega) (by omega)))
    · exact h
theorem pG_b {tp : Int → Int} {e : Int} : ∀ {d k : Nat} {p o : Int}, p ≤ e → PB e p (pG tp e d k p o)
  | 0, _, p, _, h => ⟨Int.le_refl p, h, by show ((0 : Nat) : Int) ≤ p - p; omega⟩
  | d + 1, 0, p, o, h => pL_b (by decide) (fun q _ q1 => pG_b q1) (pG_b h)
  | d + 1, 1, p, o, h => pL_b (by decide) (fun q _ q1 => pG_b q1) (pG_b h)
  | d + 1, k + 2, p, o, h => by
    show PB e p (if nxt tp e p = 33 ∨ nxt tp e p = 40 then (if 5 ≤ o then (false, p, [], fun _ _ _ => false) else if nxt tp e p = 33 then pNeg (pG tp e d 2 (p + 1) (o + 1)) else pClose tp e (pG tp e d 0 (p + 1) (o + 1))) else pTest tp e p)
    split
    · rename_i c
      have h1 := nxt_lt (tp := tp) (e := e) (p := p) (by omega)
      split
      · exact ⟨Int.le_refl p, h, by show ((0 : Nat) : Int) ≤ p - p; omega⟩
      · split
        · obtain ⟨b1, b2, b3⟩ := pG_b (tp := tp) (d := d) (k := 2) (p := p + 1) (o := o + 1) (show p + 1 ≤ e by omega)
          refine ⟨by show p ≤ (pG tp e d 2 (p + 1) (o + 1)).2.1; omega, b2, ?_⟩
          show (((pG tp e d 2 (p + 1) (o + 1)).2.2.1 ++ (if (pG tp e d 2 (p + 1) (o + 1)).1 then [-1] else [])).length : Int) ≤ (pG tp e d 2 (p + 1) (o + 1)).2.1 - p
          have hl : (if (pG tp e d 2 (p + 1) (o + 1)).1 then [(-1 : Int)] else []).length ≤ 1 := by split <;> decide
          rw [List.length_append]
          omega
        · obtain ⟨b1, b2, b3⟩ := pG_b (tp := tp) (d := d) (k := 0) (p := p + 1) (o := o + 1) (show p + 1 ≤ e by omega)
          unfold pClose
          split
          · rename_i c4
            have h2 := nxt_lt (tp := tp) (e := e) (p := (pG tp e d 0 (p + 1) (o + 1)).2.1) (by omega)
            exact ⟨by show p ≤ (pG tp e d 0 (p + 1) (o + 1)).2.1 + 1; omega, by show (pG tp e d 0 (p + 1) (o + 1)).2.1 + 1 ≤ e; omega, by show ((pG tp e d 0 (p + 1) (o + 1)).2.2.1.length : Int) ≤ (pG tp e d 0 (p + 1) (o + 1)).2.1 + 1 - p; omega⟩
          · exact ⟨by show p ≤ (pG tp e d 0 (p + 1) (o + 1)).2.1; omega, b2, by show ((pG tp e d 0 (p + 1) (o + 1)).2.2.1.length : Int) ≤ (pG tp e d 0 (p + 1) (o + 1)).2.1 - p; omega⟩
    · exact pTest_b h
/-! the steps give the truth -/
def EvP (g dy sg : Int) (N : Nat) (r : jPR) : Prop := r.1 = true → ∀ st rest sum, st.length + N < 64 → evS g dy sg (r.2.2.1 ++ rest) st sum = evS g dy sg rest (r.2.2.2 g sg dy :: st) sum
theorem ev_join {g dy sg : Int} {N : Nat} {stp : Int} {op : Bool → Bool → Bool} {r q : jPR} (hs : ∀ a b st rest sum, evS g dy sg (stp :: rest) (b :: a :: st) sum = evS g dy sg rest (op a b :: st) sum) (hr1 : r.1 = true) (h : EvP g dy sg (N + 1) r) (hq : EvP g dy sg N q) : EvP g dy sg (N + 1) (pJoin stp op r q) := by
  intro ok st rest sum hl
  have okq : q.1 = true := ok
  show evS g dy sg ((r.2.2.1 ++ (q.2.2.1 ++ (if q.1 then [stp] else []))) ++ rest) st sum = evS g dy sg rest (op (r.2.2.2 g sg dy) (q.2.2.2 g sg dy) :: st) sum
  rw [okq, if_pos rfl, List.append_assoc, h hr1 st _ sum hl, List.append_assoc, hq okq _ _ sum (by show st.length + 1 + N < 64; omega)]
  exact hs _ _ _ _ _
theorem ev_pL {tp : Int → Int} {e g dy sg : Int} {N : Nat} {f : Int → jPR} {c stp : Int} {op : Bool → Bool → Bool} (hs : ∀ a b st rest sum, evS g dy sg (stp :: rest) (b :: a :: st) sum = evS g dy sg rest (op a b :: st) sum) (hf : ∀ q, EvP g dy sg N (f q)) : ∀ {n : Nat} {r : jPR}, EvP g dy sg (N + 1) r → EvP g dy sg (N + 1) (pL tp e f c stp op n r)
  | 0, _, h => h
  | n + 1, r, h => by
    unfold pL
    split
    · rename_i q
      exact ev_pL hs hf (ev_join hs q.1 h (hf _))
    · exact h
theorem evS_bin {g dy sg s : Int} {a b : Bool} {st : List Bool} {rest : List Int} {sum : Int} (h0 : ¬ 0 ≤ s) (h1 : s ≠ -1) (h2 : -10 < s) : evS g dy sg (s :: rest) (b :: a :: st) sum = evS g dy sg rest ((if s = -2 then a && b else a || b) :: st) sum := by
  rw [evS.eq_def]
  dsimp only
  rw [if_neg h0, if_neg h1, if_pos h2]
theorem ev_test {tp : Int → Int} {e p g dy sg : Int} : EvP g dy sg 0 (pTest tp e p) := by
  intro ok st rest sum hl
  unfold pTest at ok ⊢
  by_cases c : nxt tp e p = 115 ∨ nxt tp e p = 103 ∨ nxt tp e p = 100
  · rw [if_pos c] at ok ⊢
    have h1 := nxt_lt (tp := tp) (e := e) (p := p) (by omega)
    by_cases c2 : 60 ≤ nxt tp e (p + 1) ∧ nxt tp e (p + 1) ≤ 62
    · rw [if_pos c2] at ok ⊢
      have h2 := nxt_lt (tp := tp) (e := e) (p := p + 1) (by omega)
      by_cases c3 : (pNum tp e (p + 2)).1 = true
      · rw [if_pos c3]
        obtain ⟨b1, b2, b3⟩ := pNum_b (tp := tp) (e := e) (p := p + 2) (by omega)
        obtain ⟨-, b4, b5⟩ := b3 c3
        have hw : 0 ≤ letN (nxt tp e p) ∧ letN (nxt tp e p) ≤ 2 := by
          unfold letN; split
          · decide
          · split <;> decide
        generalize letN (nxt tp e p) = w at hw ⊢
        generalize nxt tp e (p + 1) = h at c2 ⊢
        generalize (pNum tp e (p + 2)).2.2 = v at b4 b5 ⊢
        show evS g dy sg ((w + 8 * (h - 60) + 32 * v) :: rest) st sum = evS g dy sg rest (tvT w (h - 60) v g sg dy :: st) sum
        rw [evS.eq_def]
        dsimp only
        have x1 : (w + 8 * (h - 60) + 32 * v) % 8 = w := by omega
        have x2 : (w + 8 * (h - 60) + 32 * v) / 8 % 4 = h - 60 := by omega
        have x3 : (w + 8 * (h - 60) + 32 * v) / 32 = v := by omega
        rw [x1, x2, x3, if_pos (by omega), if_pos ⟨by omega, by omega⟩]
        rfl
      · rw [if_neg c3] at ok; cases ok
    · rw [if_neg c2] at ok; cases ok
  · rw [if_neg c] at ok; cases ok
theorem EvP.more {g dy sg : Int} {N N' : Nat} {r : jPR} (h : EvP g dy sg N r) (hn : N ≤ N') : EvP g dy sg N' r := fun ok st rest sum hl => h ok st rest sum (by omega)
theorem ev_pNeg {g dy sg : Int} {N : Nat} {r : jPR} (h : EvP g dy sg N r) : EvP g dy sg N (pNeg r) := by
  intro ok st rest sum hl
  have ok : r.1 = true := ok
  show evS g dy sg ((r.2.2.1 ++ (if r.1 then [-1] else [])) ++ rest) st sum = evS g dy sg rest ((!(r.2.2.2 g sg dy)) :: st) sum
  rw [ok, if_pos rfl, List.append_assoc, h ok st _ sum hl]
  show evS g dy sg (-1 :: rest) (r.2.2.2 g sg dy :: st) sum = _
  rw [evS.eq_def]
  dsimp only
  rw [if_neg (by decide), if_pos rfl]
theorem ev_pClose {tp : Int → Int} {e g dy sg : Int} {N : Nat} {r : jPR} (h : EvP g dy sg N r) : EvP g dy sg N (pClose tp e r) := by
  intro ok st rest sum hl
  unfold pClose at ok ⊢
  by_cases c : r.1 = true ∧ nxt tp e r.2.1 = 41
  · rw [if_pos c] at ok ⊢
    exact h c.1 st rest sum hl
  · rw [if_neg c] at ok; cases ok
theorem ev_pG {tp : Int → Int} {e g dy sg : Int} : ∀ {d k : Nat} {p o : Int}, 0 ≤ o → o ≤ 5 → EvP g dy sg ((2 - k) + 2 * (5 - o.toNat)) (pG tp e d k p o)
  | 0, _, p, _, _, _ => fun ok => by cases ok
  | d + 1, 0, p, o, h0, h1 => by
    have z := ev_pL (tp := tp) (e := e) (g := g) (dy := dy) (sg := sg) (N := 1 + 2 * (5 - o.toNat)) (c := 124) (stp := -3) (op := or) (f := fun q => pG tp e d 1 q o) (n := 100) (fun a b st rest sum => (evS_bin (s := -3) (by decide) (by decide) (by decide)).trans (by rw [if_neg (by decide)])) (fun q => (ev_pG (d := d) (k := 1) h0 h1).more (by omega)) (r := pG tp e d 1 p o) ((ev_pG (d := d) (k := 1) h0 h1).more (by omega))
    exact z.more (by omega)
  | d + 1, 1, p, o, h0, h1 => by
    have z := ev_pL (tp := tp) (e := e) (g := g) (dy := dy) (sg := sg) (N := 2 * (5 - o.toNat)) (c := 38) (stp := -2) (op := and) (f := fun q => pG tp e d 2 q o) (n := 100) (fun a b st rest sum => (evS_bin (s := -2) (by decide) (by decide) (by decide)).trans (by rw [if_pos rfl])) (fun q => (ev_pG (d := d) (k := 2) h0 h1).more (by omega)) (r := pG tp e d 2 p o) ((ev_pG (d := d) (k := 2) h0 h1).more (by omega))
    exact z.more (by omega)
  | d + 1, k + 2, p, o, h0, h1 => by
    show EvP g dy sg ((2 - (k + 2)) + 2 * (5 - o.toNat)) (if nxt tp e p = 33 ∨ nxt tp e p = 40 then (if 5 ≤ o then (false, p, [], fun _ _ _ => false) else if nxt tp e p = 33 then pNeg (pG tp e d 2 (p + 1) (o + 1)) else pClose tp e (pG tp e d 0 (p + 1) (o + 1))) else pTest tp e p)
    split
    · split
      · exact fun ok => by cases ok
      · split
        · exact (ev_pNeg (ev_pG (d := d) (k := 2) (p := p + 1) (o := o + 1) (by omega) (by omega))).more (by omega)
        · exact (ev_pClose (ev_pG (d := d) (k := 0) (p := p + 1) (o := o + 1) (by omega) (by omega))).more (by omega)
    · exact ev_test.more (by omega)
