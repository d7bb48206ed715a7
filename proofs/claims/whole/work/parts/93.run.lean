/-! all clauses of a text -/
def pRun (tp : Int → Int) (e : Int) : Nat → Int → jDR → List Int → Bool × Int × jDR × List Int
  | 0, p, D, l => (false, p, D, l)
  | n + 1, p, D, l =>
    if (pClause tp e p).1 = true then
      (if (pClause tp e p).2.1 = e then (true, e, dUp D (pClause tp e p), l ++ (pClause tp e p).2.2.2.2.1)
      else if n = 0 ∨ nxt tp e (pClause tp e p).2.1 ≠ 59 then (false, (pClause tp e p).2.1, dUp D (pClause tp e p), l ++ (pClause tp e p).2.2.2.2.1)
      else pRun tp e n ((pClause tp e p).2.1 + 1) (dUp D (pClause tp e p)) (l ++ (pClause tp e p).2.2.2.2.1))
    else (false, (pClause tp e p).2.1, D, l)
theorem pRun_s {tp : Int → Int} {e : Int} {n : Nat} {p : Int} {D : jDR} {l : List Int} : pRun tp e (n + 1) p D l = (if (pClause tp e p).1 = true then
      (if (pClause tp e p).2.1 = e then (true, e, dUp D (pClause tp e p), l ++ (pClause tp e p).2.2.2.2.1)
      else if n = 0 ∨ nxt tp e (pClause tp e p).2.1 ≠ 59 then (false, (pClause tp e p).2.1, dUp D (pClause tp e p), l ++ (pClause tp e p).2.2.2.2.1)
      else pRun tp e n ((pClause tp e p).2.1 + 1) (dUp D (pClause tp e p)) (l ++ (pClause tp e p).2.2.2.2.1))
    else (false, (pClause tp e p).2.1, D, l)) := rfl
/-! the steps are small numbers -/
def Rg (l : List Int) : Prop := ∀ x, x ∈ l → -200 ≤ x ∧ x ≤ 4000
theorem Rg.app {l l' : List Int} (h : Rg l) (h' : Rg l') : Rg (l ++ l') := fun x hx => by
  rcases List.mem_append.mp hx with q | q
  · exact h x q
  · exact h' x q
theorem Rg.nil : Rg [] := fun x hx => by cases hx
theorem Rg.one {x : Int} (h0 : -200 ≤ x) (h1 : x ≤ 4000) : Rg [x] := fun y hy => by
  have : y = x := by simpa using hy
  omega
theorem Rg.ifo {b : Bool} {x : Int} (h0 : -200 ≤ x) (h1 : x ≤ 4000) : Rg (if b = true then [x] else []) := by
  split
  · exact Rg.one h0 h1
  · exact Rg.nil
theorem rg_test {tp : Int → Int} {e p : Int} : Rg (pTest tp e p).2.2.1 := by
  unfold pTest
  split
  · split
    · rename_i c2
      have h2 := nxt_lt (tp := tp) (e := e) (p := p + 1) (by omega)
      split
      · rename_i c3
        obtain ⟨-, -, b3⟩ := pNum_b (tp := tp) (e := e) (p := p + 2) (by omega)
        obtain ⟨-, b4, b5⟩ := b3 c3
        have hw : 0 ≤ letN (nxt tp e p) ∧ letN (nxt tp e p) ≤ 2 := by
          unfold letN; split
          · decide
          · split <;> decide
        exact Rg.one (by omega) (by omega)
      · exact Rg.nil
    · exact Rg.nil
  · exact Rg.nil
theorem rg_pL {tp : Int → Int} {e : Int} {f : Int → jPR} {c stp : Int} {op : Bool → Bool → Bool} (hs : -200 ≤ stp ∧ stp ≤ 4000) (hf : ∀ q, Rg (f q).2.2.1) : ∀ {n : Nat} {r : jPR}, Rg r.2.2.1 → Rg (pL tp e f c stp op n r).2.2.1
  | 0, _, h => h
  | n + 1, r, h => by
    unfold pL
    split
    · exact rg_pL hs hf (h.app ((hf _).app (Rg.ifo hs.1 hs.2)))
    · exact h
theorem rg_pG {tp : Int → Int} {e : Int} : ∀ {d k : Nat} {p o : Int}, Rg (pG tp e d k p o).2.2.1
  | 0, _, _, _ => Rg.nil
  | d + 1, 0, p, o => rg_pL (by decide) (fun q => rg_pG) rg_pG
  | d + 1, 1, p, o => rg_pL (by decide) (fun q => rg_pG) rg_pG
  | d + 1, k + 2, p, o => by
    show Rg (if nxt tp e p = 33 ∨ nxt tp e p = 40 then (if 5 ≤ o then (false, p, [], fun _ _ _ => false) else if nxt tp e p = 33 then pNeg (pG tp e d 2 (p + 1) (o + 1)) else pClose tp e (pG tp e d 0 (p + 1) (o + 1))) else pTest tp e p : jPR).2.2.1
    split
    · split
      · exact Rg.nil
      · split
        · exact rg_pG.app (Rg.ifo (by decide) (by decide))
        · unfold pClose
          split
          · exact rg_pG
          · exact rg_pG
    · exact rg_test
theorem rg_clause {tp : Int → Int} {e p : Int} (h : p ≤ e) : Rg (pClause tp e p).2.2.2.2.1 := by
  unfold pClause
  split
  · have a := pHv_b (tp := tp) h
    show Rg ((pE0 tp e (pHs tp e p)).2.2.1 ++ (if (pE0 tp e (pHs tp e p)).1 = true then [-10 - (pHv tp e p).2.2] else []))
    refine Rg.app ?_ ?_
    · unfold pE0
      split
      · exact rg_pG
      · exact Rg.nil
    · by_cases ok : (pE0 tp e (pHs tp e p)).1 = true
      · rw [if_pos ok]
        have ok2 : (pHs tp e p).1 = true := by
          unfold pE0 at ok
          by_cases q : (pHs tp e p).1 = true
          · exact q
          · rw [if_neg q] at ok; cases ok
        have ok3 : (pHv tp e p).1 = true := by
          unfold pHs takeS at ok2
          by_cases q : ((pHv tp e p).1, (pHv tp e p).2.1).1 = true ∧ nxt tp e ((pHv tp e p).1, (pHv tp e p).2.1).2 = 32
          · exact q.1
          · rw [if_neg q] at ok2; cases ok2
        have := a.2.2 ok3
        exact Rg.one (by omega) (by omega)
      · rw [if_neg ok]; exact Rg.nil
  · split
    · exact Rg.nil
    · split
      · exact Rg.nil
      · exact Rg.nil
/-! what the steps of all clauses come to -/
def hS (ld : Int → Int) (tv : Int → jTV) (g sg dy : Int) : Nat → Int
  | 0 => 0
  | n + 1 => hS ld tv g sg dy n + (if tv n g sg dy = true then ld n else 0)
theorem hS_cong {ld ld' : Int → Int} {tv tv' : Int → jTV} {g sg dy : Int} : ∀ {n : Nat}, (∀ i : Int, 0 ≤ i → i < n → ld' i = ld i ∧ tv' i = tv i) → hS ld' tv' g sg dy n = hS ld tv g sg dy n
  | 0, _ => rfl
  | n + 1, h => by
    obtain ⟨h1, h2⟩ := h n (by omega) (by omega)
    show hS ld' tv' g sg dy n + _ = hS ld tv g sg dy n + _
    rw [hS_cong (fun i i0 i1 => h i i0 (by omega)), h1, h2]
def DOk (D : jDR) : Prop := 0 ≤ D.1 ∧ D.1 ≤ 99 ∧ 0 ≤ D.2.1 ∧ D.2.1 ≤ 99 ∧ 0 ≤ D.2.2.1 ∧ D.2.2.1 ≤ 99 ∧ 0 ≤ D.2.2.2.1 ∧ ∀ i, 0 ≤ i → i < D.2.2.2.1 → 0 ≤ D.2.2.2.2.1 i ∧ D.2.2.2.2.1 i ≤ 99
def EvD (D : jDR) (l : List Int) : Prop := ∀ g sg dy rest sum, evS g dy sg (l ++ rest) [] sum = evS g dy sg rest [] (sum + hS D.2.2.2.2.1 D.2.2.2.2.2 g sg dy D.2.2.2.1.toNat)
theorem dUp_ok {D : jDR} {c : jCL} (h : DOk D) (hc : 0 ≤ c.2.2.2.1 ∧ c.2.2.2.1 ≤ 99) : DOk (dUp D c) ∧ (dUp D c).2.2.2.1 ≤ D.2.2.2.1 + 1 := by
  obtain ⟨a1, a2, a3, a4, a5, a6, a7, a8⟩ := h
  unfold dUp
  split
  · refine ⟨⟨a1, a2, a3, a4, a5, a6, by show 0 ≤ D.2.2.2.1 + 1; omega, fun i i0 i1 => ?_⟩, Int.le_refl _⟩
    have i1 : i < D.2.2.2.1 + 1 := i1
    dsimp only
    by_cases q : i = D.2.2.2.1
    · rw [if_pos q]; exact hc
    · rw [if_neg q]; exact a8 i i0 (by omega)
  · split
    · exact ⟨⟨hc.1, hc.2, a3, a4, a5, a6, a7, a8⟩, by show D.2.2.2.1 ≤ D.2.2.2.1 + 1; omega⟩
    · split
      · exact ⟨⟨a1, a2, hc.1, hc.2, a5, a6, a7, a8⟩, by show D.2.2.2.1 ≤ D.2.2.2.1 + 1; omega⟩
      · exact ⟨⟨a1, a2, a3, a4, hc.1, hc.2, a7, a8⟩, by show D.2.2.2.1 ≤ D.2.2.2.1 + 1; omega⟩
theorem ev_clause {tp : Int → Int} {e p : Int} {D : jDR} {l : List Int} (h : p ≤ e) (hD : DOk D) (hE : EvD D l) (ok : (pClause tp e p).1 = true) : EvD (dUp D (pClause tp e p)) (l ++ (pClause tp e p).2.2.2.2.1) := by
  have hb := (pClause_b (tp := tp) h).2.2.2 ok
  have k0 := hD.2.2.2.2.2.2.1
  unfold pClause at ok hb ⊢
  by_cases c : nxt tp e p = 104
  · rw [if_pos c] at ok hb ⊢
    have ok : (pE0 tp e (pHs tp e p)).1 = true := ok
    have hb : 0 ≤ (pHv tp e p).2.2 ∧ (pHv tp e p).2.2 ≤ 99 := hb
    intro g sg dy rest sum
    unfold dUp
    rw [if_pos rfl]
    dsimp only
    rw [if_pos ok, List.append_assoc, hE, List.append_assoc]
    have ev : EvP g dy sg 12 (pE0 tp e (pHs tp e p)) := by
      unfold pE0
      split
      · exact (ev_pG (d := 40) (k := 0) (Int.le_refl 0) (by decide)).more (by decide)
      · exact fun z => by cases z
    rw [ev ok [] _ _ (by decide)]
    show evS g dy sg ((-10 - (pHv tp e p).2.2) :: rest) [(pE0 tp e (pHs tp e p)).2.2.2 g sg dy] _ = _
    rw [evS.eq_def]
    dsimp only
    rw [if_neg (show ¬ 0 ≤ -10 - (pHv tp e p).2.2 by omega), if_neg (show ¬ -10 - (pHv tp e p).2.2 = -1 by omega), if_neg (show ¬ -10 < -10 - (pHv tp e p).2.2 by omega)]
    have ek : (D.2.2.2.1 + 1).toNat = D.2.2.2.1.toNat + 1 := by omega
    have ek2 : ((D.2.2.2.1.toNat : Nat) : Int) = D.2.2.2.1 := Int.toNat_of_nonneg k0
    rw [ek]
    congr 1
    show _ = sum + (hS (fun i => if i = D.2.2.2.1 then (pHv tp e p).2.2 else D.2.2.2.2.1 i) (fun i => if i = D.2.2.2.1 then (pE0 tp e (pHs tp e p)).2.2.2 else D.2.2.2.2.2 i) g sg dy D.2.2.2.1.toNat + (if (if ((D.2.2.2.1.toNat : Nat) : Int) = D.2.2.2.1 then (pE0 tp e (pHs tp e p)).2.2.2 else D.2.2.2.2.2 ((D.2.2.2.1.toNat : Nat) : Int)) g sg dy = true then (if ((D.2.2.2.1.toNat : Nat) : Int) = D.2.2.2.1 then (pHv tp e p).2.2 else D.2.2.2.2.1 ((D.2.2.2.1.toNat : Nat) : Int)) else 0))
    have hz : hS (fun i => if i = D.2.2.2.1 then (pHv tp e p).2.2 else D.2.2.2.2.1 i) (fun i => if i = D.2.2.2.1 then (pE0 tp e (pHs tp e p)).2.2.2 else D.2.2.2.2.2 i) g sg dy D.2.2.2.1.toNat = hS D.2.2.2.2.1 D.2.2.2.2.2 g sg dy D.2.2.2.1.toNat := hS_cong (fun i i0 i1 => ⟨if_neg (by omega), if_neg (by omega)⟩)
    rw [hz, if_pos ek2, if_pos ek2]
    split <;> omega
  · rw [if_neg c] at ok hb ⊢
    have nil : ∀ (D' : jDR), D'.2.2.2 = D.2.2.2 → EvD D' (l ++ []) := fun D' hD' => by
      intro g sg dy rest sum
      rw [List.append_nil, hE, hD']
    by_cases c2 : nxt tp e p = 115
    · rw [if_pos c2]
      exact nil _ (by unfold dUp; rw [if_neg (show ¬ (1 : Int) = 0 by decide), if_pos (show (1 : Int) = 1 from rfl)])
    · rw [if_neg c2]
      by_cases c3 : nxt tp e p = 102
      · rw [if_pos c3]
        exact nil _ (by unfold dUp; rw [if_neg (show ¬ (2 : Int) = 0 by decide), if_neg (show ¬ (2 : Int) = 1 by decide), if_pos (show (2 : Int) = 2 from rfl)])
      · rw [if_neg c3]
        exact nil _ (by unfold dUp; rw [if_neg (show ¬ (3 : Int) = 0 by decide), if_neg (show ¬ (3 : Int) = 1 by decide), if_neg (show ¬ (3 : Int) = 2 by decide)])
theorem pRun_ok {tp : Int → Int} {e : Int} : ∀ {n : Nat} {p : Int} {D : jDR} {l : List Int}, p ≤ e → DOk D → EvD D l → Rg l → (l.length : Int) ≤ p → (pRun tp e n p D l).1 = true → (pRun tp e n p D l).2.1 = e ∧ DOk (pRun tp e n p D l).2.2.1 ∧ (pRun tp e n p D l).2.2.1.2.2.2.1 ≤ D.2.2.2.1 + n ∧ EvD (pRun tp e n p D l).2.2.1 (pRun tp e n p D l).2.2.2 ∧ Rg (pRun tp e n p D l).2.2.2 ∧ ((pRun tp e n p D l).2.2.2.length : Int) ≤ e
  | 0, p, D, l, _, _, _, _, _, ok => by cases ok
  | n + 1, p, D, l, h, hD, hE, hR, hl, ok => by
    obtain ⟨b1, b2, b3, b4⟩ := pClause_b (tp := tp) h
    rw [pRun_s] at ok ⊢
    by_cases c : (pClause tp e p).1 = true
    · rw [if_pos c] at ok ⊢
      have hu := dUp_ok hD (b4 c)
      have hE2 := ev_clause h hD hE c
      have hR2 := hR.app (rg_clause (tp := tp) h)
      have hl2 : ((l ++ (pClause tp e p).2.2.2.2.1).length : Int) ≤ (pClause tp e p).2.1 := by rw [List.length_append]; omega
      by_cases c2 : (pClause tp e p).2.1 = e
      · rw [if_pos c2]
        exact ⟨rfl, hu.1, by show (dUp D (pClause tp e p)).2.2.2.1 ≤ D.2.2.2.1 + ((n + 1 : Nat) : Int); omega, hE2, hR2, by show ((l ++ (pClause tp e p).2.2.2.2.1).length : Int) ≤ e; omega⟩
      · rw [if_neg c2] at ok ⊢
        by_cases c3 : n = 0 ∨ nxt tp e (pClause tp e p).2.1 ≠ 59
        · rw [if_pos c3] at ok; cases ok
        · rw [if_neg c3] at ok ⊢
          have h59 : nxt tp e (pClause tp e p).2.1 = 59 := Classical.byContradiction fun z => c3 (Or.inr z)
          have hlt := nxt_lt (tp := tp) (e := e) (p := (pClause tp e p).2.1) (by omega)
          obtain ⟨r1, r2, r3, r4, r5, r6⟩ := pRun_ok (n := n) (p := (pClause tp e p).2.1 + 1) (by omega) hu.1 hE2 hR2 (by omega) ok
          exact ⟨r1, r2, by omega, r4, r5, r6⟩
    · rw [if_neg c] at ok; cases ok
