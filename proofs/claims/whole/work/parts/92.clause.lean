/-! clauses -/
abbrev jCL : Type := Bool × Int × Int × Int × List Int × jTV
abbrev jDR : Type := Int × Int × Int × Int × (Int → Int) × (Int → jTV)
def pE0 (tp : Int → Int) (e : Int) (s : Bool × Int) : jPR := if s.1 = true then pG tp e 40 0 s.2 0 else (false, s.2, [], fun _ _ _ => false)
def pHv (tp : Int → Int) (e p : Int) : Bool × Int × Int := numS tp e (wS tp e 0 (true, p) 6)
def pHs (tp : Int → Int) (e p : Int) : Bool × Int := takeS tp e ((pHv tp e p).1, (pHv tp e p).2.1) 32
def pClause (tp : Int → Int) (e p : Int) : jCL :=
  if nxt tp e p = 104 then ((pE0 tp e (pHs tp e p)).1, (pE0 tp e (pHs tp e p)).2.1, 0, (pHv tp e p).2.2, (pE0 tp e (pHs tp e p)).2.2.1 ++ (if (pE0 tp e (pHs tp e p)).1 = true then [-10 - (pHv tp e p).2.2] else []), (pE0 tp e (pHs tp e p)).2.2.2)
  else if nxt tp e p = 115 then ((numS tp e (wS tp e 1 (true, p) 6)).1, (numS tp e (wS tp e 1 (true, p) 6)).2.1, 1, (numS tp e (wS tp e 1 (true, p) 6)).2.2, [], fun _ _ _ => false)
  else if nxt tp e p = 102 then ((numS tp e (wS tp e 2 (true, p) 4)).1, (numS tp e (wS tp e 2 (true, p) 4)).2.1, 2, (numS tp e (wS tp e 2 (true, p) 4)).2.2, [], fun _ _ _ => false)
  else ((numS tp e (wS tp e 3 (true, p) 6)).1, (numS tp e (wS tp e 3 (true, p) 6)).2.1, 3, (numS tp e (wS tp e 3 (true, p) 6)).2.2, [], fun _ _ _ => false)
def dUp (D : jDR) (c : jCL) : jDR :=
  if c.2.2.1 = 0 then (D.1, D.2.1, D.2.2.1, D.2.2.2.1 + 1, fun i => if i = D.2.2.2.1 then c.2.2.2.1 else D.2.2.2.2.1 i, fun i => if i = D.2.2.2.1 then c.2.2.2.2.2 else D.2.2.2.2.2 i)
  else if c.2.2.1 = 1 then (c.2.2.2.1, D.2.1, D.2.2.1, D.2.2.2)
  else if c.2.2.1 = 2 then (D.1, c.2.2.2.1, D.2.2.1, D.2.2.2)
  else (D.1, D.2.1, c.2.2.2.1, D.2.2.2)
theorem wS_b' {tp : Int → Int} {e txt p : Int} {k : Nat} (t0 : 0 ≤ txt) (t1 : txt < 6) (h : p ≤ e) (hk : k ≤ 6) : p ≤ (wS tp e txt (true, p) k).2 ∧ (wS tp e txt (true, p) k).2 ≤ e := wS_b t0 t1 h hk
theorem pHv_b {tp : Int → Int} {e p : Int} (h : p ≤ e) : p ≤ (pHv tp e p).2.1 ∧ (pHv tp e p).2.1 ≤ e ∧ ((pHv tp e p).1 = true → 0 ≤ (pHv tp e p).2.2 ∧ (pHv tp e p).2.2 ≤ 99) := by
  have a := wS_b' (tp := tp) (e := e) (txt := 0) (p := p) (k := 6) (by decide) (by decide) h (by decide)
  have b := numS_b (tp := tp) (e := e) (s := wS tp e 0 (true, p) 6) a.2
  unfold pHv
  exact ⟨by omega, b.2.1, b.2.2⟩
theorem pHs_b {tp : Int → Int} {e p : Int} (h : p ≤ e) : p ≤ (pHs tp e p).2 ∧ (pHs tp e p).2 ≤ e := by
  have a := pHv_b (tp := tp) h
  have b := takeS_b (tp := tp) (e := e) (s := ((pHv tp e p).1, (pHv tp e p).2.1)) (c := 32) (by decide) a.2.1
  unfold pHs
  exact ⟨by have := b.1; dsimp only at this; omega, b.2⟩
theorem pE0_b {tp : Int → Int} {e : Int} {s : Bool × Int} (h : s.2 ≤ e) : PB e s.2 (pE0 tp e s) := by
  unfold pE0
  split
  · exact pG_b h
  · exact ⟨Int.le_refl _, h, by show ((0 : Nat) : Int) ≤ s.2 - s.2; omega⟩
/-- a clause that stands moves on by more than its steps -/
theorem pHs_far {tp : Int → Int} {e p : Int} (h : p ≤ e) (ok : (pHs tp e p).1 = true) : p + 1 ≤ (pHs tp e p).2 := by
  have a := pHv_b (tp := tp) h
  unfold pHs takeS at ok ⊢
  split
  · show p + 1 ≤ (pHv tp e p).2.1 + 1
    omega
  · rename_i q
    rw [if_neg q] at ok
    cases ok
theorem pClause_b {tp : Int → Int} {e p : Int} (h : p ≤ e) : p ≤ (pClause tp e p).2.1 ∧ (pClause tp e p).2.1 ≤ e ∧ ((pClause tp e p).2.2.2.2.1.length : Int) ≤ (pClause tp e p).2.1 - p ∧ ((pClause tp e p).1 = true → 0 ≤ (pClause tp e p).2.2.2.1 ∧ (pClause tp e p).2.2.2.1 ≤ 99) := by
  have other : ∀ txt k, 0 ≤ txt → txt < 6 → k ≤ 6 → p ≤ (numS tp e (wS tp e txt (true, p) k)).2.1 ∧ (numS tp e (wS tp e txt (true, p) k)).2.1 ≤ e ∧ ((numS tp e (wS tp e txt (true, p) k)).1 = true → 0 ≤ (numS tp e (wS tp e txt (true, p) k)).2.2 ∧ (numS tp e (wS tp e txt (true, p) k)).2.2 ≤ 99) := by
    intro txt k t0 t1 hk
    have a := wS_b' (tp := tp) (e := e) (p := p) t0 t1 h hk
    have b := numS_b (tp := tp) (e := e) (s := wS tp e txt (true, p) k) a.2
    exact ⟨by omega, b.2.1, b.2.2⟩
  unfold pClause
  split
  · have a := pHv_b (tp := tp) h
    have b := pHs_b (tp := tp) h
    have c := pE0_b (tp := tp) (e := e) (s := pHs tp e p) b.2
    obtain ⟨c1, c2, c3⟩ := c
    refine ⟨by show p ≤ (pE0 tp e (pHs tp e p)).2.1; omega, c2, ?_, fun ok => ?_⟩
    · show (((pE0 tp e (pHs tp e p)).2.2.1 ++ (if (pE0 tp e (pHs tp e p)).1 = true then [-10 - (pHv tp e p).2.2] else [])).length : Int) ≤ (pE0 tp e (pHs tp e p)).2.1 - p
      rw [List.length_append]
      by_cases ok : (pE0 tp e (pHs tp e p)).1 = true
      · have ok2 : (pHs tp e p).1 = true := by
          unfold pE0 at ok
          by_cases q : (pHs tp e p).1 = true
          · exact q
          · rw [if_neg q] at ok; cases ok
        have := pHs_far (tp := tp) h ok2
        rw [if_pos ok]
        show (((pE0 tp e (pHs tp e p)).2.2.1.length + 1 : Nat) : Int) ≤ _
        omega
      · rw [if_neg ok]
        show (((pE0 tp e (pHs tp e p)).2.2.1.length + 0 : Nat) : Int) ≤ _
        omega
    · have ok : (pE0 tp e (pHs tp e p)).1 = true := ok
      have ok2 : (pHs tp e p).1 = true := by
        unfold pE0 at ok
        by_cases q : (pHs tp e p).1 = true
        · exact q
        · rw [if_neg q] at ok; cases ok
      have ok3 : (pHv tp e p).1 = true := by
        unfold pHs takeS at ok2
        by_cases q : ((pHv tp e p).1, (pHv tp e p).2.1).1 = true ∧ nxt tp e ((pHv tp e p).1, (pHv tp e p).2.1).2 = 32
        · exact q.1
        · rw [if_neg q] at ok2; cases ok2
      exact a.2.2 ok3
  · split
    · have o := other 1 6 (by decide) (by decide) (by decide)
      exact ⟨o.1, o.2.1, by show ((0 : Nat) : Int) ≤ (numS tp e (wS tp e 1 (true, p) 6)).2.1 - p; omega, o.2.2⟩
    · split
      · have o := other 2 4 (by decide) (by decide) (by decide)
        exact ⟨o.1, o.2.1, by show ((0 : Nat) : Int) ≤ (numS tp e (wS tp e 2 (true, p) 4)).2.1 - p; omega, o.2.2⟩
      · have o := other 3 6 (by decide) (by decide) (by decide)
        exact ⟨o.1, o.2.1, by show ((0 : Nat) : Int) ≤ (numS tp e (wS tp e 3 (true, p) 6)).2.1 - p; omega, o.2.2⟩
/-- the class's draft -/
def CD (M0 M : jM) (p : Int) (D : jDR) : Prop := (∀ a b, a ≠ 43 → a ≠ 44 → a ≠ 45 → ¬ (a = 46 ∧ (b = 2 ∨ b = 3)) → M a b = M0 a b) ∧ M 46 2 = p ∧ M 46 3 = 0 ∧ M 43 0 = (if D.1 ≤ 2 then 2 else 3) ∧ M 43 1 = D.2.1 ∧ M 43 2 = D.2.2.1 ∧ M 43 3 = D.2.2.2.1 ∧ 0 ≤ D.2.2.2.1 ∧ ∀ i, 0 ≤ i → i < D.2.2.2.1 → M 44 i = D.2.2.2.2.1 i ∧ MaskOf (M 45 i) (D.2.2.2.2.2 i)
def CF (M0 M : jM) (p : Int) : Prop := (∀ a b, a ≠ 43 → a ≠ 44 → a ≠ 45 → ¬ (a = 46 ∧ (b = 2 ∨ b = 3)) → M a b = M0 a b) ∧ M 46 2 = p ∧ M 46 3 = 1
theorem CR.self {M : jM} {p : Int} (h2 : M 46 2 = p) (h3 : M 46 3 = 0) : CR M M true p := ⟨fun _ _ _ => rfl, h2, by rw [h3]; rfl⟩
theorem RB.fr {M0 M : jM} {tp : Int → Int} {e : Int} (h : RB M0 tp e) (e1 : M 46 0 = M0 46 0) (e2 : M 46 1 = M0 46 1) (e3 : ∀ i, M 2 i = M0 2 i) : RB M tp e := ⟨by rw [e1]; exact h.1, by rw [e2]; exact h.2.1, h.2.2.1, h.2.2.2.1, fun i i0 i1 => by rw [e3]; exact h.2.2.2.2 i i0 i1⟩
theorem jp_43_4 : jpt 43 4 = 44 := rfl
theorem jp_43_5 : jpt 43 5 = 45 := rfl
theorem kd_43 : jkd 43 = (7, 0) := rfl
theorem c_clause {M0 M : jM} {tp : Int → Int} {e p : Int} {D : jDR} (hb : RB M0 tp e) (h4 : M0 46 4 = 43) (h : CD M0 M p D) (p0 : 0 ≤ p) (p1 : p ≤ e) (hk : D.2.2.2.1 ≤ 9) : Ret (f_X5_readClause M 46) (fun M' => ((pClause tp e p).1 = true → CD M0 M' (pClause tp e p).2.1 (dUp D (pClause tp e p))) ∧ ((pClause tp e p).1 = false → CF M0 M' (pClause tp e p).2.1)) := by
  obtain ⟨hf, h2, h3, hd0, hd1, hd2, hd3, hd4, hd5⟩ := h
  have hbM : RB M tp e := hb.fr (hf _ _ (by decide) (by decide) (by decide) (by omega)) (hf _ _ (by decide) (by decide) (by decide) (by omega)) (fun i => hf _ _ (by decide) (by decide) (by decide) (by omega))
  have h4M : M 46 4 = 43 := by rw [hf _ _ (by decide) (by decide) (by decide) (by omega)]; exact h4
  have hc := CR.self h2 h3
  have hr := hbM.rng p0
  have t0 : jtxL 0 = 6 := rfl
  have t1 : jtxL 1 = 6 := rfl
  have t2 : jtxL 2 = 4 := rfl
  have t3 : jtxL 3 = 6 := rfl
  -- a number into the draft
  have put : ∀ (txt f n : Int) (k : Nat) (M' : jM), (f = 0 ∨ f = 1 ∨ f = 2) → CR M M' (numS tp e (wS tp e txt (true, p) k)).1 (numS tp e (wS tp e txt (true, p) k)).2.1 → (∀ v, (numS tp e (wS tp e txt (true, p) k)).1 = true → (f = 0 → v = if (numS tp e (wS tp e txt (true, p) k)).2.2 ≤ 2 then 2 else 3) → (f = 1 → v = (numS tp e (wS tp e txt (true, p) k)).2.2) → (f = 2 → v = (numS tp e (wS tp e txt (true, p) k)).2.2) → CD M0 (sto M' 43 f v) (numS tp e (wS tp e txt (true, p) k)).2.1 (if f = 0 then ((numS tp e (wS tp e txt (true, p) k)).2.2, D.2.1, D.2.2.1, D.2.2.2) else if f = 1 then (D.1, (numS tp e (wS tp e txt (true, p) k)).2.2, D.2.2.1, D.2.2.2) else (D.1, D.2.1, (numS tp e (wS tp e txt (true, p) k)).2.2, D.2.2.2))) ∧ (∀ v, (numS tp e (wS tp e txt (true, p) k)).1 = false → CF M0 (sto M' 43 f v) (numS tp e (wS tp e txt (true, p) k)).2.1) := by
    intro txt f n k M' hff hcr
    obtain ⟨g1, g2, g3⟩ := hcr
    refine ⟨fun v ok v0 v1 v2 => ?_, fun v ok => ⟨fun a b q1 q2 q3 q4 => by rw [sto_ne (by omega), g1 a b q4]; exact hf a b q1 q2 q3 q4, by rw [sto_ne (by omega)]; exact g2, by rw [sto_ne (by omega), g3, ok]; rfl⟩⟩
    refine ⟨fun a b q1 q2 q3 q4 => by rw [sto_ne (by omega), g1 a b q4]; exact hf a b q1 q2 q3 q4, by rw [sto_ne (by omega)]; exact g2, by rw [sto_ne (by omega), g3, ok]; rfl, ?_⟩
    rcases hff with rfl | rfl | rfl
    · rw [if_pos rfl]
      exact ⟨by rw [sto_eq rfl rfl]; exact v0 rfl, by rw [sto_ne (by omega), g1 _ _ (by omega)]; exact hd1, by rw [sto_ne (by omega), g1 _ _ (by omega)]; exact hd2, by rw [sto_ne (by omega), g1 _ _ (by omega)]; exact hd3, hd4, fun i i0 i1 => by rw [sto_ne (by omega), sto_ne (by omega), g1 _ _ (by omega), g1 _ _ (by omega)]; exact hd5 i i0 i1⟩
    · rw [if_neg (show ¬ (1 : Int) = 0 by decide), if_pos (show (1 : Int) = 1 from rfl)]
      exact ⟨by rw [sto_ne (by omega), g1 _ _ (by omega)]; exact hd0, by rw [sto_eq rfl rfl]; exact v1 rfl, by rw [sto_ne (by omega), g1 _ _ (by omega)]; exact hd2, by rw [sto_ne (by omega), g1 _ _ (by omega)]; exact hd3, hd4, fun i i0 i1 => by rw [sto_ne (by omega), sto_ne (by omega), g1 _ _ (by omega), g1 _ _ (by omega)]; exact hd5 i i0 i1⟩
    · rw [if_neg (show ¬ (2 : Int) = 0 by decide), if_neg (show ¬ (2 : Int) = 1 by decide)]
      exact ⟨by rw [sto_ne (by omega), g1 _ _ (by omega)]; exact hd0, by rw [sto_ne (by omega), g1 _ _ (by omega)]; exact hd1, by rw [sto_eq rfl rfl]; exact v2 rfl, by rw [sto_ne (by omega), g1 _ _ (by omega)]; exact hd3, hd4, fun i i0 i1 => by rw [sto_ne (by omega), sto_ne (by omega), g1 _ _ (by omega), g1 _ _ (by omega)]; exact hd5 i i0 i1⟩
  unfold f_X5_readClause f_X5_readClause_73
  rw [c_next hbM hc p0 p1]
  refine Ret.b ⟨_, rfl, ?_⟩
  dsimp only
  rw [w32_id (x := nxt tp e p) (by omega) (by omega)]
  unfold pClause
  refine Ret.i (fun c => ?_) (fun c => Ret.i (fun c2 => ?_) (fun c2 => Ret.i (fun c3 => ?_) (fun c3 => ?_)))
  · -- heavy
    rw [if_pos c]
    have bv := pHv_b (tp := tp) p1
    have bs := pHs_b (tp := tp) p1
    refine Ret.bb (c_word (s := (true, p)) (txt := 0) hbM hc p0 p1 (by decide) (by decide)) (fun M1 h1 => ?_)
    rw [t0] at h1
    have a := wS_b' (tp := tp) (e := e) (txt := 0) (p := p) (k := 6) (by decide) (by decide) p1 (by decide)
    refine Ret.bb (c_num hbM h1 (by show 0 ≤ (wS tp e 0 (true, p) 6).2; omega) a.2) (fun r ⟨n1, n2, n3, n4⟩ => ?_)
    have n1 : CR M r.2 (pHv tp e p).1 (pHv tp e p).2.1 := n1
    have n2 : (pHv tp e p).1 = true → r.1 = (pHv tp e p).2.2 := n2
    refine Ret.bb (c_take (s := ((pHv tp e p).1, (pHv tp e p).2.1)) (c := 32) hbM n1 (by show 0 ≤ (pHv tp e p).2.1; omega) bv.2.1 (by decide) (by decide)) (fun M3 h3' => ?_)
    have h3' : CR M M3 (pHs tp e p).1 (pHs tp e p).2 := h3'
    have e4 : M3 46 4 = 43 := by rw [h3'.1 _ _ (by omega)]; exact h4M
    rw [e4]
    refine Ret.g kd_43 ?_
    have eE : Ret (ft_X5_readE M3 46 0) (fun r => CP M r (pE0 tp e (pHs tp e p))) := by
      unfold pE0
      by_cases q : (pHs tp e p).1 = true
      · rw [if_pos q]
        rw [q] at h3'
        exact c_pG hbM (d := 40) (k := 0) (by decide) (Int.le_refl 0) (by decide) (by decide) (by omega) bs.2 h3'
      · have q2 : (pHs tp e p).1 = false := by simpa using q
        rw [if_neg q]
        rw [q2] at h3'
        exact Ret.m (c_stuck hbM (d := 40) (k := 0) (by decide) (by decide) (by omega) bs.2 h3') (fun r hr => ⟨hr, fun z => by cases z⟩)
    refine Ret.bb eE (fun r2 ⟨m1, m2⟩ => ?_)
    unfold f_X7_addHeavy
    have ek : r2.2 43 3 = D.2.2.2.1 := by rw [m1.1 _ _ (by omega)]; exact hd3
    rw [ek, w32_id (x := D.2.2.2.1) (by omega) (by omega), jp_43_4, jp_43_5]
    refine Ret.b (Ret.f (by omega) (Ret.g ⟨hd4, by omega⟩ (Ret.l ?_)))
    have ek2 : sto r2.2 44 D.2.2.2.1 r.1 43 3 = D.2.2.2.1 := by rw [sto_ne (by omega)]; exact ek
    rw [ek2, w32_id (x := D.2.2.2.1) (by omega) (by omega)]
    refine Ret.g ⟨hd4, by omega⟩ (Ret.l ?_)
    have ek3 : sto (sto r2.2 44 D.2.2.2.1 r.1) 45 D.2.2.2.1 r2.1 43 3 = D.2.2.2.1 := by rw [sto_ne (by omega)]; exact ek2
    rw [ek3]
    refine Ret.l (Ret.s (Ret.s ⟨fun ok => ?_, fun ok => ?_⟩))
    · have ok : (pE0 tp e (pHs tp e p)).1 = true := ok
      have ok2 : (pHs tp e p).1 = true := by
        unfold pE0 at ok
        by_cases q : (pHs tp e p).1 = true
        · exact q
        · rw [if_neg q] at ok; cases ok
      have ok3 : (pHv tp e p).1 = true := by
        unfold pHs takeS at ok2
        by_cases q : ((pHv tp e p).1, (pHv tp e p).2.1).1 = true ∧ nxt tp e ((pHv tp e p).1, (pHv tp e p).2.1).2 = 32
        · exact q.1
        · rw [if_neg q] at ok2; cases ok2
      unfold dUp
      rw [if_pos rfl]
      refine ⟨fun a b q1 q2 q3 q4 => by rw [sto_ne (by omega), sto_ne (by omega), sto_ne (by omega), m1.1 a b q4]; exact hf a b q1 q2 q3 q4, by rw [sto_ne (by omega), sto_ne (by omega), sto_ne (by omega)]; exact m1.2.1, by rw [sto_ne (by omega), sto_ne (by omega), sto_ne (by omega), m1.2.2, ok]; rfl, by rw [sto_ne (by omega), sto_ne (by omega), sto_ne (by omega), m1.1 _ _ (by omega)]; exact hd0, by rw [sto_ne (by omega), sto_ne (by omega), sto_ne (by omega), m1.1 _ _ (by omega)]; exact hd1, by rw [sto_ne (by omega), sto_ne (by omega), sto_ne (by omega), m1.1 _ _ (by omega)]; exact hd2, by rw [sto_eq rfl rfl], by show 0 ≤ D.2.2.2.1 + 1; omega, fun i i0 i1 => ?_⟩
      have i1 : i < D.2.2.2.1 + 1 := i1
      dsimp only
      by_cases q : i = D.2.2.2.1
      · rw [if_pos q, if_pos q, q, sto_ne (by omega), sto_ne (by omega), sto_eq rfl rfl, sto_ne (by omega), sto_eq rfl rfl]
        exact ⟨n2 ok3, m2 ok⟩
      · rw [if_neg q, if_neg q, sto_ne (by omega), sto_ne (by omega), sto_ne (by omega), sto_ne (by omega), sto_ne (by omega), sto_ne (by omega), m1.1 _ _ (by omega), m1.1 _ _ (by omega)]
        exact hd5 i i0 (by omega)
    · have ok : (pE0 tp e (pHs tp e p)).1 = false := ok
      exact ⟨fun a b q1 q2 q3 q4 => by rw [sto_ne (by omega), sto_ne (by omega), sto_ne (by omega), m1.1 a b q4]; exact hf a b q1 q2 q3 q4, by rw [sto_ne (by omega), sto_ne (by omega), sto_ne (by omega)]; exact m1.2.1, by rw [sto_ne (by omega), sto_ne (by omega), sto_ne (by omega), m1.2.2, ok]; rfl⟩
  · -- signs
    rw [if_neg c, if_pos c2]
    refine Ret.bb (c_word (s := (true, p)) (txt := 1) hbM hc p0 p1 (by decide) (by decide)) (fun M1 h1 => ?_)
    rw [t1] at h1
    have a := wS_b' (tp := tp) (e := e) (txt := 1) (p := p) (k := 6) (by decide) (by decide) p1 (by decide)
    have e4 : M1 46 4 = 43 := by rw [h1.1 _ _ (by omega)]; exact h4M
    rw [e4]
    refine Ret.g kd_43 (Ret.bb (c_num hbM h1 (by show 0 ≤ (wS tp e 1 (true, p) 6).2; omega) a.2) (fun r ⟨n1, n2, n3, n4⟩ => ?_))
    obtain ⟨pt, pf⟩ := put 1 0 0 6 r.2 (Or.inl rfl) n1
    rw [if_pos rfl] at pt
    rw [w32_id (x := r.1) (by omega) (by omega)]
    refine Ret.i (fun cc => Ret.l (Ret.s ⟨fun ok => ?_, fun ok => pf _ ok⟩)) (fun cc => Ret.l (Ret.s ⟨fun ok => ?_, fun ok => pf _ ok⟩))
    · have : r.1 = (numS tp e (wS tp e 1 (true, p) 6)).2.2 := n2 ok
      exact pt _ ok (fun _ => by rw [← this, if_pos cc]) (by omega) (by omega)
    · have : r.1 = (numS tp e (wS tp e 1 (true, p) 6)).2.2 := n2 ok
      exact pt _ ok (fun _ => by rw [← this, if_neg cc]) (by omega) (by omega)
  · -- fee
    rw [if_neg c, if_neg c2, if_pos c3]
    refine Ret.bb (c_word (s := (true, p)) (txt := 2) hbM hc p0 p1 (by decide) (by decide)) (fun M1 h1 => ?_)
    rw [t2] at h1
    have a := wS_b' (tp := tp) (e := e) (txt := 2) (p := p) (k := 4) (by decide) (by decide) p1 (by decide)
    have e4 : M1 46 4 = 43 := by rw [h1.1 _ _ (by omega)]; exact h4M
    rw [e4]
    refine Ret.g kd_43 (Ret.bb (c_num hbM h1 (by show 0 ≤ (wS tp e 2 (true, p) 4).2; omega) a.2) (fun r ⟨n1, n2, n3, n4⟩ => ?_))
    obtain ⟨pt, pf⟩ := put 2 1 0 4 r.2 (Or.inr (Or.inl rfl)) n1
    rw [if_neg (show ¬ (1 : Int) = 0 by decide), if_pos (show (1 : Int) = 1 from rfl)] at pt
    exact Ret.l (Ret.s ⟨fun ok => pt _ ok (by omega) (fun _ => n2 ok) (by omega), fun ok => pf _ ok⟩)
  · -- prize
    rw [if_neg c, if_neg c2, if_neg c3]
    refine Ret.bb (c_word (s := (true, p)) (txt := 3) hbM hc p0 p1 (by decide) (by decide)) (fun M1 h1 => ?_)
    rw [t3] at h1
    have a := wS_b' (tp := tp) (e := e) (txt := 3) (p := p) (k := 6) (by decide) (by decide) p1 (by decide)
    have e4 : M1 46 4 = 43 := by rw [h1.1 _ _ (by omega)]; exact h4M
    rw [e4]
    refine Ret.g kd_43 (Ret.bb (c_num hbM h1 (by show 0 ≤ (wS tp e 3 (true, p) 6).2; omega) a.2) (fun r ⟨n1, n2, n3, n4⟩ => ?_))
    obtain ⟨pt, pf⟩ := put 3 2 0 6 r.2 (Or.inr (Or.inr rfl)) n1
    rw [if_neg (show ¬ (2 : Int) = 0 by decide), if_neg (show ¬ (2 : Int) = 1 by decide)] at pt
    exact Ret.l (Ret.s ⟨fun ok => pt _ ok (by omega) (by omega) (fun _ => n2 ok), fun ok => pf _ ok⟩)
