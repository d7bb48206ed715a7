/-! the reference reads a whole stall -/
def QD (M0 M : jM) (act p : Int) (D : jDR) (l : List Int) : Prop := (∀ a b, ¬ (a = 62 ∧ (b = 5 ∨ b = 7 ∨ b = 8)) → ¬ (a = 63 ∧ (b = 232 + act ∨ b = 237 + act ∨ b = 242 + act ∨ b = 247 + act ∨ (252 + 140 * act ≤ b ∧ b < 392 + 140 * act))) → M a b = M0 a b) ∧ M 62 5 = p ∧ M 62 7 = 0 ∧ M 62 8 = 0 ∧ M 63 (232 + act) = D.1 ∧ M 63 (237 + act) = D.2.1 ∧ M 63 (242 + act) = D.2.2.1 ∧ M 63 (247 + act) = (l.length : Int) ∧ SL M (252 + 140 * act) l
def QF (M0 M : jM) (act p : Int) : Prop := (∀ a b, ¬ (a = 62 ∧ (b = 5 ∨ b = 7 ∨ b = 8)) → ¬ (a = 63 ∧ (b = 232 + act ∨ b = 237 + act ∨ b = 242 + act ∨ b = 247 + act ∨ (252 + 140 * act ≤ b ∧ b < 392 + 140 * act))) → M a b = M0 a b) ∧ M 62 5 = p ∧ M 62 7 = 1
theorem QB.fr {M0 M : jM} {tp : Int → Int} {e act : Int} (h : QB M0 tp e act) (e1 : M 62 4 = M0 62 4) (e2 : M 62 6 = M0 62 6) (e3 : ∀ i, 132 ≤ i → i < 232 → M 63 i = M0 63 i) : QB M tp e act := ⟨by rw [e1]; exact h.1, h.2.1, h.2.2.1, by rw [e2]; exact h.2.2.2.1, h.2.2.2.2.1, h.2.2.2.2.2.1, fun i i0 i1 => by rw [e3 _ (by omega) (by have := h.2.2.2.2.2.1; omega)]; exact h.2.2.2.2.2.2 i i0 i1⟩
theorem QD.q {M0 M : jM} {act p : Int} {D : jDR} {l : List Int} (h : QD M0 M act p D l) : RQ M M act true p 0 l := ⟨fun _ _ _ _ => rfl, h.2.1, by rw [h.2.2.1]; rfl, h.2.2.2.1, h.2.2.2.2.2.2.2.1, h.2.2.2.2.2.2.2.2⟩
theorem QD.b {M0 M : jM} {tp : Int → Int} {e act p : Int} {D : jDR} {l : List Int} (hb : QB M0 tp e act) (h : QD M0 M act p D l) : QB M tp e act := by
  have a1 := hb.2.1
  have a2 := hb.2.2.1
  exact hb.fr (h.1 _ _ (by omega) (by omega)) (h.1 _ _ (by omega) (by omega)) (fun i i0 i1 => h.1 _ _ (by omega) (by omega))
theorem q_clause {M0 M : jM} {tp : Int → Int} {e act p : Int} {D : jDR} {l : List Int} (hb : QB M0 tp e act) (h : QD M0 M act p D l) (p0 : 0 ≤ p) (p1 : p ≤ e) (hl : (l.length : Int) ≤ p) : Ret (f_X10_clauseHere M 62) (fun M' => ((pClause tp e p).1 = true → QD M0 M' act (pClause tp e p).2.1 (dUp D (pClause tp e p)) (l ++ (pClause tp e p).2.2.2.2.1)) ∧ ((pClause tp e p).1 = false → QF M0 M' act (pClause tp e p).2.1)) := by
  have a1 := hb.2.1
  have a2 := hb.2.2.1
  have e100 := hb.2.2.2.2.2.1
  have hbM := h.b hb
  have hq := h.q
  obtain ⟨hf, h2, h3, h4, hd0, hd1, hd2, hll, hsl⟩ := h
  have hr := hbM.rng p0
  have t0 : jtxL 0 = 6 := rfl
  have t1 : jtxL 1 = 6 := rfl
  have t2 : jtxL 2 = 4 := rfl
  have t3 : jtxL 3 = 6 := rfl
  -- a word and a number into the list
  have tell : ∀ (txt wh : Int) (k : Nat), 0 ≤ txt → txt < 6 → (jtxL txt).toNat = k → k ≤ 6 → (wh = 232 ∨ wh = 237 ∨ wh = 242) → Ret ((f_X10_tellsHere M 62 wh txt).bind fun r3 => some r3) (fun M' => ((numS tp e (wS tp e txt (true, p) k)).1 = true → QD M0 M' act (numS tp e (wS tp e txt (true, p) k)).2.1 (if wh = 232 then ((numS tp e (wS tp e txt (true, p) k)).2.2, D.2.1, D.2.2.1, D.2.2.2) else if wh = 237 then (D.1, (numS tp e (wS tp e txt (true, p) k)).2.2, D.2.2.1, D.2.2.2) else (D.1, D.2.1, (numS tp e (wS tp e txt (true, p) k)).2.2, D.2.2.2)) l) ∧ ((numS tp e (wS tp e txt (true, p) k)).1 = false → QF M0 M' act (numS tp e (wS tp e txt (true, p) k)).2.1)) := by
    intro txt wh k x0 x1 hk hk6 hwh
    unfold f_X10_tellsHere
    have a := wS_b' (tp := tp) (e := e) (p := p) (k := k) x0 x1 p1 hk6
    refine Ret.bb (P := fun M' => ((numS tp e (wS tp e txt (true, p) k)).1 = true → QD M0 M' act (numS tp e (wS tp e txt (true, p) k)).2.1 (if wh = 232 then ((numS tp e (wS tp e txt (true, p) k)).2.2, D.2.1, D.2.2.1, D.2.2.2) else if wh = 237 then (D.1, (numS tp e (wS tp e txt (true, p) k)).2.2, D.2.2.1, D.2.2.2) else (D.1, D.2.1, (numS tp e (wS tp e txt (true, p) k)).2.2, D.2.2.2)) l) ∧ ((numS tp e (wS tp e txt (true, p) k)).1 = false → QF M0 M' act (numS tp e (wS tp e txt (true, p) k)).2.1)) ?_ (fun M' h => Ret.s h)
    refine Ret.bb (q_spells (s := (true, p)) hbM hq p0 p1 x0 x1) (fun M1 h1 => ?_)
    rw [hk] at h1
    refine Ret.bb (q_num hbM h1 (by omega) a.2) (fun r ⟨n1, n2, n3, n4⟩ => ?_)
    obtain ⟨g1, g2, g3, g4, g5, g6⟩ := n1
    have e4 : r.2 62 4 = act := by rw [g1 _ _ (by omega) (by omega)]; exact hbM.1
    rw [g3, e4, jp_62_1, w32_id (x := wh + act) (by omega) (by omega)]
    by_cases ok : (numS tp e (wS tp e txt (true, p) k)).1 = true
    · rw [if_pos ok]
      refine Ret.t w32_0 (Ret.g ⟨by omega, by omega⟩ (Ret.l (Ret.s ⟨fun _ => ?_, fun z => by rw [ok] at z; cases z⟩)))
      rw [ok, if_pos rfl] at g3
      have nv := n2 ok
      refine ⟨fun s t q1 q2 => by rw [sto_ne (by omega), g1 s t q1 (by omega)]; exact hf s t q1 q2, by rw [sto_ne (by omega)]; exact g2, by rw [sto_ne (by omega)]; exact g3, by rw [sto_ne (by omega)]; exact g4, ?_, ?_, ?_, by rw [sto_ne (by omega)]; exact g5, g6.fr (fun i i0 i1 => by rw [sto_ne (by omega)])⟩
      · rcases hwh with rfl | rfl | rfl
        · rw [if_pos rfl, sto_eq rfl rfl]; exact nv
        · rw [if_neg (show ¬ (237 : Int) = 232 by decide), if_pos rfl, sto_ne (by omega), g1 _ _ (by omega) (by omega)]; exact hd0
        · rw [if_neg (show ¬ (242 : Int) = 232 by decide), if_neg (show ¬ (242 : Int) = 237 by decide), sto_ne (by omega), g1 _ _ (by omega) (by omega)]; exact hd0
      · rcases hwh with rfl | rfl | rfl
        · rw [if_pos rfl, sto_ne (by omega), g1 _ _ (by omega) (by omega)]; exact hd1
        · rw [if_neg (show ¬ (237 : Int) = 232 by decide), if_pos rfl, sto_eq rfl rfl]; exact nv
        · rw [if_neg (show ¬ (242 : Int) = 232 by decide), if_neg (show ¬ (242 : Int) = 237 by decide), sto_ne (by omega), g1 _ _ (by omega) (by omega)]; exact hd1
      · rcases hwh with rfl | rfl | rfl
        · rw [if_pos rfl, sto_ne (by omega), g1 _ _ (by omega) (by omega)]; exact hd2
        · rw [if_neg (show ¬ (237 : Int) = 232 by decide), if_pos rfl, sto_ne (by omega), g1 _ _ (by omega) (by omega)]; exact hd2
        · rw [if_neg (show ¬ (242 : Int) = 232 by decide), if_neg (show ¬ (242 : Int) = 237 by decide), sto_eq rfl rfl]; exact nv
    · have ok2 : (numS tp e (wS tp e txt (true, p) k)).1 = false := by simpa using ok
      rw [if_neg ok]
      rw [if_neg ok] at g3
      exact Ret.f w32_1n (Ret.s ⟨fun z => absurd z ok, fun _ => ⟨fun s t q1 q2 => by rw [g1 s t q1 (by omega)]; exact hf s t q1 q2, g2, g3⟩⟩)
  unfold f_X10_clauseHere
  rw [q_here hbM hq p0 p1]
  refine Ret.b ⟨_, rfl, ?_⟩
  dsimp only
  rw [w32_id (x := nxt tp e p) (by omega) (by omega)]
  unfold pClause
  refine Ret.i (fun c => ?_) (fun c => Ret.i (fun c2 => ?_) (fun c2 => Ret.i (fun c3 => ?_) (fun c3 => Ret.i (fun c5 => ?_) (fun c5 => ?_))))
  · -- fee
    rw [if_neg (show ¬ nxt tp e p = 104 by omega), if_neg (show ¬ nxt tp e p = 115 by omega), if_pos c]
    refine Ret.m (tell 2 237 4 (by decide) (by decide) rfl (by decide) (Or.inr (Or.inl rfl))) (fun M' ⟨y, n⟩ => ⟨fun ok => ?_, n⟩)
    have z := y ok
    rw [if_neg (show ¬ (237 : Int) = 232 by decide), if_pos rfl] at z
    show QD M0 M' act _ _ (l ++ [])
    rw [List.append_nil]
    exact z
  · -- heavy
    rw [if_pos c2]
    have bv := pHv_b (tp := tp) p1
    have bs := pHs_b (tp := tp) p1
    refine Ret.bb (q_spells (s := (true, p)) (txt := 0) hbM hq p0 p1 (by decide) (by decide)) (fun M1 h1 => ?_)
    rw [t0] at h1
    have a := wS_b' (tp := tp) (e := e) (txt := 0) (p := p) (k := 6) (by decide) (by decide) p1 (by decide)
    refine Ret.bb (q_num hbM h1 (by show 0 ≤ (wS tp e 0 (true, p) 6).2; omega) a.2) (fun r ⟨n1, n2, n3, n4⟩ => ?_)
    have n1 : RQ M r.2 act (pHv tp e p).1 (pHv tp e p).2.1 0 l := n1
    have n2 : (pHv tp e p).1 = true → r.1 = (pHv tp e p).2.2 := n2
    refine Ret.bb (q_must (s := ((pHv tp e p).1, (pHv tp e p).2.1)) (c := 32) hbM n1 (by show 0 ≤ (pHv tp e p).2.1; omega) bv.2.1 (by decide) (by decide)) (fun M3 h3' => ?_)
    have h3' : RQ M M3 act (pHs tp e p).1 (pHs tp e p).2 0 l := h3'
    have eE : Ret (ft_X10_some M3 62) (fun M' => QP M act 0 l M' (pE0 tp e (pHs tp e p))) := by
      unfold pE0
      by_cases q : (pHs tp e p).1 = true
      · rw [if_pos q]
        rw [q] at h3'
        exact q_pG hbM (d := 40) (k := 0) (by decide) (Int.le_refl 0) (by decide) (by decide) (by omega) bs.2 (by omega) h3'
      · have q2 : (pHs tp e p).1 = false := by simpa using q
        rw [if_neg q]
        rw [q2] at h3'
        refine Ret.m (q_wrong (d := 40) (k := 0) (by decide) (by decide) h3') (fun M' hr => ?_)
        show RQ M M' act false (pHs tp e p).2 0 (l ++ [])
        rw [List.append_nil]
        exact hr
    refine Ret.bb eE (fun M4 h4' => ?_)
    have pb := pE0_b (tp := tp) (e := e) (s := pHs tp e p) bs.2
    obtain ⟨pb1, pb2, pb3⟩ := pb
    have h4' : RQ M M4 act (pE0 tp e (pHs tp e p)).1 (pE0 tp e (pHs tp e p)).2.1 0 (l ++ (pE0 tp e (pHs tp e p)).2.2.1) := h4'
    refine Ret.bb (q_emits (v := (-10) - r.1) hbM h4' (by rw [List.length_append]; omega)) (fun M5 h5 => Ret.s ⟨fun ok => ?_, fun ok => ?_⟩)
    · have ok : (pE0 tp e (pHs tp e p)).1 = true := ok
      have ok2 : (pHs tp e p).1 = true := by
        unfold pE0 at ok
        by_cases q : (pHs tp e p).1 = true
        · exact q
        · rw [if_neg q] at ok; cases ok
      have ok3 : (pHv tp e p).1 = true := by
        unfold pHs takeS at ok2
        by_cases q : ((pHv tp e p).1, (pHv tp e p).2.1).1 = true ∧ nxt tp e ((pHv tp e p).1, (pHv tp e p).2.1).2 = 32
        · exact q.1
        · rw [if_neg q] at ok2; cases ok2
      obtain ⟨g1, g2, g3, g4, g5, g6⟩ := h5
      rw [n2 ok3, List.append_assoc] at g5 g6
      rw [ok, if_pos rfl] at g3
      unfold dUp
      rw [if_pos rfl]
      exact ⟨fun s t q1 q2 => by rw [g1 s t q1 (by omega)]; exact hf s t q1 q2, g2, g3, g4, by rw [g1 _ _ (by omega) (by omega)]; exact hd0, by rw [g1 _ _ (by omega) (by omega)]; exact hd1, by rw [g1 _ _ (by omega) (by omega)]; exact hd2, g5, g6⟩
    · have ok : (pE0 tp e (pHs tp e p)).1 = false := ok
      obtain ⟨g1, g2, g3, g4, g5, g6⟩ := h5
      rw [ok, if_neg (show ¬ (false = true) by decide)] at g3
      exact ⟨fun s t q1 q2 => by rw [g1 s t q1 (by omega)]; exact hf s t q1 q2, g2, g3⟩
  · -- prize
    rw [if_neg (show ¬ nxt tp e p = 104 by omega), if_neg (show ¬ nxt tp e p = 115 by omega), if_neg c]
    refine Ret.m (tell 3 242 6 (by decide) (by decide) rfl (by decide) (Or.inr (Or.inr rfl))) (fun M' ⟨y, n⟩ => ⟨fun ok => ?_, n⟩)
    have z := y ok
    rw [if_neg (show ¬ (242 : Int) = 232 by decide), if_neg (show ¬ (242 : Int) = 237 by decide)] at z
    show QD M0 M' act _ _ (l ++ [])
    rw [List.append_nil]
    exact z
  · -- signs
    rw [if_neg (show ¬ nxt tp e p = 104 by omega), if_pos c5]
    refine Ret.m (tell 1 232 6 (by decide) (by decide) rfl (by decide) (Or.inl rfl)) (fun M' ⟨y, n⟩ => ⟨fun ok => ?_, n⟩)
    have z := y ok
    rw [if_pos rfl] at z
    show QD M0 M' act _ _ (l ++ [])
    rw [List.append_nil]
    exact z
  · -- none of them
    rw [if_neg c2, if_neg c5, if_neg c]
    have w0 : takeS tp e (true, p) (jtxC 3 ((0 : Nat) : Int)) = (false, p) := by
      unfold takeS
      rw [if_neg (fun z => c3 z.2)]
    have wf : ∀ k, takeS tp e (false, p) k = (false, p) := fun k => by
      unfold takeS
      rw [if_neg (fun z => by cases z.1)]
    have w6 : wS tp e 3 (true, p) 6 = (false, p) := by
      show takeS tp e (takeS tp e (takeS tp e (takeS tp e (takeS tp e (takeS tp e (true, p) (jtxC 3 ((0 : Nat) : Int))) _) _) _) _) _ = _
      rw [w0, wf, wf, wf, wf, wf]
    have n6 : numS tp e (wS tp e 3 (true, p) 6) = (false, p, 0) := by
      rw [w6]
      rfl
    rw [n6]
    refine Ret.l (Ret.s ⟨(fun z => by cases z), fun _ => ⟨fun s t q1 q2 => by rw [sto_ne (by omega)]; exact hf s t q1 q2, by rw [sto_ne (by omega)]; exact h2, sto_eq rfl rfl⟩⟩)
