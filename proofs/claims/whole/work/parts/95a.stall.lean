/-! the whole stall on both sides -/
def pAft (tp : Int → Int) (e : Int) (m : Nat) (p : Int) (D : jDR) (l : List Int) : Bool × Int × jDR × List Int := if p = e then (true, e, D, l) else if m = 0 ∨ nxt tp e p ≠ 59 then (false, p, D, l) else pRun tp e m (p + 1) D l
theorem pRun_a {tp : Int → Int} {e : Int} {n : Nat} {p : Int} {D : jDR} {l : List Int} : pRun tp e (n + 1) p D l = if (pClause tp e p).1 = true then pAft tp e n (pClause tp e p).2.1 (dUp D (pClause tp e p)) (l ++ (pClause tp e p).2.2.2.2.1) else (false, (pClause tp e p).2.1, D, l) := by
  rw [pRun_s]
  by_cases c : (pClause tp e p).1 = true
  · rw [if_pos c, if_pos c]
    rfl
  · rw [if_neg c, if_neg c]
theorem q_loopS {M0 : jM} {tp : Int → Int} {e act : Int} (hb : QB M0 tp e act) {F : Bool × Int × jDR × List Int} {M : jM} {n : Int} (hI : (∃ p D l, QD M0 M act p D l ∧ 0 ≤ p ∧ p ≤ e ∧ (l.length : Int) ≤ p ∧ F = pAft tp e 9 p D l) ∨ (QF M0 M act F.2.1 ∧ F.1 = false)) {M0' : jM} : Ret (iter (f_X10_stall_L118 M0' 62) 5000 (M, 1)) (fun M' => (F.1 = true → QD M0 M' act e F.2.2.1 F.2.2.2) ∧ (F.1 = false → (∀ a b, ¬ (a = 62 ∧ (b = 5 ∨ b = 7 ∨ b = 8)) → ¬ (a = 63 ∧ (b = 232 + act ∨ b = 237 + act ∨ b = 242 + act ∨ b = 247 + act ∨ (252 + 140 * act ≤ b ∧ b < 392 + 140 * act))) → M' a b = M0 a b) ∧ M' 62 5 = F.2.1 ∧ (M' 62 7 = 1 ∨ (M' 62 7 = 0 ∧ F.2.1 ≠ e ∧ 0 ≤ F.2.1 ∧ F.2.1 ≤ e)))) := by
  have e0 := hb.2.2.2.2.1
  have e100 := hb.2.2.2.2.2.1
  refine Ret.it (fun S : jM × Int => 1 ≤ S.2 ∧ S.2 ≤ 10 ∧ ((∃ p D l, QD M0 S.1 act p D l ∧ 0 ≤ p ∧ p ≤ e ∧ (l.length : Int) ≤ p ∧ F = pAft tp e (10 - S.2).toNat p D l) ∨ (QF M0 S.1 act F.2.1 ∧ F.1 = false))) (fun S => (11 - S.2).toNat) ?_ 5000 (M, 1) ⟨by show (1 : Int) ≤ 1; decide, by show (1 : Int) ≤ 10; decide, hI⟩ (by show (11 - 1 : Int).toNat < 5000; decide)
  rintro ⟨M1, n⟩ ⟨n0, n1, hs⟩
  dsimp only at n0 n1 hs
  unfold f_X10_stall_L118
  dsimp +instances only
  rw [w32_id (x := n) (by omega) (by omega)]
  rcases hs with ⟨p, D, l, h, p0, p1, hl, hF⟩ | ⟨h, hF⟩
  · have ex : (p = e ∨ (10 - n).toNat = 0 ∨ nxt tp e p ≠ 59) → (F.1 = true → QD M0 M1 act e F.2.2.1 F.2.2.2) ∧ (F.1 = false → (∀ a b, ¬ (a = 62 ∧ (b = 5 ∨ b = 7 ∨ b = 8)) → ¬ (a = 63 ∧ (b = 232 + act ∨ b = 237 + act ∨ b = 242 + act ∨ b = 247 + act ∨ (252 + 140 * act ≤ b ∧ b < 392 + 140 * act))) → M1 a b = M0 a b) ∧ M1 62 5 = F.2.1 ∧ (M1 62 7 = 1 ∨ (M1 62 7 = 0 ∧ F.2.1 ≠ e ∧ 0 ≤ F.2.1 ∧ F.2.1 ≤ e))) := by
      intro q
      unfold pAft at hF
      by_cases c : p = e
      · rw [if_pos c] at hF
        rw [hF]
        rw [c] at h
        exact ⟨fun _ => h, (fun z => by cases z)⟩
      · rw [if_neg c, if_pos (by rcases q with q | q | q; exact absurd q c; exact Or.inl q; exact Or.inr q)] at hF
        rw [hF]
        exact ⟨(fun z => by cases z), fun _ => ⟨h.1, h.2.1, Or.inr ⟨h.2.2.1, c, p0, p1⟩⟩⟩
    have hq := h.q
    have hbM := h.b hb
    have hr := hbM.rng p0
    rw [h.2.2.1, q_here hbM hq p0 p1, h.2.1]
    refine Ret.t w32_0 (Ret.i (fun c => Rr (ex (Or.inr (Or.inl (by omega))))) (fun c => Ret.b ⟨_, rfl, ?_⟩))
    dsimp only
    rw [w32_id (x := nxt tp e p) (by omega) (by omega)]
    refine Ret.i (fun c59 => Ret.l ?_) (fun c59 => Rr (ex (Or.inr (Or.inr c59))))
    have hlt := nxt_lt (tp := tp) (e := e) (p := p) (by omega)
    have h2 : QD M0 (sto M1 62 5 (p + 1)) act (p + 1) D l := by
      obtain ⟨x1, x2, x3, x4, x5, x6, x7, x8, x9⟩ := h
      exact ⟨fun a b q1 q2 => by rw [sto_ne (by omega)]; exact x1 a b q1 q2, sto_eq rfl rfl, by rw [sto_ne (by omega)]; exact x3, by rw [sto_ne (by omega)]; exact x4, by rw [sto_ne (by omega)]; exact x5, by rw [sto_ne (by omega)]; exact x6, by rw [sto_ne (by omega)]; exact x7, by rw [sto_ne (by omega)]; exact x8, x9.fr (fun i _ _ => by rw [sto_ne (by omega)])⟩
    obtain ⟨b1, b2, b3, b4⟩ := pClause_b (tp := tp) (e := e) (p := p + 1) (by omega)
    refine Ret.bb (q_clause hb h2 (by omega) (by omega) (by omega)) (fun M2 ⟨hy, hn⟩ => Rl ⟨⟨by show 1 ≤ n + 1; omega, by show n + 1 ≤ 10; omega, ?_⟩, by show (11 - (n + 1)).toNat < (11 - n).toNat; omega⟩)
    dsimp only
    unfold pAft at hF
    rw [if_neg (by omega), if_neg (by omega), show (10 - n).toNat = (10 - (n + 1)).toNat + 1 by omega, pRun_a] at hF
    by_cases ok : (pClause tp e (p + 1)).1 = true
    · rw [if_pos ok] at hF
      exact Or.inl ⟨_, _, _, hy ok, by omega, b2, by rw [List.length_append]; omega, hF⟩
    · have ok2 : (pClause tp e (p + 1)).1 = false := by simpa using ok
      rw [if_neg ok] at hF
      refine Or.inr ⟨?_, by rw [hF]⟩
      rw [hF]
      exact hn ok2
  · obtain ⟨x1, x2, x3⟩ := h
    rw [x3]
    exact Ret.f w32_1n (Rr ⟨(fun z => by rw [hF] at z; cases z), fun _ => ⟨x1, x2, Or.inl x3⟩⟩)
theorem StallOK.fr2 {M M' : jM} {H A : Int} (h : StallOK M H A) (h1 : ∀ j, 0 ≤ j → j < 4 → M' H j = M H j) (h2 : ∀ i, 0 ≤ i → i < 10 → M' (H + 1) i = M (H + 1) i ∧ M' (H + 2) i = M (H + 2) i) (h3 : M' A 6 = M A 6) (h4 : M A 2 ≤ M' A 2) (h5 : ∀ i, 0 ≤ M A 6 → M A 6 < M A 2 → (i = 232 + M A 6 ∨ i = 237 + M A 6 ∨ i = 242 + M A 6 ∨ i = 247 + M A 6 ∨ (252 + 140 * M A 6 ≤ i ∧ i < 392 + 140 * M A 6)) → M' A i = M A i) : StallOK M' H A := by
  rcases h with ⟨a, b, c, d, e⟩ | ⟨a1, a2, a3, a4, a5, a6, a7, a8, a9, a10, a11, a12, a13, a14, a15, a16, a17, a18⟩
  · exact Or.inl ⟨by rw [h3]; exact a, by rw [h1 0 (by decide) (by decide)]; exact b, by rw [h1 1 (by decide) (by decide)]; exact c, by rw [h1 2 (by decide) (by decide)]; exact d, by rw [h1 3 (by decide) (by decide)]; exact e⟩
  · refine Or.inr ?_
    have e0 := h1 0 (by decide) (by decide)
    have e1 := h1 1 (by decide) (by decide)
    have e2 := h1 2 (by decide) (by decide)
    have e3 := h1 3 (by decide) (by decide)
    rw [h3, e0, e1, e2, e3, h5 (232 + M A 6) a1 a2 (by omega), h5 (237 + M A 6) a1 a2 (by omega), h5 (242 + M A 6) a1 a2 (by omega), h5 (247 + M A 6) a1 a2 (by omega)]
    refine ⟨a1, by omega, a3, a4, a5, a6, a7, a8, a9, a10, a11, a12, a13, fun i i0 i1 => ?_, a15, a16, fun i i0 i1 => ?_, fun sg dy s0 s1 d0 d1 => ?_⟩
    · rw [(h2 i i0 (by omega)).1]; exact a14 i i0 i1
    · rw [h5 _ a1 a2 (by omega)]; exact a17 i i0 i1
    · rw [stepsOf_fr (h5 _ a1 a2 (by omega)) (fun i i0 i1 => h5 _ a1 a2 (by omega)), loadSum_fr (fun i hi => h2 i (by omega) (by omega))]
      exact a18 sg dy s0 s1 d0 d1
/-- a mask's loads -/
theorem load_hS {M : jM} {H g sg dy : Int} {ld : Int → Int} {tv : Int → jTV} (g0 : 2 ≤ g) (g1 : g ≤ 3) (s0 : 0 ≤ sg) (s1 : sg ≤ 2) (d0 : 0 ≤ dy) (d1 : dy ≤ 9) : ∀ {n : Nat}, (∀ i : Int, 0 ≤ i → i < n → M (H + 1) i = ld i ∧ MaskOf (M (H + 2) i) (tv i)) → loadSum M H g sg dy n = hS ld tv g sg dy n
  | 0, _ => rfl
  | n + 1, h => by
    obtain ⟨h1, h2⟩ := h n (by omega) (by omega)
    have hp := place_rng g0 g1 s0 s1 d0 d1
    show loadSum M H g sg dy n + (if land (lshr (M (H + 2) n) (placeOf g sg dy)) 1 = 0 then 0 else M (H + 1) n) = hS ld tv g sg dy n + (if tv n g sg dy = true then ld n else 0)
    rw [load_hS g0 g1 s0 s1 d0 d1 (fun i i0 i1 => h i i0 (by omega)), bit_land hp.1 (by omega), h2 g sg dy g0 g1 s0 s1 d0 d1, h1]
    by_cases c : tv n g sg dy = true
    · rw [c, if_pos rfl, if_pos rfl, if_neg (by decide)]
    · have c2 : tv n g sg dy = false := by simpa using c
      rw [c2, if_neg (show ¬ (false = true) by decide), if_pos rfl, if_neg (show ¬ (false = true) by decide)]
