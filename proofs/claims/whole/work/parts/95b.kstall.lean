def d0 : jDR := (2, 1, 10, 0, fun _ => 0, fun _ _ _ _ => false)
def tpM (M : jM) : Int → Int := fun i => M 63 (132 + i)
theorem d0_ok : DOk d0 := ⟨by decide, by decide, by decide, by decide, by decide, by decide, by decide, fun i i0 i1 => by have i1 : i < 0 := i1; omega⟩
theorem d0_ev : EvD d0 [] := fun g sg dy rest sum => by
  show evS g dy sg rest [] sum = evS g dy sg rest [] (sum + 0)
  rw [Int.add_zero]
/-- what the stall leaves in the reference -/
def ExQ (MC M' : jM) (act : Int) : Prop := ∀ a b, ¬ (a = 62 ∧ 4 ≤ b ∧ b ≤ 8) → ¬ (a = 63 ∧ (b = 2 ∨ b = 5 ∨ b = 6 ∨ b = 232 + act ∨ b = 237 + act ∨ b = 242 + act ∨ b = 247 + act ∨ (252 + 140 * act ≤ b ∧ b < 392 + 140 * act))) → M' a b = MC a b
theorem r_stallQ {M MC : jM} (h : jInv M) (e63 : ∀ b, MC 63 b = M 63 b) (hact : M 63 2 < 5) : Ret (f_X10_stall MC 62) (fun y => ((pRun (tpM M) (M 63 5) 10 0 d0 []).1 = true → y.1 = M 63 2 ∧ ExQ MC y.2 (M 63 2) ∧ y.2 63 2 = M 63 2 + 1 ∧ y.2 63 5 = 0 ∧ y.2 63 6 = M 63 2 ∧ y.2 63 (232 + M 63 2) = (pRun (tpM M) (M 63 5) 10 0 d0 []).2.2.1.1 ∧ y.2 63 (237 + M 63 2) = (pRun (tpM M) (M 63 5) 10 0 d0 []).2.2.1.2.1 ∧ y.2 63 (242 + M 63 2) = (pRun (tpM M) (M 63 5) 10 0 d0 []).2.2.1.2.2.1 ∧ y.2 63 (247 + M 63 2) = ((pRun (tpM M) (M 63 5) 10 0 d0 []).2.2.2.length : Int) ∧ SL y.2 (252 + 140 * M 63 2) (pRun (tpM M) (M 63 5) 10 0 d0 []).2.2.2) ∧ ((pRun (tpM M) (M 63 5) 10 0 d0 []).1 = false → y.1 = -10 - (pRun (tpM M) (M 63 5) 10 0 d0 []).2.1 ∧ ExQ MC y.2 (M 63 2) ∧ y.2 63 2 = M 63 2 ∧ y.2 63 5 = 0 ∧ y.2 63 6 = M 63 6)) := by
  obtain ⟨t1, t2, t3, t4⟩ := h.1.1
  obtain ⟨n1, n2, n3, -⟩ := h.1.2.1
  obtain ⟨act, ea⟩ : ∃ act, act = M 63 2 := ⟨_, rfl⟩
  obtain ⟨e, ee⟩ : ∃ e, e = M 63 5 := ⟨_, rfl⟩
  have x2 : MC 63 2 = act := by rw [e63, ea]
  have x5 : MC 63 5 = e := by rw [e63, ee]
  unfold f_X10_stall
  rw [jp_62_1, x2, ← ea, ← ee, w32_id (x := act) (by omega) (by omega)]
  refine Ret.f (by omega) (Ret.l (Ret.l ?_))
  -- the fields before the first clause
  obtain ⟨MA, hMA⟩ : ∃ MA, MA = sto (sto (sto MC 62 4 act) 62 6 (sto MC 62 4 act 63 5)) 63 5 0 := ⟨_, rfl⟩
  rw [← hMA]
  refine Ret.l ?_
  have a4 : MA 62 4 = act := by rw [hMA, sto_ne (by omega), sto_ne (by omega), sto_eq rfl rfl]
  rw [a4, w32_id (x := 232 + act) (by omega) (by omega)]
  refine Ret.g ⟨by omega, by omega⟩ (Ret.l ?_)
  have b4 : sto MA 63 (232 + act) 2 62 4 = act := by rw [sto_ne (by omega)]; exact a4
  rw [b4, w32_id (x := 237 + act) (by omega) (by omega)]
  refine Ret.g ⟨by omega, by omega⟩ (Ret.l ?_)
  have c4 : sto (sto MA 63 (232 + act) 2) 63 (237 + act) 1 62 4 = act := by rw [sto_ne (by omega)]; exact b4
  rw [c4, w32_id (x := 242 + act) (by omega) (by omega)]
  refine Ret.g ⟨by omega, by omega⟩ (Ret.l ?_)
  have d4 : sto (sto (sto MA 63 (232 + act) 2) 63 (237 + act) 1) 63 (242 + act) 10 62 4 = act := by rw [sto_ne (by omega)]; exact c4
  rw [d4, w32_id (x := 247 + act) (by omega) (by omega)]
  refine Ret.g ⟨by omega, by omega⟩ (Ret.l (Ret.l (Ret.l (Ret.l ?_))))
  obtain ⟨MB, hMB⟩ : ∃ MB, MB = sto (sto (sto (sto (sto (sto (sto MA 63 (232 + act) 2) 63 (237 + act) 1) 63 (242 + act) 10) 63 (247 + act) 0) 62 5 0) 62 7 0) 62 8 0 := ⟨_, rfl⟩
  rw [← hMB]
  have fB : ∀ a b, ¬ (a = 62 ∧ 4 ≤ b ∧ b ≤ 8) → ¬ (a = 63 ∧ (b = 5 ∨ b = 232 + act ∨ b = 237 + act ∨ b = 242 + act ∨ b = 247 + act)) → MB a b = MC a b := fun a b q1 q2 => by
    rw [hMB, sto_ne (by omega), sto_ne (by omega), sto_ne (by omega), sto_ne (by omega), sto_ne (by omega), sto_ne (by omega), sto_ne (by omega), hMA, sto_ne (by omega), sto_ne (by omega), sto_ne (by omega)]
  have g4 : MB 62 4 = act := by rw [hMB, sto_ne (by omega), sto_ne (by omega), sto_ne (by omega), sto_ne (by omega)]; exact d4
  have g5 : MB 63 5 = 0 := by rw [hMB, sto_ne (by omega), sto_ne (by omega), sto_ne (by omega), sto_ne (by omega), sto_ne (by omega), sto_ne (by omega), sto_ne (by omega), hMA, sto_eq rfl rfl]
  have g6 : MB 62 6 = e := by rw [hMB, sto_ne (by omega), sto_ne (by omega), sto_ne (by omega), sto_ne (by omega), sto_ne (by omega), sto_ne (by omega), sto_ne (by omega), hMA, sto_ne (by omega), sto_eq rfl rfl, sto_ne (by omega)]; exact x5
  have hb : QB MB (tpM M) e act := ⟨g4, by omega, by omega, g6, by omega, by omega, fun i i0 i1 => by
    have := t4 i i0 (by omega)
    exact ⟨by rw [fB _ _ (by omega) (by omega), e63]; rfl, this.2⟩⟩
  have hq : QD MB MB act 0 d0 [] := ⟨fun _ _ _ _ => rfl, by rw [hMB, sto_ne (by omega), sto_ne (by omega), sto_eq rfl rfl], by rw [hMB, sto_ne (by omega), sto_eq rfl rfl], by rw [hMB, sto_eq rfl rfl], by rw [hMB, sto_ne (by omega), sto_ne (by omega), sto_ne (by omega), sto_ne (by omega), sto_ne (by omega), sto_ne (by omega), sto_eq rfl rfl]; rfl, by rw [hMB, sto_ne (by omega), sto_ne (by omega), sto_ne (by omega), sto_ne (by omega), sto_ne (by omega), sto_eq rfl rfl]; rfl, by rw [hMB, sto_ne (by omega), sto_ne (by omega), sto_ne (by omega), sto_ne (by omega), sto_eq rfl rfl]; rfl, by rw [hMB, sto_ne (by omega), sto_ne (by omega), sto_ne (by omega), sto_eq rfl rfl]; rfl, trivial⟩
  obtain ⟨F, hF⟩ : ∃ F, F = pRun (tpM M) e 10 0 d0 [] := ⟨_, rfl⟩
  rw [← hF]
  obtain ⟨b1, b2, b3, b4'⟩ := pClause_b (tp := tpM M) (e := e) (p := 0) (by omega)
  refine Ret.bb (q_clause hb hq (Int.le_refl 0) (by omega) (Int.le_refl 0)) (fun M2 ⟨hy, hn⟩ => ?_)
  have hI : (∃ p D l, QD MB M2 act p D l ∧ 0 ≤ p ∧ p ≤ e ∧ (l.length : Int) ≤ p ∧ F = pAft (tpM M) e 9 p D l) ∨ (QF MB M2 act F.2.1 ∧ F.1 = false) := by
    rw [pRun_a (n := 9)] at hF
    by_cases ok : (pClause (tpM M) e 0).1 = true
    · rw [if_pos ok] at hF
      exact Or.inl ⟨_, _, _, hy ok, b1, b2, by rw [List.nil_append]; omega, hF⟩
    · have ok2 : (pClause (tpM M) e 0).1 = false := by simpa using ok
      rw [if_neg ok] at hF
      refine Or.inr ⟨?_, by rw [hF]⟩
      rw [hF]
      exact hn ok2
  refine Ret.bb (q_loopS hb (n := 0) hI) (fun M3 ⟨ly, ln⟩ => ?_)
  by_cases ok : F.1 = true
  · obtain ⟨k1, k2, k3, k4, k5, k6, k7, k8, k9⟩ := ly ok
    have k10 : M3 62 6 = e := by rw [k1 _ _ (by omega) (by omega)]; exact g6
    have k11 : M3 63 2 = act := by rw [k1 _ _ (by omega) (by omega), fB _ _ (by omega) (by omega)]; exact x2
    have k12 : M3 62 4 = act := by rw [k1 _ _ (by omega) (by omega)]; exact g4
    rw [k3, k2, k10, k11]
    refine Ret.t w32_0 (Ret.t rfl (Ret.l ?_))
    rw [sto_ne (show ¬ ((62 : Int) = 63 ∧ (4 : Int) = 2) by omega), k12]
    refine Ret.l (Ret.s ⟨fun _ => ⟨?_, fun a b q1 q2 => ?_, ?_, ?_, ?_, ?_, ?_, ?_, ?_, ?_⟩, fun z => by rw [ok] at z; cases z⟩)
    · dsimp only
      rw [sto_ne (by omega), sto_ne (by omega)]; exact k12
    · dsimp only
      rw [sto_ne (by omega), sto_ne (by omega), k1 a b (by omega) (by omega)]; exact fB a b (by omega) (by omega)
    · dsimp only
      rw [sto_ne (by omega), sto_eq rfl rfl]
    · dsimp only
      rw [sto_ne (by omega), sto_ne (by omega), k1 _ _ (by omega) (by omega)]; exact g5
    · dsimp only
      rw [sto_eq rfl rfl]
    · dsimp only
      rw [sto_ne (by omega), sto_ne (by omega)]; exact k5
    · dsimp only
      rw [sto_ne (by omega), sto_ne (by omega)]; exact k6
    · dsimp only
      rw [sto_ne (by omega), sto_ne (by omega)]; exact k7
    · dsimp only
      rw [sto_ne (by omega), sto_ne (by omega)]; exact k8
    · exact k9.fr (fun i i0 i1 => by dsimp only; rw [sto_ne (by omega), sto_ne (by omega)])
  · have ok2 : F.1 = false := by simpa using ok
    obtain ⟨k1, k2, k3⟩ := ln ok2
    have k10 : M3 62 6 = e := by rw [k1 _ _ (by omega) (by omega)]; exact g6
    have fin : (F.1 = true → ((-10 - M3 62 5, M3) : Int × jM).1 = act ∧ ExQ MC ((-10 - M3 62 5, M3) : Int × jM).2 act ∧ ((-10 - M3 62 5, M3) : Int × jM).2 63 2 = act + 1 ∧ ((-10 - M3 62 5, M3) : Int × jM).2 63 5 = 0 ∧ ((-10 - M3 62 5, M3) : Int × jM).2 63 6 = act ∧ ((-10 - M3 62 5, M3) : Int × jM).2 63 (232 + act) = F.2.2.1.1 ∧ ((-10 - M3 62 5, M3) : Int × jM).2 63 (237 + act) = F.2.2.1.2.1 ∧ ((-10 - M3 62 5, M3) : Int × jM).2 63 (242 + act) = F.2.2.1.2.2.1 ∧ ((-10 - M3 62 5, M3) : Int × jM).2 63 (247 + act) = (F.2.2.2.length : Int) ∧ SL ((-10 - M3 62 5, M3) : Int × jM).2 (252 + 140 * act) F.2.2.2) ∧ (F.1 = false → ((-10 - M3 62 5, M3) : Int × jM).1 = -10 - F.2.1 ∧ ExQ MC ((-10 - M3 62 5, M3) : Int × jM).2 act ∧ ((-10 - M3 62 5, M3) : Int × jM).2 63 2 = act ∧ ((-10 - M3 62 5, M3) : Int × jM).2 63 5 = 0 ∧ ((-10 - M3 62 5, M3) : Int × jM).2 63 6 = M 63 6) := by
      refine ⟨fun z => absurd z ok, fun _ => ⟨?_, fun a b q1 q2 => ?_, ?_, ?_, ?_⟩⟩
      · show -10 - M3 62 5 = -10 - F.2.1
        rw [k2]
      · show M3 a b = MC a b
        rw [k1 a b (by omega) (by omega)]; exact fB a b (by omega) (by omega)
      · show M3 63 2 = act
        rw [k1 _ _ (by omega) (by omega), fB _ _ (by omega) (by omega)]; exact x2
      · show M3 63 5 = 0
        rw [k1 _ _ (by omega) (by omega)]; exact g5
      · show M3 63 6 = M 63 6
        rw [k1 _ _ (by omega) (by omega), fB _ _ (by omega) (by omega)]; exact e63 6
    rcases k3 with k3 | ⟨k3, k4, k5, k6⟩
    · rw [k3]
      exact Ret.f w32_1n (Ret.s fin)
    · rw [k3, k10]
      refine Ret.t w32_0 (Ret.f ?_ (Ret.s fin))
      rw [k2, w32_id (x := F.2.1) (by omega) (by omega), w32_id (x := e) (by omega) (by omega)]
      exact k4
