/-! the class reads a whole stall -/
theorem CD.step {M0 M : jM} {p q : Int} {D : jDR} (h : CD M0 M p D) : CD M0 (sto M 46 2 q) q D := by
  obtain ⟨x1, x2, x3, x4, x5, x6, x7, x8, x9⟩ := h
  exact ⟨fun a b q1 q2 q3 q4 => by rw [sto_ne (by omega)]; exact x1 a b q1 q2 q3 q4, sto_eq rfl rfl, by rw [sto_ne (by omega)]; exact x3, by rw [sto_ne (by omega)]; exact x4, by rw [sto_ne (by omega)]; exact x5, by rw [sto_ne (by omega)]; exact x6, by rw [sto_ne (by omega)]; exact x7, x8, fun i i0 i1 => by rw [sto_ne (by omega), sto_ne (by omega)]; exact x9 i i0 i1⟩
theorem c_read {M0 M : jM} {tp : Int → Int} {e : Int} (hb : RB M0 tp e) (h4 : M0 46 4 = 43) {D : jDR} (h : CD M0 M 0 D) (hD : DOk D) (hk : D.2.2.2.1 = 0) {F : Bool × Int × jDR × List Int} (hF : F = pRun tp e 10 0 D []) : Ret ((iter (f_X5_read_L40 M 46) 5000 (M, 1)).bind (Sum.elim (fun q17 => some (q17 46 2, q17)) (Sum.elim (fun q18 => some (q18 46 2, q18)) (Sum.elim (fun q19 => some ((-1), q19)) (fun q20 => some (q20 46 2, q20)))))) (fun r => (F.1 = true → r.1 = -1 ∧ CD M0 r.2 e F.2.2.1) ∧ (F.1 = false → r.1 = F.2.1 ∧ 0 ≤ r.1 ∧ r.1 ≤ 100 ∧ ∀ a b, a ≠ 43 → a ≠ 44 → a ≠ 45 → ¬ (a = 46 ∧ (b = 2 ∨ b = 3)) → r.2 a b = M0 a b)) := by
  have e0 := hb.2.2.1
  have e1 := hb.2.2.2.1
  refine Ret.bb (P := fun x : jM ⊕ jM ⊕ jM ⊕ jM => (∃ M', x = .inr (.inr (.inl M')) ∧ F.1 = true ∧ CD M0 M' e F.2.2.1) ∨ (∃ M', (x = .inr (.inl M') ∨ x = .inr (.inr (.inr M'))) ∧ F.1 = false ∧ M' 46 2 = F.2.1 ∧ 0 ≤ F.2.1 ∧ F.2.1 ≤ 100 ∧ ∀ a b, a ≠ 43 → a ≠ 44 → a ≠ 45 → ¬ (a = 46 ∧ (b = 2 ∨ b = 3)) → M' a b = M0 a b)) ?_ ?_
  · refine Ret.it (fun S : jM × Int => 1 ≤ S.2 ∧ S.2 ≤ 10 ∧ ∃ p D l, CD M0 S.1 p D ∧ DOk D ∧ D.2.2.2.1 ≤ S.2 - 1 ∧ 0 ≤ p ∧ p ≤ e ∧ F = pRun tp e (11 - S.2).toNat p D l) (fun S => (11 - S.2).toNat) ?_ 5000 (M, 1) ⟨by show (1 : Int) ≤ 1; decide, by show (1 : Int) ≤ 10; decide, 0, D, [], h, hD, by show D.2.2.2.1 ≤ 1 - 1; omega, Int.le_refl 0, e0, hF⟩ (by show (11 - 1 : Int).toNat < 5000; decide)
    rintro ⟨M1, n⟩ ⟨n0, n1, p, D, l, hc, hd, hkk, p0, p1, hF⟩
    dsimp only at n0 n1 hc hkk hF
    unfold f_X5_read_L40
    dsimp +instances only
    rw [w32_id (x := n) (by omega) (by omega)]
    refine Ret.f (by omega) (Ret.bb (c_clause hb h4 hc p0 p1 (by omega)) (fun M2 ⟨hy, hn⟩ => ?_))
    obtain ⟨b1, b2, b3, b4⟩ := pClause_b (tp := tp) p1
    rw [show (11 - n).toNat = (10 - n).toNat + 1 by omega, pRun_s] at hF
    by_cases ok : (pClause tp e p).1 = true
    · rw [if_pos ok] at hF
      have h2 := hy ok
      have hu := dUp_ok hd (b4 ok)
      have e46 : M2 46 1 = e := by rw [h2.1 _ _ (by decide) (by decide) (by decide) (by omega)]; exact hb.2.1
      rw [h2.2.2.1, h2.2.1, e46, w32_id (x := (pClause tp e p).2.1) (by omega) (by omega), w32_id (x := e) (by omega) (by omega)]
      refine Ret.t w32_0 (Ret.i (fun ce => Rr (Or.inl ⟨M2, rfl, ?_, ?_⟩)) (fun ce => Ret.i (fun c10 => Rr (Or.inr ⟨M2, Or.inr rfl, ?_, ?_, ?_, ?_, h2.1⟩)) (fun c10 => ?_)))
      · rw [hF, if_pos ce]
      · rw [hF, if_pos ce]
        have h2' := h2
        rw [ce] at h2'
        exact h2'
      · rw [hF, if_neg ce, if_pos (Or.inl (by omega))]
      · rw [hF, if_neg ce, if_pos (Or.inl (by omega))]; exact h2.2.1
      · rw [hF, if_neg ce, if_pos (Or.inl (by omega))]; show 0 ≤ (pClause tp e p).2.1; omega
      · rw [hF, if_neg ce, if_pos (Or.inl (by omega))]; show (pClause tp e p).2.1 ≤ 100; omega
      · have hbM : RB M2 tp e := hb.fr (h2.1 _ _ (by decide) (by decide) (by decide) (by omega)) (h2.1 _ _ (by decide) (by decide) (by decide) (by omega)) (fun i => h2.1 _ _ (by decide) (by decide) (by decide) (by omega))
        have hcr := CR.self h2.2.1 h2.2.2.1
        have hr := hbM.rng (p := (pClause tp e p).2.1) (by omega)
        rw [c_next hbM hcr (by omega) b2]
        refine Ret.b ⟨_, rfl, ?_⟩
        dsimp only
        rw [w32_id (x := nxt tp e (pClause tp e p).2.1) (by omega) (by omega)]
        refine Ret.i (fun c59 => Ret.l (Rl ?_)) (fun c59 => Rr (Or.inr ⟨M2, Or.inr rfl, ?_, ?_, ?_, ?_, h2.1⟩))
        · have hlt := nxt_lt (tp := tp) (e := e) (p := (pClause tp e p).2.1) (by omega)
          rw [if_neg ce, if_neg (by omega)] at hF
          refine ⟨⟨by show 1 ≤ n + 1; omega, by show n + 1 ≤ 10; omega, (pClause tp e p).2.1 + 1, dUp D (pClause tp e p), l ++ (pClause tp e p).2.2.2.2.1, ?_, hu.1, by have := hu.2; show _ ≤ n + 1 - 1; omega, by omega, by omega, ?_⟩, by show (11 - (n + 1)).toNat < (11 - n).toNat; omega⟩
          · exact h2.step
          · rw [hF, show (11 - (n + 1)).toNat = (10 - n).toNat by omega]
        · rw [hF, if_neg ce, if_pos (Or.inr c59)]
        · rw [hF, if_neg ce, if_pos (Or.inr c59)]; exact h2.2.1
        · rw [hF, if_neg ce, if_pos (Or.inr c59)]; show 0 ≤ (pClause tp e p).2.1; omega
        · rw [hF, if_neg ce, if_pos (Or.inr c59)]; show (pClause tp e p).2.1 ≤ 100; omega
    · have ok2 : (pClause tp e p).1 = false := by simpa using ok
      rw [if_neg ok] at hF
      obtain ⟨x1, x2, x3⟩ := hn ok2
      rw [x3]
      refine Ret.f w32_1n (Rr (Or.inr ⟨M2, Or.inl rfl, ?_, ?_, ?_, ?_, x1⟩))
      · rw [hF]
      · rw [hF]; exact x2
      · rw [hF]; show 0 ≤ (pClause tp e p).2.1; omega
      · rw [hF]; show (pClause tp e p).2.1 ≤ 100; omega
  · rintro x (⟨M', rfl, ok, hc⟩ | ⟨M', hx, ok, hp, q0, q1, hf⟩)
    · exact Ret.s (a := ((-1 : Int), M')) ⟨fun _ => ⟨rfl, hc⟩, fun z => by rw [ok] at z; cases z⟩
    · have fin : (F.1 = true → ((M' 46 2, M') : Int × jM).1 = -1 ∧ CD M0 ((M' 46 2, M') : Int × jM).2 e F.2.2.1) ∧ (F.1 = false → ((M' 46 2, M') : Int × jM).1 = F.2.1 ∧ 0 ≤ ((M' 46 2, M') : Int × jM).1 ∧ ((M' 46 2, M') : Int × jM).1 ≤ 100 ∧ ∀ a b, a ≠ 43 → a ≠ 44 → a ≠ 45 → ¬ (a = 46 ∧ (b = 2 ∨ b = 3)) → ((M' 46 2, M') : Int × jM).2 a b = M0 a b) := ⟨(fun z => by rw [ok] at z; cases z), fun _ => ⟨hp, by show 0 ≤ M' 46 2; omega, by show M' 46 2 ≤ 100; omega, hf⟩⟩
      rcases hx with rfl | rfl
      · exact Ret.s (a := (M' 46 2, M')) fin
      · exact Ret.s (a := (M' 46 2, M')) fin
