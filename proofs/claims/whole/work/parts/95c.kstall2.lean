theorem jp_0_3' : jpt 0 3 = 43 := rfl
set_option maxHeartbeats 2000000 in
theorem k_stall {M : jM} (h : jInv M) : Ret (f_X9_stall M 0) (fun x => Ret (f_X10_stall x.2 62) (fun y => w32 x.1 = w32 y.1 ∧ jInv y.2)) := by
  obtain ⟨t1, t2, t3, t4, t5, t6, t7⟩ := id h.1
  obtain ⟨n1, n2, n3, n4, n5, n6, n7⟩ := id t2
  obtain ⟨a1, a2, a3, a4⟩ := id t1
  have n1 : M 1 3 = M 63 2 := n1
  have a1 : M 1 1 = M 63 5 := a1
  have z2 : ∀ v : Int, 0 ≤ v → v ≤ 100 → w32 v = v := fun v v0 v1 => w32_id (by omega) (by omega)
  unfold f_X9_stall f_X5_read
  rw [jp_0_0, jp_0_3, jp_0_4, jp_1_0, jp_1_2, n1, a1, z2 _ n2 (by omega), z2 _ a2 a3, z2 100 (by decide) (by decide)]
  refine Ret.i (fun c5 => ?_) (fun c5 => Ret.s ?_)
  · refine Ret.b (Ret.l (Ret.l (Ret.l (Ret.l (Ret.l ?_)))))
    -- the reader and its draft laid open
    have hmin : min (M 63 5) 100 = M 63 5 := by omega
    rw [hmin]
    have e464 : sto (sto (sto (sto (sto M 46 0 2) 46 1 (M 63 5)) 46 2 0) 46 3 0) 46 4 43 46 4 = 43 := sto_eq rfl rfl
    rw [e464]
    unfold f_X7_clear
    refine Ret.g kd_43 (Ret.b (Ret.l (Ret.l (Ret.l (Ret.l (Ret.s ?_))))))
    obtain ⟨MB, hMB⟩ : ∃ MB, MB = sto (sto (sto (sto (sto (sto (sto (sto (sto M 46 0 2) 46 1 (M 63 5)) 46 2 0) 46 3 0) 46 4 43) 43 0 2) 43 1 1) 43 2 10) 43 3 0 := ⟨_, rfl⟩
    rw [← hMB]
    have fB : ∀ a b, a ≠ 46 → a ≠ 43 → MB a b = M a b := fun a b q1 q2 => by
      rw [hMB, sto_ne (by omega), sto_ne (by omega), sto_ne (by omega), sto_ne (by omega), sto_ne (by omega), sto_ne (by omega), sto_ne (by omega), sto_ne (by omega), sto_ne (by omega)]
    have b0 : MB 46 0 = 2 := by rw [hMB, sto_ne (by omega), sto_ne (by omega), sto_ne (by omega), sto_ne (by omega), sto_ne (by omega), sto_ne (by omega), sto_ne (by omega), sto_ne (by omega), sto_eq rfl rfl]
    have b1 : MB 46 1 = M 63 5 := by rw [hMB, sto_ne (by omega), sto_ne (by omega), sto_ne (by omega), sto_ne (by omega), sto_ne (by omega), sto_ne (by omega), sto_ne (by omega), sto_eq rfl rfl]
    have b2 : MB 46 2 = 0 := by rw [hMB, sto_ne (by omega), sto_ne (by omega), sto_ne (by omega), sto_ne (by omega), sto_ne (by omega), sto_ne (by omega), sto_eq rfl rfl]
    have b3 : MB 46 3 = 0 := by rw [hMB, sto_ne (by omega), sto_ne (by omega), sto_ne (by omega), sto_ne (by omega), sto_ne (by omega), sto_eq rfl rfl]
    have b4 : MB 46 4 = 43 := by rw [hMB, sto_ne (by omega), sto_ne (by omega), sto_ne (by omega), sto_ne (by omega), sto_eq rfl rfl]
    have c0 : MB 43 0 = 2 := by rw [hMB, sto_ne (by omega), sto_ne (by omega), sto_ne (by omega), sto_eq rfl rfl]
    have c1 : MB 43 1 = 1 := by rw [hMB, sto_ne (by omega), sto_ne (by omega), sto_eq rfl rfl]
    have c2 : MB 43 2 = 10 := by rw [hMB, sto_ne (by omega), sto_eq rfl rfl]
    have c3 : MB 43 3 = 0 := by rw [hMB, sto_eq rfl rfl]
    have hb : RB MB (tpM M) (M 63 5) := ⟨b0, b1, a2, a3, fun i i0 i1 => by
      have := a4 i i0 i1
      exact ⟨by rw [fB _ _ (by decide) (by decide)]; exact this.1, this.2⟩⟩
    have hd : CD MB MB 0 d0 := ⟨fun _ _ _ _ _ _ => rfl, b2, b3, by rw [c0]; rfl, c1, c2, c3, Int.le_refl 0, fun i i0 i1 => by have i1 : i < 0 := i1; omega⟩
    obtain ⟨F, hF⟩ : ∃ F, F = pRun (tpM M) (M 63 5) 10 0 d0 [] := ⟨_, rfl⟩
    have hpr := pRun_ok (tp := tpM M) (e := M 63 5) (n := 10) (p := 0) (D := d0) (l := []) a2 d0_ok d0_ev Rg.nil (Int.le_refl 0)
    rw [← hF] at hpr
    refine Ret.m (c_read hb b4 hd d0_ok rfl hF) ?_
    rintro ⟨v, M2⟩ ⟨ry, rn⟩
    dsimp only at ry rn ⊢
    refine Ret.l ?_
    by_cases ok : F.1 = true
    · obtain ⟨r1, rc⟩ := ry ok
      obtain ⟨p1, p2, p3, p4, p5, p6⟩ := hpr ok
      obtain ⟨q1, q2, q3, q4, q5, q6, q7, q8⟩ := p2
      obtain ⟨y1, y2, y3, y4, y5, y6, y7, y8, y9⟩ := rc
      rw [r1]
      refine Ret.t (by rw [w32_id (by decide) (by decide)]; decide) ?_
      refine Ret.bb (s_stallCopy (t := 3) (f := 43) rfl rfl rfl rfl (by omega)) (fun M4 ⟨s1, s2, s3⟩ => Ret.l (Ret.s ?_))
      have fx : ∀ a b, a ≠ 43 → a ≠ 44 → a ≠ 45 → a ≠ 46 → sto M2 1 1 0 a b = (if a = 1 ∧ b = 1 then 0 else M a b) := fun a b w1 w2 w3 w4 => by
        by_cases q : a = 1 ∧ b = 1
        · rw [if_pos q, sto_eq q.1 q.2]
        · rw [if_neg q, sto_ne q, y1 a b w1 w2 w3 (by omega)]; exact fB a b w4 w1
      have f4 : ∀ a b, a ≠ 43 → a ≠ 44 → a ≠ 45 → a ≠ 46 → ¬ (3 ≤ a ∧ a ≤ 5) → M4 a b = (if a = 1 ∧ b = 1 then 0 else M a b) := fun a b w1 w2 w3 w4 w5 => by rw [s1 a b (by omega)]; exact fx a b w1 w2 w3 w4
      have e13 : M4 1 3 = M 63 2 := by rw [f4 1 3 (by decide) (by decide) (by decide) (by decide) (by omega), if_neg (by omega)]; exact n1
      rw [e13]
      have f5 : ∀ a b, a ≠ 43 → a ≠ 44 → a ≠ 45 → a ≠ 46 → ¬ (3 ≤ a ∧ a ≤ 5) → ¬ (a = 1 ∧ (b = 1 ∨ b = 3)) → sto M4 1 3 (M 63 2 + 1) a b = M a b := fun a b w1 w2 w3 w4 w5 w6 => by rw [sto_ne (by omega), f4 a b w1 w2 w3 w4 w5, if_neg (by omega)]
      have g11 : sto M4 1 3 (M 63 2 + 1) 1 1 = 0 := by rw [sto_ne (by omega), f4 1 1 (by decide) (by decide) (by decide) (by decide) (by omega), if_pos ⟨rfl, rfl⟩]
      have g13 : sto M4 1 3 (M 63 2 + 1) 1 3 = M 63 2 + 1 := sto_eq rfl rfl
      have g3 : ∀ j, 0 ≤ j → j < 4 → sto M4 1 3 (M 63 2 + 1) 3 j = M2 43 j := fun j j0 j1 => by rw [sto_ne (by omega), s2 j j0 j1, sto_ne (by omega)]
      have g45 : ∀ i, 0 ≤ i → i < 10 → sto M4 1 3 (M 63 2 + 1) 4 i = M2 44 i ∧ sto M4 1 3 (M 63 2 + 1) 5 i = M2 45 i := fun i i0 i1 => by
        obtain ⟨w1, w2⟩ := s3 i i0 i1
        have w1 : M4 4 i = sto M2 1 1 0 44 i := w1
        have w2 : M4 5 i = sto M2 1 1 0 45 i := w2
        rw [sto_ne (by omega), sto_ne (by omega), w1, w2, sto_ne (by omega), sto_ne (by omega)]
        exact ⟨rfl, rfl⟩
      generalize sto M4 1 3 (M 63 2 + 1) = MC at f5 g11 g13 g3 g45 ⊢
      dsimp only
      rw [g13]
      refine Ret.m (r_stallQ h (fun b => f5 63 b (by decide) (by decide) (by decide) (by decide) (by omega) (by omega)) c5) ?_
      rintro ⟨u, MD⟩ ⟨qy, -⟩
      rw [← hF] at qy
      obtain ⟨u1, ux, u2, u5, u6, u232, u237, u242, u247, usl⟩ := qy ok
      dsimp only at u1 ux u2 u5 u6 u232 u237 u242 u247 usl ⊢
      refine ⟨by rw [u1]; congr 1; omega, ?_⟩
      have gg : ∀ a b, a ≠ 43 → a ≠ 44 → a ≠ 45 → a ≠ 46 → ¬ (3 ≤ a ∧ a ≤ 5) → ¬ (a = 1 ∧ (b = 1 ∨ b = 3)) → ¬ (a = 62 ∧ 4 ≤ b ∧ b ≤ 8) → ¬ (a = 63 ∧ (b = 2 ∨ b = 5 ∨ b = 6 ∨ b = 232 + M 63 2 ∨ b = 237 + M 63 2 ∨ b = 242 + M 63 2 ∨ b = 247 + M 63 2 ∨ (252 + 140 * M 63 2 ≤ b ∧ b < 392 + 140 * M 63 2))) → MD a b = M a b := fun a b w1 w2 w3 w4 w5 w6 w7 w8 => by rw [ux a b w7 w8]; exact f5 a b w1 w2 w3 w4 w5 w6
      have G : ∀ a b, (a ≤ 2 ∨ (6 ≤ a ∧ a ≤ 42) ∨ a = 53 ∨ a = 60 ∨ a = 61 ∨ a = 62 ∨ a = 63 ∨ a = 64 ∨ a = 71) → ¬ (a = 1 ∧ (b = 1 ∨ b = 3)) → ¬ (a = 62 ∧ 4 ≤ b ∧ b ≤ 8) → ¬ (a = 63 ∧ (b = 2 ∨ b = 5 ∨ b = 6 ∨ b = 232 + M 63 2 ∨ b = 237 + M 63 2 ∨ b = 242 + M 63 2 ∨ b = 247 + M 63 2 ∨ (252 + 140 * M 63 2 ≤ b ∧ b < 392 + 140 * M 63 2))) → MD a b = M a b := fun a b w0 w6 w7 w8 => gg a b (by omega) (by omega) (by omega) (by omega) (by omega) w6 w7 w8
      have M3j : ∀ j, 0 ≤ j → j < 4 → MD 3 j = M2 43 j := fun j j0 j1 => by rw [ux 3 j (by omega) (by omega)]; exact g3 j j0 j1
      have M45 : ∀ i, 0 ≤ i → i < 10 → MD 4 i = M2 44 i ∧ MD 5 i = M2 45 i := fun i i0 i1 => by rw [ux 4 i (by omega) (by omega), ux 5 i (by omega) (by omega)]; exact g45 i i0 i1
      have D11 : MD 1 1 = 0 := by rw [ux 1 1 (by omega) (by omega)]; exact g11
      have D13 : MD 1 3 = M 63 2 + 1 := by rw [ux 1 3 (by omega) (by omega)]; exact g13
      refine h.rest ⟨?_, ?_, ?_, ?_, ?_, ?_, ?_⟩ (G _ _ (by omega) (by omega) (by omega) (by omega)) (fun a b w1 w2 => G _ _ (by omega) (by omega) (by omega) (by omega)) (fun b => G _ _ (by omega) (by omega) (by omega) (by omega)) (fun a b w => G _ _ (by omega) (by omega) (by omega) (by omega)) (fun b w => G _ _ (by omega) (by omega) (by omega) (by omega)) (G _ _ (by omega) (by omega) (by omega) (by omega)) (G _ _ (by omega) (by omega) (by omega) (by omega))
      · exact ⟨by rw [D11, u5], by rw [u5]; decide, by rw [u5]; decide, fun i i0 i1 => by rw [u5] at i1; omega⟩
      · refine ⟨by rw [D13, u2], by rw [u2]; omega, by rw [u2]; omega, ?_, ?_, ?_, ?_⟩
        · rw [G 1 4 (by omega) (by omega) (by omega) (by omega), G 63 7 (by omega) (by omega) (by omega) (by omega)]; exact n4
        · rw [G 63 7 (by omega) (by omega) (by omega) (by omega)]; exact n5
        · rw [G 63 7 (by omega) (by omega) (by omega) (by omega)]; exact n6
        · rw [G 63 8 (by omega) (by omega) (by omega) (by omega)]; exact n7
      · exact t3.fr (G _ _ (by omega) (by omega) (by omega) (by omega)) (G _ _ (by omega) (by omega) (by omega) (by omega)) (G _ _ (by omega) (by omega) (by omega) (by omega)) (fun i _ _ => G _ _ (by omega) (by omega) (by omega) (by omega))
      · exact t4.fr (G _ _ (by omega) (by omega) (by omega) (by omega)) (G _ _ (by omega) (by omega) (by omega) (by omega)) (fun r _ _ j _ _ => G _ _ (by omega) (by omega) (by omega) (by omega)) (fun i _ _ => G _ _ (by omega) (by omega) (by omega) (by omega)) (fun i _ _ => G _ _ (by omega) (by omega) (by omega) (by omega))
      · exact t5.fr (G _ _ (by omega) (by omega) (by omega) (by omega)) (G _ _ (by omega) (by omega) (by omega) (by omega)) (G _ _ (by omega) (by omega) (by omega) (by omega)) (fun i _ _ => G _ _ (by omega) (by omega) (by omega) (by omega))
      · exact t6.fr (G _ _ (by omega) (by omega) (by omega) (by omega)) (G _ _ (by omega) (by omega) (by omega) (by omega)) (fun p _ _ => ⟨G _ _ (by omega) (by omega) (by omega) (by omega), G _ _ (by omega) (by omega) (by omega) (by omega), G _ _ (by omega) (by omega) (by omega) (by omega), G _ _ (by omega) (by omega) (by omega) (by omega)⟩) (fun i _ _ => G _ _ (by omega) (by omega) (by omega) (by omega))
      · refine Or.inr ?_
        have k10 : F.2.2.1.2.2.2.1 ≤ 10 := p3
        have m30 := M3j 0 (by decide) (by decide)
        have m31 := M3j 1 (by decide) (by decide)
        have m32 := M3j 2 (by decide) (by decide)
        have m33 := M3j 3 (by decide) (by decide)
        rw [y4] at m30
        rw [y5] at m31
        rw [y6] at m32
        rw [y7] at m33
        have e32 : (1 : Int) + 2 = 3 := by decide
        rw [e32, u6, u2, m30, m31, m32, m33, u232, u237, u242, u247]
        refine ⟨n2, by omega, ?_, q1, q2, rfl, q3, q4, rfl, q5, q6, q7, k10, fun i i0 i1 => ?_, by omega, by omega, fun i i0 i1 => ?_, fun sg dy w0 w1 w2 w3 => ?_⟩
        · by_cases c : F.2.2.1.1 ≤ 2
          · rw [if_pos c, if_neg (by omega)]
          · rw [if_neg c, if_pos (by omega)]
        · have := (M45 i i0 (by omega)).1
          show 0 ≤ MD 4 i ∧ MD 4 i ≤ 99
          rw [this, (y9 i i0 i1).1]
          exact q8 i i0 i1
        · have hst := SL.to_step (M := MD) (fr := 252 + 140 * M 63 2) (l := F.2.2.2) (j := 0) (by rw [show 252 + 140 * M 63 2 + ((0 : Nat) : Int) = 252 + 140 * M 63 2 by omega]; exact usl)
          have hm : MD 63 (252 + 140 * M 63 2 + i) ∈ F.2.2.2 := by
            rw [← hst]
            unfold stepT
            refine List.mem_map.mpr ⟨i.toNat, List.mem_range'_1.mpr ⟨by omega, by omega⟩, ?_⟩
            rw [Int.toNat_of_nonneg i0]
          have := p5 _ hm
          omega
        · have hst := SL.to_step (M := MD) (fr := 252 + 140 * M 63 2) (l := F.2.2.2) (j := 0) (by rw [show 252 + 140 * M 63 2 + ((0 : Nat) : Int) = 252 + 140 * M 63 2 by omega]; exact usl)
          have hso : stepsOf MD 63 (M 63 2) = F.2.2.2 := by
            have e1 : stepsOf MD 63 (M 63 2) = stepT MD (252 + 140 * M 63 2) 0 (MD 63 (247 + M 63 2)).toNat := (stepT_of (fun i _ _ => rfl)).symm
            rw [e1, u247, Int.toNat_natCast, hst]
          have ev := p4 (if F.2.2.1.1 ≤ 2 then 2 else 3) sg dy [] 1
          rw [List.append_nil] at ev
          rw [hso, ev]
          have hl := load_hS (M := MD) (H := 3) (g := if F.2.2.1.1 ≤ 2 then 2 else 3) (sg := sg) (dy := dy) (ld := F.2.2.1.2.2.2.2.1) (tv := F.2.2.1.2.2.2.2.2) (by split <;> omega) (by split <;> omega) w0 w1 w2 w3 (n := F.2.2.1.2.2.2.1.toNat) (fun i i0 i1 => by
            obtain ⟨v1, v2⟩ := M45 i i0 (by omega)
            obtain ⟨v3, v4⟩ := y9 i i0 (by omega)
            show MD 4 i = _ ∧ MaskOf (MD 5 i) _
            rw [v1, v2]
            exact ⟨v3, v4⟩)
          rw [hl]
          rfl
    · have ok2 : F.1 = false := by simpa using ok
      obtain ⟨r1, r2, r3, rf⟩ := rn ok2
      rw [w32_id (x := v) (by omega) (by omega)]
      refine Ret.f (by omega) (Ret.s ?_)
      have f5 : ∀ a b, a ≠ 43 → a ≠ 44 → a ≠ 45 → a ≠ 46 → ¬ (a = 1 ∧ b = 1) → sto M2 1 1 0 a b = M a b := fun a b w1 w2 w3 w4 w6 => by rw [sto_ne w6, rf a b w1 w2 w3 (by omega)]; exact fB a b w4 w1
      have g11 : sto M2 1 1 0 1 1 = 0 := sto_eq rfl rfl
      generalize sto M2 1 1 0 = MC at f5 g11 ⊢
      dsimp only
      refine Ret.m (r_stallQ h (fun b => f5 63 b (by decide) (by decide) (by decide) (by decide) (by omega)) c5) ?_
      rintro ⟨u, MD⟩ ⟨-, qn⟩
      rw [← hF] at qn
      obtain ⟨u1, ux, u2, u5, u6⟩ := qn ok2
      dsimp only at u1 ux u2 u5 u6 ⊢
      refine ⟨by rw [u1, r1], ?_⟩
      have G : ∀ a b, (a ≤ 42 ∨ a = 53 ∨ a = 60 ∨ a = 61 ∨ a = 62 ∨ a = 63 ∨ a = 64 ∨ a = 71) → ¬ (a = 1 ∧ b = 1) → ¬ (a = 62 ∧ 4 ≤ b ∧ b ≤ 8) → ¬ (a = 63 ∧ (b = 5 ∨ b = 232 + M 63 2 ∨ b = 237 + M 63 2 ∨ b = 242 + M 63 2 ∨ b = 247 + M 63 2 ∨ (252 + 140 * M 63 2 ≤ b ∧ b < 392 + 140 * M 63 2))) → MD a b = M a b := fun a b w0 w6 w7 w8 => by
        by_cases q2 : a = 63 ∧ b = 2
        · rw [q2.1, q2.2]; exact u2
        · by_cases q6 : a = 63 ∧ b = 6
          · rw [q6.1, q6.2]; exact u6
          · rw [ux a b w7 (by omega)]
            exact f5 a b (by omega) (by omega) (by omega) (by omega) w6
      have D11 : MD 1 1 = 0 := by rw [ux 1 1 (by omega) (by omega)]; exact g11
      refine h.rest ⟨?_, ?_, ?_, ?_, ?_, ?_, ?_⟩ (G _ _ (by omega) (by omega) (by omega) (by omega)) (fun a b w1 w2 => G _ _ (by omega) (by omega) (by omega) (by omega)) (fun b => G _ _ (by omega) (by omega) (by omega) (by omega)) (fun a b w => G _ _ (by omega) (by omega) (by omega) (by omega)) (fun b w => G _ _ (by omega) (by omega) (by omega) (by omega)) (G _ _ (by omega) (by omega) (by omega) (by omega)) (G _ _ (by omega) (by omega) (by omega) (by omega))
      · exact ⟨by rw [D11, u5], by rw [u5]; decide, by rw [u5]; decide, fun i i0 i1 => by rw [u5] at i1; omega⟩
      · exact t2.fr (G _ _ (by omega) (by omega) (by omega) (by omega)) (G _ _ (by omega) (by omega) (by omega) (by omega)) (G _ _ (by omega) (by omega) (by omega) (by omega)) (G _ _ (by omega) (by omega) (by omega) (by omega)) (G _ _ (by omega) (by omega) (by omega) (by omega))
      · exact t3.fr (G _ _ (by omega) (by omega) (by omega) (by omega)) (G _ _ (by omega) (by omega) (by omega) (by omega)) (G _ _ (by omega) (by omega) (by omega) (by omega)) (fun i _ _ => G _ _ (by omega) (by omega) (by omega) (by omega))
      · exact t4.fr (G _ _ (by omega) (by omega) (by omega) (by omega)) (G _ _ (by omega) (by omega) (by omega) (by omega)) (fun r _ _ j _ _ => G _ _ (by omega) (by omega) (by omega) (by omega)) (fun i _ _ => G _ _ (by omega) (by omega) (by omega) (by omega)) (fun i _ _ => G _ _ (by omega) (by omega) (by omega) (by omega))
      · exact t5.fr (G _ _ (by omega) (by omega) (by omega) (by omega)) (G _ _ (by omega) (by omega) (by omega) (by omega)) (G _ _ (by omega) (by omega) (by omega) (by omega)) (fun i _ _ => G _ _ (by omega) (by omega) (by omega) (by omega))
      · exact t6.fr (G _ _ (by omega) (by omega) (by omega) (by omega)) (G _ _ (by omega) (by omega) (by omega) (by omega)) (fun p _ _ => ⟨G _ _ (by omega) (by omega) (by omega) (by omega), G _ _ (by omega) (by omega) (by omega) (by omega), G _ _ (by omega) (by omega) (by omega) (by omega), G _ _ (by omega) (by omega) (by omega) (by omega)⟩) (fun i _ _ => G _ _ (by omega) (by omega) (by omega) (by omega))
      · exact t7.fr2 (fun j _ _ => G _ _ (by omega) (by omega) (by omega) (by omega)) (fun i _ _ => ⟨G _ _ (by omega) (by omega) (by omega) (by omega), G _ _ (by omega) (by omega) (by omega) (by omega)⟩) (G _ _ (by omega) (by omega) (by omega) (by omega)) (by rw [G 63 2 (by omega) (by omega) (by omega) (by omega)]; exact Int.le_refl _) (fun i w1 w2 w3 => G _ _ (by omega) (by omega) (by omega) (by omega))
  · unfold f_X10_stall
    dsimp +instances only
    rw [jp_62_1, z2 _ n2 (by omega)]
    exact Ret.t (by omega) (Ret.s ⟨rfl, h⟩)
