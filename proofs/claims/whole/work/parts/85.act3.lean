theorem k_act {M : jM} (h : jInv M) {p a x : Int} (n0 : -2147483648 ≤ p) (n1 : p < 2147483648) (a0 : -2147483648 ≤ a) (a1 : a < 2147483648) : Ret (f_X9_act M 0 p a x) (fun s => Ret (f_X10_act s.2 62 p a x) (fun b => w32 s.1 = w32 b.1 ∧ jInv b.2)) := by
  -- what stays, and what it comes to
  have fin : ∀ M' l, (∀ s t, ¬ (s = 60 ∧ (t = 1 ∨ t = 2 ∨ t = 3 ∨ t = 4)) → s ≠ 61 → ¬ (s = 62 ∧ (t = 19 ∨ t = 20 ∨ t = 21 ∨ t = 22)) → s ≠ 71 → M' s t = M s t) → l.length ≤ 8 → M' 60 1 = (l.length : Int) → M' 62 19 = (l.length : Int) → TL 61 M' l → TL 71 M' l → jInv M' := by
    intro M' l e hl e1 e2 t1 t2
    obtain ⟨hn, hh, hi, -, hp⟩ := h
    refine ⟨hn.fr (fun s t _ _ => e _ _ (by omega) (by omega) (by omega) (by omega)) (fun b _ _ _ => e _ _ (by omega) (by decide) (by omega) (by decide)), by rw [e _ _ (by omega) (by decide) (by omega) (by decide), e _ _ (by omega) (by decide) (by omega) (by decide)]; exact hh, ?_, ⟨by rw [e1, e2], by rw [e1]; omega, by rw [e1]; omega, fun i i0 i1 i2 => t1.same t2 i i0 (by omega) i2⟩, ?_⟩
    · rw [e 0 2 (by omega) (by decide) (by omega) (by decide)]
      exact hi.imp id (fun ⟨q1, q2⟩ => ⟨q1, q2.fr (fun s t _ _ => e _ _ (by omega) (by omega) (by omega) (by omega)) (fun b _ _ _ => e _ _ (by omega) (by decide) (by omega) (by decide))⟩)
    · unfold RPtrs at hp ⊢
      rw [e _ _ (by omega) (by decide) (by omega) (by decide), e _ _ (by omega) (by decide) (by omega) (by decide), e _ _ (by omega) (by decide) (by omega) (by decide), e _ _ (by omega) (by decide) (by omega) (by decide)]; exact hp
  unfold f_X9_act f_X0_forget f_X0_perform
  rw [jp_0_9, jp_0_0, jp_1_8, jp_1_9]
  refine Ret.b (Ret.l (Ret.s ?_))
  have f1 : ∀ s t, ¬ (s = 60 ∧ t = 1) → sto M 60 1 0 s t = M s t := fun s t q => sto_ne q
  have f2 : sto M 60 1 0 60 1 = 0 := sto_eq rfl rfl
  generalize sto M 60 1 0 = M1 at f1 f2 ⊢
  obtain ⟨q1, q2, q3, q4, q5⟩ := h.1.2.2.2.2.2.1
  have q1 : M 1 11 = M 63 1 := q1
  have hasP : f_X8_hasPlayer M1 1 p = some (if 0 ≤ p ∧ p < M 63 1 then 1 else 0) := by
    unfold f_X8_hasPlayer
    rw [w32_id n0 n1, f1 1 11 (by omega), q1, w32_id (x := M 63 1) (by omega) (by omega)]
    by_cases h1 : p < 0
    · rw [if_pos h1, if_neg (by omega)]
    · rw [if_neg h1]
      by_cases h2 : M 63 1 ≤ p
      · rw [if_pos h2, if_neg (by omega)]
      · rw [if_neg h2, if_pos (by omega)]
  rw [hasP, w32_id a0 a1, w32_id n0 n1]
  -- refused
  have no : ¬ ((0 ≤ p ∧ p < M 63 1) ∧ 0 ≤ a ∧ a ≤ 2) → Ret (f_X10_act M1 62 p a x) (fun b => w32 0 = w32 b.1 ∧ jInv b.2) := by
    intro hn
    unfold f_X10_act
    refine Ret.l ?_
    have g1 : ∀ s t, ¬ (s = 62 ∧ t = 19) → sto M1 62 19 0 s t = M1 s t := fun s t q => sto_ne q
    have g2 : sto M1 62 19 0 62 19 = 0 := sto_eq rfl rfl
    generalize sto M1 62 19 0 = M2 at g1 g2 ⊢
    have isP : f_X10_isPlayer M2 62 p = some (if 0 ≤ p ∧ p < M 63 1 then 1 else 0) := by
      have e : M2 63 1 = M 63 1 := by rw [g1 _ _ (by omega), f1 _ _ (by omega)]
      have k := r_isPlayer (M := M2) (p := p) (by omega) (by omega) n0 n1
      rw [e] at k
      exact k
    rw [isP, r_in M2 a0 a1 (by decide) (by decide) (by decide) (by decide)]
    have hi : jInv M2 := fin M2 [] (fun s t z1 z2 z3 z4 => by rw [g1 s t (by omega), f1 s t (by omega)]) (by decide) (by rw [g1 _ _ (by omega), f2]; rfl) (by rw [g2]; rfl) trivial trivial
    by_cases c : 0 ≤ p ∧ p < M 63 1
    · rw [if_pos c, if_neg (fun z => hn ⟨c, z⟩)]
      exact Ret.b ⟨1, rfl, Ret.f w32_1n (Ret.b ⟨0, rfl, Ret.t w32_0 (Ret.s ⟨rfl, hi⟩)⟩)⟩
    · rw [if_neg c]
      exact Ret.b ⟨0, rfl, Ret.t w32_0 (Ret.s ⟨rfl, hi⟩)⟩
  by_cases c : 0 ≤ p ∧ p < M 63 1
  · rw [if_pos c]
    refine Ret.b ⟨1, rfl, Ret.f w32_1n (Ret.i (fun ca => Ret.s (no (by omega))) (fun ca => Ret.i (fun ca2 => ?_) (fun ca2 => Ret.s (no (by omega)))))⟩
    obtain ⟨w4, k1, k2, k3, v1, v2, v3, -, -⟩ := h.pl c.1 c.2
    refine Ret.b (Ret.b ⟨1, rfl, Ret.f w32_1n (Ret.g ⟨c.1, by omega⟩ (Ret.l (Ret.g ⟨c.1, by omega⟩ (Ret.l (Ret.l ?_)))))⟩)
    rw [f1 14 p (by omega), k1]
    have e15 : sto M1 60 2 (M 63 (96 + p)) 15 p = M 63 (100 + p) := by rw [sto_ne (by omega), f1 _ _ (by omega), v1]
    rw [e15]
    have g1 : ∀ s t, ¬ (s = 60 ∧ (t = 2 ∨ t = 3 ∨ t = 4)) → sto (sto (sto M1 60 2 (M 63 (96 + p))) 60 3 (M 63 (100 + p))) 60 4 p s t = M1 s t := fun s t q => by rw [sto_ne (by omega), sto_ne (by omega), sto_ne (by omega)]
    have g2 : sto (sto (sto M1 60 2 (M 63 (96 + p))) 60 3 (M 63 (100 + p))) 60 4 p 60 2 = M 63 (96 + p) := by rw [sto_ne (by omega), sto_ne (by omega), sto_eq rfl rfl]
    have g3 : sto (sto (sto M1 60 2 (M 63 (96 + p))) 60 3 (M 63 (100 + p))) 60 4 p 60 3 = M 63 (100 + p) := by rw [sto_ne (by omega), sto_eq rfl rfl]
    have g4 : sto (sto (sto M1 60 2 (M 63 (96 + p))) 60 3 (M 63 (100 + p))) 60 4 p 60 4 = p := sto_eq rfl rfl
    generalize sto (sto (sto M1 60 2 (M 63 (96 + p))) 60 3 (M 63 (100 + p))) 60 4 p = M2 at g1 g2 g3 g4 ⊢
    obtain ⟨K, hK⟩ : ∃ K : Nat, M 63 (96 + p) = (K : Int) := ⟨(M 63 (96 + p)).toNat, by omega⟩
    rw [g2, hK]
    have e : AE M2 K p (M 63 (100 + p)) := ⟨by rw [g2, hK], g4, g3⟩
    have t0 : TC M2 M2 [] := ⟨fun _ _ _ _ => rfl, by rw [g1 _ _ (by omega), f2]; rfl, trivial⟩
    have bl := b_len (K := (K : Int))
    -- the reference from there
    have ref : ∀ M3 l v, TC M2 M3 l → l.length ≤ 8 → (∀ M4, RE M4 (K : Int) p (M 63 (100 + p)) → TR M4 M4 [] → Ret (if a = 0 then (f_X10_picksActs M4 62 x).bind fun r15 => some (r15.1, r15.2) else (if a = 1 then (f_X10_paysActs M4 62 x).bind fun r14 => some (r14.1, r14.2) else (f_X10_tellsActs M4 62 x).bind fun r13 => some (r13.1, r13.2))) (fun r => TR M4 r.2 l ∧ r.1 = v)) → Ret (f_X10_act M3 62 p a x) (fun b => w32 v = w32 b.1 ∧ jInv b.2) := by
      intro M3 l v hc hl hr
      obtain ⟨h1, h2, h3⟩ := hc
      unfold f_X10_act
      refine Ret.l ?_
      have x1 : ∀ s t, ¬ (s = 62 ∧ t = 19) → sto M3 62 19 0 s t = M3 s t := fun s t q => sto_ne q
      have x2 : sto M3 62 19 0 62 19 = 0 := sto_eq rfl rfl
      generalize sto M3 62 19 0 = M4 at x1 x2 ⊢
      have y63 : ∀ b, M4 63 b = M 63 b := fun b => by rw [x1 _ _ (by omega), h1 _ _ (by omega) (by decide), g1 _ _ (by omega), f1 _ _ (by omega)]
      have isP : f_X10_isPlayer M4 62 p = some (if 0 ≤ p ∧ p < M 63 1 then 1 else 0) := by
        have k := r_isPlayer (M := M4) (p := p) (by rw [y63]; omega) (by rw [y63]; omega) n0 n1
        rw [y63] at k
        exact k
      rw [isP, r_in M4 a0 a1 (by decide) (by decide) (by decide) (by decide), if_pos c, if_pos (show 0 ≤ a ∧ a ≤ 2 by omega), jp_62_1, y63, w32_id (x := 96 + p) (by omega) (by omega), w32_id (x := 100 + p) (by omega) (by omega), hK]
      refine Ret.b ⟨1, rfl, Ret.f w32_1n (Ret.b ⟨1, rfl, Ret.f w32_1n (Ret.g ⟨by omega, by omega⟩ (Ret.l (Ret.l (Ret.g ⟨by omega, by omega⟩ ?_))))⟩)⟩
      have y6 : sto (sto M4 62 20 (K : Int)) 62 21 p 63 (100 + p) = M 63 (100 + p) := by rw [sto_ne (by omega), sto_ne (by omega), y63]
      rw [y6]
      refine Ret.l ?_
      have z1 : ∀ s t, ¬ (s = 62 ∧ (t = 20 ∨ t = 21 ∨ t = 22)) → sto (sto (sto M4 62 20 (K : Int)) 62 21 p) 62 22 (M 63 (100 + p)) s t = M4 s t := fun s t q => by rw [sto_ne (by omega), sto_ne (by omega), sto_ne (by omega)]
      have z2 : sto (sto (sto M4 62 20 (K : Int)) 62 21 p) 62 22 (M 63 (100 + p)) 62 20 = (K : Int) := by rw [sto_ne (by omega), sto_ne (by omega), sto_eq rfl rfl]
      have z3 : sto (sto (sto M4 62 20 (K : Int)) 62 21 p) 62 22 (M 63 (100 + p)) 62 21 = p := by rw [sto_ne (by omega), sto_eq rfl rfl]
      have z4 : sto (sto (sto M4 62 20 (K : Int)) 62 21 p) 62 22 (M 63 (100 + p)) 62 22 = M 63 (100 + p) := sto_eq rfl rfl
      generalize sto (sto (sto M4 62 20 (K : Int)) 62 21 p) 62 22 (M 63 (100 + p)) = M5 at z1 z2 z3 z4 ⊢
      have rr := hr M5 ⟨z2, z3, z4, by omega, by omega⟩ ⟨fun _ _ _ _ => rfl, by rw [z1 _ _ (by omega), x2]; rfl, trivial⟩
      rw [w32_id a0 a1]
      refine Ret.m rr ?_
      rintro ⟨y, M6⟩ ⟨⟨r1, r2, r3⟩, hy⟩
      dsimp only at r1 r2 r3 hy ⊢
      refine ⟨by rw [hy], fin M6 l (fun s t w1 w2 w3 w4 => by rw [r1 s t (by omega) w4, z1 s t (by omega), x1 s t (by omega), h1 s t (by omega) w2, g1 s t (by omega), f1 s t (by omega)]) hl ?_ r2 ?_ r3⟩
      · rw [r1 _ _ (by omega) (by decide), z1 _ _ (by omega), x1 _ _ (by omega)]; exact h2
      · exact h3.fr (fun i _ _ => by rw [r1 _ _ (by omega) (by decide), z1 _ _ (by omega), x1 _ _ (by omega)])
    have ha : a = 0 ∨ a = 1 ∨ a = 2 := by omega
    rcases ha with rfl | rfl | rfl
    · refine Ret.bb (c_PA (d := 38) (x := x) e (by omega) (Int.le_refl 0) (by decide) t0 (by decide)) (fun r hr => Ret.s (Ret.s ?_))
      rw [List.append_nil] at hr
      dsimp only
      rw [hr.2]
      refine ref _ _ _ hr.1 (by omega) (fun M4 re tr => Ret.t rfl (Ret.bb (rr_PA (x := x) re tr (by decide)) (fun s hs => Ret.s ?_)))
      rw [List.append_nil] at hs
      exact hs
    · refine Ret.bb (c_YA (d := 36) (x := x) e (by omega) (Int.le_refl 0) (by decide) t0 (by decide)) (fun r hr => Ret.s (Ret.s ?_))
      rw [List.append_nil] at hr
      dsimp only
      rw [hr.2]
      refine ref _ _ _ hr.1 (by omega) (fun M4 re tr => Ret.f (by decide) (Ret.t rfl (Ret.bb (rr_YA (x := x) re tr (by decide)) (fun s hs => Ret.s ?_))))
      rw [List.append_nil] at hs
      exact hs
    · refine Ret.bb (c_TA (d := 34) (x := x) e (by omega) (Int.le_refl 0) (by decide) t0 (by decide)) (fun r hr => Ret.s (Ret.s ?_))
      rw [List.append_nil] at hr
      dsimp only
      rw [hr.2]
      refine ref _ _ _ hr.1 (by omega) (fun M4 re tr => Ret.f (by decide) (Ret.f (by decide) (Ret.bb (rr_TA (x := x) re tr (by decide)) (fun s hs => Ret.s ?_))))
      rw [List.append_nil] at hs
      exact hs
  · rw [if_neg c]
    exact Ret.b ⟨0, rfl, Ret.t w32_0 (Ret.s (no (fun z => c z.1)))⟩
