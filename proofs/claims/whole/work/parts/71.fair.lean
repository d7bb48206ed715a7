/-! fair: nine weights one after the other -/
noncomputable def fPro (M : jM) (a b o : Int) : Int := proW (wO M o) (aO M o) (rowd M a) (rowz M a) (rowd M b) (rowz M b)
noncomputable def fOff (M : jM) (a b o : Int) : Int := if fPro M a b o < fPro M b a o then fPro M b a o - fPro M a b o else fPro M a b o - fPro M b a o
noncomputable def fBoth (M : jM) (a b o : Int) : Int := fPro M a b o + fPro M b a o
/-- the best weight of the first k, how far it is off, of what -/
noncomputable def fairS (M : jM) (a b : Int) : Nat → Int × Int × Int
  | 0 => (0, 0, 1)
  | k + 1 => if (fairS M a b k).1 = 0 ∨ fOff M a b ((k : Int) + 1) * (fairS M a b k).2.2 < (fairS M a b k).2.1 * fBoth M a b ((k : Int) + 1) then ((k : Int) + 1, fOff M a b ((k : Int) + 1), fBoth M a b ((k : Int) + 1)) else fairS M a b k
theorem fOff_rng {M : jM} (h : jInv M) {a b o : Int} (hm : Meet M a b) (o0 : 0 ≤ o) (o1 : o ≤ 9) : 0 ≤ fOff M a b o ∧ fOff M a b o ≤ 800000000000000 ∧ 0 < fBoth M a b o ∧ fBoth M a b o ≤ 800000000000000 ∧ 0 < fPro M a b o ∧ fPro M a b o ≤ 400000000000000 ∧ 0 < fPro M b a o ∧ fPro M b a o ≤ 400000000000000 := by
  obtain ⟨z1, z2, z3, z4⟩ := hm.pos h (wO_wb h o0 o1)
  have e1 : fPro M a b o = proW (wO M o) (aO M o) (rowd M a) (rowz M a) (rowd M b) (rowz M b) := rfl
  have e2 : fPro M b a o = proW (wO M o) (aO M o) (rowd M b) (rowz M b) (rowd M a) (rowz M a) := rfl
  unfold fOff fBoth
  rw [e1, e2]
  split <;> omega
theorem fairS_rng {M : jM} (h : jInv M) {a b : Int} (hm : Meet M a b) : ∀ {k : Nat}, k ≤ 9 → 0 ≤ (fairS M a b k).1 ∧ (fairS M a b k).1 ≤ 9 ∧ 0 ≤ (fairS M a b k).2.1 ∧ (fairS M a b k).2.1 ≤ 800000000000000 ∧ 0 < (fairS M a b k).2.2 ∧ (fairS M a b k).2.2 ≤ 800000000000000
  | 0, _ => by unfold fairS; decide
  | k + 1, hk => by
    have ih := fairS_rng h hm (k := k) (by omega)
    have r := fOff_rng h hm (o := (k : Int) + 1) (by omega) (by omega)
    unfold fairS
    split
    · dsimp only; omega
    · exact ih
theorem s_fairest {M0 M : jM} (h : jInv M0) (f : Fr M0 M) (p : Pt M0 M) (w : SWt M (M0 3 0) (wOf M0) (aOf M0)) {a b : Int} (hm : Meet M0 a b) : Ret (f_X9_fairest M 0 (8 + a) (8 + b)) (fun x => Fr M0 x.2 ∧ Pt M0 x.2 ∧ x.1 = (fairS M0 a b 9).1) := by
  obtain ⟨g0, g1, -⟩ := h.st
  unfold f_X9_fairest
  refine Ret.bb (P := fun x : jM × Int => Fr M0 x.1 ∧ Pt M0 x.1 ∧ x.2 = (fairS M0 a b 9).1) ?_ (fun x hx => Ret.s hx)
  refine Ret.it (fun S : jM × Int × Int × Int × Int => Fr M0 S.1 ∧ Pt M0 S.1 ∧ 1 ≤ S.2.2.2.2 ∧ S.2.2.2.2 ≤ 10 ∧ (∃ o, 0 ≤ o ∧ o ≤ 9 ∧ SWt S.1 (M0 3 0) (wO M0 o) (aO M0 o)) ∧ (S.2.1, S.2.2.1, S.2.2.2.1) = fairS M0 a b (S.2.2.2.2 - 1).toNat) (fun S => (10 - S.2.2.2.2).toNat) ?_ 5000 (M, 0, 0, 1, 1) ⟨f, p, by show (1 : Int) ≤ 1; decide, by show (1 : Int) ≤ 10; decide, ⟨0, by decide, by decide, by rw [wO_0, aO_0]; exact w⟩, rfl⟩ (by show (10 - 1 : Int).toNat < 5000; decide)
  rintro ⟨M1, le, off, bo, k⟩ ⟨f1, p1, k0, k1, ⟨o, o0, o1, w1⟩, hs⟩
  dsimp only at f1 p1 k0 k1 w1 hs
  have hrng := fairS_rng h hm (k := (k - 1).toNat) (by omega)
  have hk1 : (k - 1).toNat + 1 = (k + 1 - 1).toNat := by omega
  have hk2 : (((k - 1).toNat : Nat) : Int) + 1 = k := by omega
  have hst : fairS M0 a b (k + 1 - 1).toNat = if (fairS M0 a b (k - 1).toNat).1 = 0 ∨ fOff M0 a b k * (fairS M0 a b (k - 1).toNat).2.2 < (fairS M0 a b (k - 1).toNat).2.1 * fBoth M0 a b k then (k, fOff M0 a b k, fBoth M0 a b k) else fairS M0 a b (k - 1).toNat := by
    rw [← hk1]
    show (if _ ∨ fOff M0 a b ((((k - 1).toNat : Nat) : Int) + 1) * _ < _ * fBoth M0 a b ((((k - 1).toNat : Nat) : Int) + 1) then (((((k - 1).toNat : Nat) : Int) + 1), fOff M0 a b ((((k - 1).toNat : Nat) : Int) + 1), fBoth M0 a b ((((k - 1).toNat : Nat) : Int) + 1)) else _) = _
    rw [hk2]
  rw [← hs] at hrng hst
  dsimp only at hrng hst
  unfold f_X9_fairest_L11 f_X9_fairest_83 f_X9_fairest_99
  dsimp +instances only
  rw [w32_id (x := k) (by omega) (by omega), w32_id (x := le) (by omega) (by omega), jp_0_5, jp_0_6]
  refine Ret.i (fun c => Rr ⟨f1, p1, ?_⟩) (fun c => ?_)
  · have : k = 10 := by omega
    subst this
    have e : (fairS M0 a b 9).1 = le := by
      show (fairS M0 a b ((10 : Int) - 1).toNat).1 = le
      rw [← hs]
    exact e.symm
  · have r := fOff_rng h hm (o := k) (by omega) (by omega)
    -- the weight of sign 0 is set
    refine Ret.bb (P := fun M2 => (∀ x y, x ≠ 47 → x ≠ 48 → M2 x y = M1 x y) ∧ SWt M2 (M0 3 0) (wO M0 k) (aO M0 k)) ?_ ?_
    · unfold f_X6_putFirst
      rw [jp_47_2]
      refine Ret.l (Ret.l (Ret.s ⟨fun x y q1 q2 => by rw [sto_ne (by omega), sto_ne (by omega)], ?_, ?_, fun s s0 s1 => ?_⟩))
      · rw [sto_ne (by omega), sto_ne (by omega)]; exact w1.1
      · rw [sto_ne (by omega), sto_eq rfl rfl, w1.2.1, w1.2.2 0 (by decide) (by decide)]
        unfold aO
        have z1 : wO M0 o 1 = wO M0 k 1 := by unfold wO; rw [if_neg (by omega), if_neg (by omega)]
        have z2 : wO M0 o 2 = wO M0 k 2 := by unfold wO; rw [if_neg (by omega), if_neg (by omega)]
        have z0 : wO M0 k 0 = k := by unfold wO; rw [if_pos ⟨rfl, by omega⟩]
        rw [z1, z2, z0]
        omega
      · by_cases q : s = 0
        · rw [q, sto_eq rfl rfl]
          unfold wO
          rw [if_pos ⟨rfl, by omega⟩]
        · rw [sto_ne (by omega), sto_ne (by omega), w1.2.2 s s0 s1]
          unfold wO
          rw [if_neg (by omega), if_neg (by omega)]
    · intro M2 ⟨e2, w2⟩
      have f2 : Fr M0 M2 := f1.tr (fun x y kk => e2 x y (by unfold kp at kk; omega) (by unfold kp at kk; omega))
      have p2 : Pt M0 M2 := p1.tr ⟨e2 _ _ (by decide) (by decide), e2 _ _ (by decide) (by decide), e2 _ _ (by decide) (by decide), e2 _ _ (by decide) (by decide)⟩
      obtain ⟨la, la1, la2⟩ := h.rl f2 hm.1.1 hm.1.2
      obtain ⟨lb, lb1, lb2⟩ := h.rl f2 hm.2.1.1 hm.2.1.2
      refine Ret.bb (s_measure la lb w2 (wO_wb h (by omega) (by omega))) (fun M3 h3 => ?_)
      obtain ⟨e3, d0, d1, d2, d3⟩ := h3
      have f3 : Fr M0 M3 := f2.tr (fun x y kk => e3 x y (by unfold kp at kk; omega))
      have p3 : Pt M0 M3 := p2.tr ⟨e3 _ _ (by decide), e3 _ _ (by decide), e3 _ _ (by decide), e3 _ _ (by decide)⟩
      have w3 := w2.fr e3
      have d0 : M3 49 0 = fPro M0 a b k := d0
      have d1 : M3 49 1 = fPro M0 b a k := d1
      have d2 : M3 49 2 = fBoth M0 a b k := d2
      have eo : (if 0 < w64 (fPro M0 a b k - fPro M0 b a k) then fPro M0 a b k - fPro M0 b a k else -(fPro M0 a b k - fPro M0 b a k)) = fOff M0 a b k := by
        rw [w64_id (by omega) (by omega)]
        unfold fOff
        by_cases q : fPro M0 a b k < fPro M0 b a k
        · rw [if_pos q, if_neg (by omega)]; omega
        · rw [if_neg q]
          by_cases q2 : 0 < fPro M0 a b k - fPro M0 b a k
          · rw [if_pos q2]
          · rw [if_neg q2]; omega
      rw [d0, d1, d2, eo]
      have mu : (10 - (k + 1)).toNat < (10 - k).toNat := by omega
      have new : (le = 0 ∨ fOff M0 a b k * bo < off * fBoth M0 a b k) → (k, fOff M0 a b k, fBoth M0 a b k) = fairS M0 a b (k + 1 - 1).toNat := fun q => by rw [hst, if_pos q]
      have old : ¬ (le = 0 ∨ fOff M0 a b k * bo < off * fBoth M0 a b k) → (le, off, bo) = fairS M0 a b (k + 1 - 1).toNat := fun q => by rw [hst, if_neg q]
      refine Ret.i (fun c1 => Rl ⟨⟨f3, p3, by show 1 ≤ k + 1; omega, by show k + 1 ≤ 10; omega, ⟨k, by omega, by omega, w3⟩, new (Or.inl c1)⟩, mu⟩) (fun c1 => Ret.bb (s_compareI (by omega) (by omega) (by omega) (by omega) (by omega) (by omega) (by omega) (by omega)) (fun v hv => ?_))
      have v01 : v = 1 ∨ v = 0 ∨ v = -1 := by
        rcases hv with q | q | q
        · exact Or.inl q.1
        · exact Or.inr (Or.inl q.1)
        · exact Or.inr (Or.inr q.1)
      rw [w32_id (x := v) (by omega) (by omega)]
      refine Ret.i (fun c2 => Rl ⟨⟨f3, p3, by show 1 ≤ k + 1; omega, by show k + 1 ≤ 10; omega, ⟨k, by omega, by omega, w3⟩, old ?_⟩, mu⟩) (fun c2 => Rl ⟨⟨f3, p3, by show 1 ≤ k + 1; omega, by show k + 1 ≤ 10; omega, ⟨k, by omega, by omega, w3⟩, new ?_⟩, mu⟩)
      · rcases hv with q | q | q <;> omega
      · rcases hv with q | q | q <;> omega
theorem r_fairest {M0 M : jM} (h : jInv M0) (f : Fr M0 M) (p : Pt M0 M) {a b : Int} (hm : Meet M0 a b) : Ret (iter (f_X10_fair_L41 M 62 a b) 5000 (M, 0, 0, 1, 1)) (fun x => Fr8 M0 x.1 ∧ Pt M0 x.1 ∧ x.2 = (fairS M0 a b 9).1) := by
  obtain ⟨g0, g1, -⟩ := h.st
  refine Ret.it (fun S : jM × Int × Int × Int × Int => Fr8 M0 S.1 ∧ Pt M0 S.1 ∧ 1 ≤ S.2.2.2.2 ∧ S.2.2.2.2 ≤ 10 ∧ (S.2.1, S.2.2.1, S.2.2.2.1) = fairS M0 a b (S.2.2.2.2 - 1).toNat) (fun S => (10 - S.2.2.2.2).toNat) ?_ 5000 (M, 0, 0, 1, 1) ⟨f.f8, p, by show (1 : Int) ≤ 1; decide, by show (1 : Int) ≤ 10; decide, rfl⟩ (by show (10 - 1 : Int).toNat < 5000; decide)
  rintro ⟨M1, le, off, bo, k⟩ ⟨f1, p1, k0, k1, hs⟩
  dsimp only at f1 p1 k0 k1 hs
  have hrng := fairS_rng h hm (k := (k - 1).toNat) (by omega)
  have hk1 : (k - 1).toNat + 1 = (k + 1 - 1).toNat := by omega
  have hk2 : (((k - 1).toNat : Nat) : Int) + 1 = k := by omega
  have hst : fairS M0 a b (k + 1 - 1).toNat = if (fairS M0 a b (k - 1).toNat).1 = 0 ∨ fOff M0 a b k * (fairS M0 a b (k - 1).toNat).2.2 < (fairS M0 a b (k - 1).toNat).2.1 * fBoth M0 a b k then (k, fOff M0 a b k, fBoth M0 a b k) else fairS M0 a b (k - 1).toNat := by
    rw [← hk1]
    show (if _ ∨ fOff M0 a b ((((k - 1).toNat : Nat) : Int) + 1) * _ < _ * fBoth M0 a b ((((k - 1).toNat : Nat) : Int) + 1) then (((((k - 1).toNat : Nat) : Int) + 1), fOff M0 a b ((((k - 1).toNat : Nat) : Int) + 1), fBoth M0 a b ((((k - 1).toNat : Nat) : Int) + 1)) else _) = _
    rw [hk2]
  rw [← hs] at hrng hst
  dsimp only at hrng hst
  unfold f_X10_fair_L41 f_X10_fair_96 f_X10_fair_123 f_X10_fair_141
  dsimp +instances only
  rw [w32_id (x := k) (by omega) (by omega), w32_id (x := le) (by omega) (by omega), jp_62_1]
  refine Ret.i (fun c => Rr ⟨f1, p1, ?_⟩) (fun c => Ret.l ?_)
  · have : k = 10 := by omega
    subst this
    have e : (fairS M0 a b 9).1 = le := by
      show (fairS M0 a b ((10 : Int) - 1).toNat).1 = le
      rw [← hs]
    exact e.symm
  · have r := fOff_rng h hm (o := k) (by omega) (by omega)
    have f2 : Fr8 M0 (sto M1 63 8 k) := f1.sto (Or.inr ⟨rfl, rfl⟩)
    have p2 : Pt M0 (sto M1 63 8 k) := p1.sto (by omega) (by omega)
    have e2 : sto M1 63 8 k 63 8 = k := sto_eq rfl rfl
    generalize sto M1 63 8 k = M2 at f2 p2 e2 ⊢
    refine Ret.bb (r_odds h f2 e2 (by omega) (by omega) (h.rr8 f2 hm.1.1 hm.1.2) (h.rr8 f2 hm.2.1.1 hm.2.1.2) hm.2.2.1 hm.2.2.2.1) (fun M3 h3 => ?_)
    obtain ⟨e3, w3, d0, d1⟩ := h3
    have f3 := e3.f8 f2
    have p3 := e3.pt p2
    have d0 : M3 62 13 = fPro M0 a b k := d0
    have d1 : M3 62 14 = fPro M0 b a k := d1
    rw [d0, d1, w64_id (by omega) (by omega), w64_id (by omega) (by omega)]
    have mu : (10 - (k + 1)).toNat < (10 - k).toNat := by omega
    have new : (le = 0 ∨ fOff M0 a b k * bo < off * fBoth M0 a b k) → (k, fOff M0 a b k, fBoth M0 a b k) = fairS M0 a b (k + 1 - 1).toNat := fun q => by rw [hst, if_pos q]
    have old : ¬ (le = 0 ∨ fOff M0 a b k * bo < off * fBoth M0 a b k) → (le, off, bo) = fairS M0 a b (k + 1 - 1).toNat := fun q => by rw [hst, if_neg q]
    have fin : ∀ s, s = fOff M0 a b k → Ret (if le = 0 then (some (Sum.inl (M3, k, s, fPro M0 a b k + fPro M0 b a k, k + 1)) : Option ((jM × Int × Int × Int × Int) ⊕ (jM × Int))) else (f_X10_isLess M3 s (fPro M0 a b k + fPro M0 b a k) off bo).bind fun r12 => if w32 r12 = 0 then some (Sum.inl (M3, le, off, bo, k + 1)) else some (Sum.inl (M3, k, s, fPro M0 a b k + fPro M0 b a k, k + 1))) (fun r => (∀ t, r = .inl t → ((Fr8 M0 t.1 ∧ Pt M0 t.1 ∧ 1 ≤ t.2.2.2.2 ∧ t.2.2.2.2 ≤ 10 ∧ (t.2.1, t.2.2.1, t.2.2.2.1) = fairS M0 a b (t.2.2.2.2 - 1).toNat) ∧ (10 - t.2.2.2.2).toNat < (10 - k).toNat)) ∧ (∀ x, r = .inr x → Fr8 M0 x.1 ∧ Pt M0 x.1 ∧ x.2 = (fairS M0 a b 9).1)) := by
      intro s es
      rw [es]
      refine Ret.i (fun c1 => Rl ⟨⟨f3, p3, by show 1 ≤ k + 1; omega, by show k + 1 ≤ 10; omega, new (Or.inl c1)⟩, mu⟩) (fun c1 => ?_)
      have eb : fPro M0 a b k + fPro M0 b a k = fBoth M0 a b k := rfl
      rw [eb]
      refine Ret.bb (r_isLessI (by omega) (by omega) (by omega) (by omega) (by omega) (by omega) (by omega) (by omega)) (fun v hv => ?_)
      rw [w32_id (x := v) (by omega) (by omega)]
      exact Ret.i (fun c2 => Rl ⟨⟨f3, p3, by show 1 ≤ k + 1; omega, by show k + 1 ≤ 10; omega, old (by omega)⟩, mu⟩) (fun c2 => Rl ⟨⟨f3, p3, by show 1 ≤ k + 1; omega, by show k + 1 ≤ 10; omega, new (by omega)⟩, mu⟩)
    refine Ret.i (fun c3 => fin _ ?_) (fun c3 => fin _ ?_)
    · unfold fOff; rw [if_neg (by omega)]
    · unfold fOff; rw [if_pos (by omega)]
theorem k_fair {M : jM} (h : jInv M) {a b : Int} (a0 : -2147483648 ≤ a) (a1 : a < 2147483648) (b0 : -2147483648 ≤ b) (b1 : b < 2147483648) : Ret (f_X9_fair M 0 a b) (fun x => Ret (f_X10_fair x.2 62 a b) (fun y => w32 x.1 = w32 y.1 ∧ jInv y.2)) := by
  obtain ⟨g0, g1, -⟩ := h.st
  have rno1 : ∀ M', Fr M M' → Pt M M' → ¬ (isRw M a ∧ isRw M b) → Ret (f_X10_fair M' 62 a b) (fun y => w32 (-1) = w32 y.1 ∧ jInv y.2) := by
    intro M' f' p' hn
    unfold f_X10_fair
    rw [r_isRow' h f'.f8 a0 a1, r_isRow' h f'.f8 b0 b1]
    by_cases ra : isRw M a
    · rw [if_pos (show 0 ≤ a ∧ a < M 63 0 from ra), if_neg (show ¬ (0 ≤ b ∧ b < M 63 0) from fun z => hn ⟨ra, z⟩)]
      exact Ret.b ⟨1, rfl, Ret.f w32_1n (Ret.b ⟨0, rfl, Ret.t w32_0 (Ret.s ⟨rfl, h.fp f' p'⟩)⟩)⟩
    · rw [if_neg (show ¬ (0 ≤ a ∧ a < M 63 0) from ra)]
      exact Ret.b ⟨0, rfl, Ret.t w32_0 (Ret.s ⟨rfl, h.fp f' p'⟩)⟩
  have rno3 : ∀ M', Fr M M' → Pt M M' → isRw M a → isRw M b → ¬ Meet M a b → Ret (f_X10_fair M' 62 a b) (fun y => w32 (-3) = w32 y.1 ∧ jInv y.2) := by
    intro M' f' p' ra rb hn
    unfold f_X10_fair
    rw [r_isRow' h f'.f8 a0 a1, r_isRow' h f'.f8 b0 b1, if_pos (show 0 ≤ a ∧ a < M 63 0 from ra), if_pos (show 0 ≤ b ∧ b < M 63 0 from rb)]
    refine Ret.b ⟨1, rfl, Ret.f w32_1n (Ret.b ⟨1, rfl, Ret.f w32_1n (Ret.bb (r_canMeet h f'.f8 a0 a1 b0 b1) (fun v hv => ?_))⟩)⟩
    have : v = 0 := by
      rcases hv.1 with q | q
      · exact q
      · exact absurd (hv.2.mp q) hn
    subst this
    exact Ret.t w32_0 (Ret.s ⟨rfl, h.fp f' p'⟩)
  unfold f_X9_fair
  rw [jp_0_0, jp_0_5, s_rowAt' h Fr.rfl a0 a1, s_rowAt' h Fr.rfl b0 b1]
  refine Ret.b ⟨_, rfl, Ret.g (kd_if h) (Ret.b ⟨_, rfl, Ret.g (kd_if h) ?_⟩)⟩
  by_cases ra : isRw M a
  · rw [if_pos (show 0 ≤ a ∧ a < M 63 0 from ra)]
    have ra0 := ra.1
    refine Ret.f (by omega) ?_
    by_cases rb : isRw M b
    · rw [if_pos (show 0 ≤ b ∧ b < M 63 0 from rb)]
      have rb0 := rb.1
      refine Ret.f (by omega) ?_
      refine Ret.bb (s_weigh h Fr.rfl) (fun M1 h1 => ?_)
      obtain ⟨e1, w1⟩ := h1
      have f1 := e1.fr Fr.rfl
      have p1 := e1.pt Pt.rfl
      obtain ⟨la, la1, la2⟩ := h.rl f1 ra.1 ra.2
      obtain ⟨lb, lb1, lb2⟩ := h.rl f1 rb.1 rb.2
      refine Ret.bb (s_isLawful la w1.1 g0 g1) (fun v hv => ?_)
      rw [w32_id (x := v) (by omega) (by omega)]
      refine Ret.i (fun q => Ret.s (rno3 M1 f1 p1 ra rb (fun z => by have := hv.2.mpr z.2.2.1; omega))) (fun qa => ?_)
      refine Ret.bb (s_isLawful lb w1.1 g0 g1) (fun u hu => ?_)
      rw [w32_id (x := u) (by omega) (by omega)]
      refine Ret.i (fun q => Ret.s (rno3 M1 f1 p1 ra rb (fun z => by have := hu.2.mpr z.2.2.2.1; omega))) (fun qb => ?_)
      refine Ret.bb (s_isApart la lb la1 lb1) (fun t ht => ?_)
      rw [w32_id (x := t) (by omega) (by omega)]
      refine Ret.i (fun q => Ret.s (rno3 M1 f1 p1 ra rb (fun z => by have := ht.2.mpr z.2.2.2.2; omega))) (fun qc => ?_)
      have hm : Meet M a b := ⟨ra, rb, hv.2.mp (by omega), hu.2.mp (by omega), ht.2.mp (by omega)⟩
      refine Ret.bb (s_fairest h f1 p1 w1 hm) ?_
      rintro ⟨x, M2⟩ ⟨f2, p2, hx⟩
      dsimp only at f2 p2 hx ⊢
      refine Ret.s ?_
      dsimp only
      unfold f_X10_fair
      rw [r_isRow' h f2.f8 a0 a1, r_isRow' h f2.f8 b0 b1, if_pos (show 0 ≤ a ∧ a < M 63 0 from ra), if_pos (show 0 ≤ b ∧ b < M 63 0 from rb)]
      refine Ret.b ⟨1, rfl, Ret.f w32_1n (Ret.b ⟨1, rfl, Ret.f w32_1n (Ret.bb (r_canMeet h f2.f8 a0 a1 b0 b1) (fun v2 hv2 => ?_))⟩)⟩
      have e := hv2.2.mpr hm
      subst e
      refine Ret.f w32_1n (Ret.bb (r_fairest h f2 p2 hm) ?_)
      rintro ⟨M3, y⟩ ⟨f3, p3, hy⟩
      dsimp only at f3 p3 hy ⊢
      rw [jp_62_1]
      refine Ret.l (Ret.s ⟨by dsimp only; rw [hx, hy], ?_⟩)
      dsimp only
      refine h.fp (fun s t k => ?_) (p3.sto (by omega) (by omega))
      by_cases q : s = 63 ∧ t = 8
      · rw [sto_eq q.1 q.2, q.1, q.2]; exact (h.z8 Fr.rfl).symm
      · rw [sto_ne q]; exact f3 s t k q
    · rw [if_neg (show ¬ (0 ≤ b ∧ b < M 63 0) from rb)]
      exact Ret.t (by decide) (Ret.s (rno1 M Fr.rfl Pt.rfl (fun z => rb z.2)))
  · rw [if_neg (show ¬ (0 ≤ a ∧ a < M 63 0) from ra)]
    exact Ret.t (by decide) (Ret.s (rno1 M Fr.rfl Pt.rfl (fun z => ra z.1)))
