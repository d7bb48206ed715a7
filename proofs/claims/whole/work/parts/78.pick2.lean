theorem jInv.pl {M : jM} (h : jInv M) {p : Int} (p0 : 0 ≤ p) (p1 : p < M 63 1) : M 63 1 ≤ 4 ∧ M 14 p = M 63 (96 + p) ∧ 0 ≤ M 63 (96 + p) ∧ M 63 (96 + p) ≤ 6 ∧ M 15 p = M 63 (100 + p) ∧ 0 ≤ M 63 (100 + p) ∧ M 63 (100 + p) ≤ 9 ∧ Ln M (17 + p) (fun j => M 63 (104 + 6 * p + j)) (M 63 (128 + p)) ∧ M 63 (128 + p) ≤ 6 := by
  obtain ⟨q1, q2, q3, q4, q5⟩ := h.1.2.2.2.2.2.1
  obtain ⟨g1, g2, g3, g4, g5, g6, g7, g8⟩ := q4 p p0 p1
  have e : (1 : Int) + 16 + p = 17 + p := by omega
  rw [e] at g7
  exact ⟨q3, g1, g2, g3, g4, g5, g6, g7, g8⟩
theorem LawD.agr {M : jM} (h : jInv M) {r : Int} (hr : isRw M r) (hl : LawD (M 3 0) (rowd M r) (rowz M r)) : AgR (M 3 0) (rowd M r) (rowz M r) := ⟨(rowz_rng h hr).1, (rowz_rng h hr).2, hl, rowd_rng h hr⟩
set_option maxHeartbeats 1000000 in
theorem s_pickedBy {M0 M : jM} (h : jInv M0) (f : Fr M0 M) (w : SWt M (M0 3 0) (wOf M0) (aOf M0)) {p r : Int} (p0 : 0 ≤ p) (p1 : p < M0 63 1) (hr : isRw M0 r) (hl : LawD (M0 3 0) (rowd M0 r) (rowz M0 r)) : Ret (f_X9_pickedBy M 0 p (8 + r)) (fun x => ExC M x.2 ∧ 0 ≤ x.1 ∧ jkd x.1 = (3, 0) ∧ Ln x.2 x.1 (pickD M0 p r) (pickZ M0 p r)) := by
  obtain ⟨g0, g1, -⟩ := h.st
  obtain ⟨q4, k1, k2, k3, v1, v2, v3, o1, o2⟩ := h.pl p0 p1
  have hq := h.1.2.2.2.1.2.2.1
  have hr0 := hr.1
  have hr1 : r < M0 63 0 := hr.2
  obtain ⟨la, la1, la2⟩ := h.rl f hr.1 hr.2
  have hR := LawD.agr h hr hl
  have eN : (w32 (M0 63 (100 + p))).tmod (w32 4) + 1 = pickN M0 p := by
    rw [w32_n4, w32_id (by omega) (by omega), Int.tmod_eq_emod_of_nonneg v2]
    rfl
  have n0 : 1 ≤ pickN M0 p := by unfold pickN; omega
  have n1 : pickN M0 p ≤ 4 := by unfold pickN; omega
  unfold f_X9_pickedBy
  rw [jp_0_0, jp_1_8, jp_1_9, jp_1_10, jp_0_7, jp_0_5, jp_0_6, jp_50_0, w32_id (x := p) (by omega) (by omega), f 14 p (kp_lo (by decide)), f 15 p (kp_lo (by decide)), k1, v1, eN, w32_id (x := M0 63 (96 + p)) (by omega) (by omega)]
  refine Ret.g ⟨p0, by omega⟩ (Ret.g (by rw [w32_n4]; decide) (Ret.g ⟨p0, by omega⟩ ?_))
  have wt : ∀ M', ExC M M' → ∀ most, most = 0 ∨ most = 1 → ∀ D, D = waitRow M0 (pickN M0 p) most → Ret ((f_X1_findByWait M' 50 47 (pickN M0 p) most).bind fun r5 => some (51, r5)) (fun x => ExC M x.2 ∧ 0 ≤ x.1 ∧ jkd x.1 = (3, 0) ∧ Ln x.2 x.1 D (pickN M0 p)) := by
    intro M' e' most hm D hD
    refine Ret.bb (s_waitRow h (e'.wt w) n0 n1 hm) (fun M2 ⟨e2, l2⟩ => Ret.s ⟨e'.tr e2, by show (0 : Int) ≤ 51; decide, rfl, ?_⟩)
    rw [hD]; exact l2
  have bs : ∀ D, D = besideD (M0 3 0) (rowd M0 r) (rowz M0 r) → Ret ((f_X1_findBeside M 50 47 (8 + r)).bind fun r9 => some (51, r9)) (fun x => ExC M x.2 ∧ 0 ≤ x.1 ∧ jkd x.1 = (3, 0) ∧ Ln x.2 x.1 D (rowz M0 r)) := by
    intro D hD
    refine Ret.bb (s_beside la (by omega) la1 w.1 g0 g1) (fun M2 ⟨e2, l2⟩ => Ret.s ⟨e2, by show (0 : Int) ≤ 51; decide, rfl, ?_⟩)
    rw [hD]; exact l2
  unfold pickD pickZ
  refine Ret.i (fun c1 => ?_) (fun c1 => Ret.i (fun c2 => ?_) (fun c2 => Ret.i (fun c3 => ?_) (fun c3 => Ret.i (fun c4 => ?_) (fun c4 => Ret.i (fun c5 => ?_) (fun c5 => Ret.i (fun c6 => ?_) (fun c6 => ?_))))))
  · rw [if_pos c1, if_neg (by omega), if_neg (by omega)]
    exact wt M (fun _ _ _ _ _ _ => rfl) 0 (Or.inl rfl) _ rfl
  · rw [if_neg c1, if_pos c2, if_neg (by omega), if_neg (by omega)]
    exact wt M (fun _ _ _ _ _ _ => rfl) 1 (Or.inr rfl) _ rfl
  · rw [if_neg c1, if_neg c2, if_pos c3, if_pos c3]
    exact bs _ rfl
  · rw [if_neg c1, if_neg c2, if_neg c3, if_pos c4, if_neg (by omega), if_neg (by omega)]
    refine Ret.bb (s_best h.wb w n0 n1 hR la (by omega)) ?_
    rintro ⟨v, M2⟩ ⟨e2, cs, hv⟩
    dsimp only at e2 cs hv ⊢
    change CSt M2 _ _ _ _ (bstB M0 (pickN M0 p) r) at cs
    change v = if bstB M0 (pickN M0 p) r = none then 0 else 1 at hv
    rcases e : bstB M0 (pickN M0 p) r with _ | b
    · rw [e] at hv
      rw [if_pos rfl] at hv
      rw [hv]
      exact Ret.t w32_0 (wt M2 e2 0 (Or.inl rfl) _ rfl)
    · rw [e] at hv cs
      rw [if_neg (by intro q; cases q)] at hv
      rw [hv]
      exact Ret.f w32_1n (Ret.s ⟨e2, by show (0 : Int) ≤ 51; decide, rfl, cs.2.1⟩)
  · rw [if_neg c1, if_neg c2, if_neg c3, if_neg c4, if_pos c5, if_neg (by omega), if_neg (by omega)]
    refine Ret.bb (s_slow h.wb w n0 n1 hR la (by omega)) ?_
    rintro ⟨v, M2⟩ ⟨e2, cs, hv⟩
    dsimp only at e2 cs hv ⊢
    change CSt M2 _ _ _ _ (bstW M0 (pickN M0 p) r) at cs
    change v = if bstW M0 (pickN M0 p) r = none then 0 else 1 at hv
    rcases e : bstW M0 (pickN M0 p) r with _ | b
    · rw [e] at hv
      rw [if_pos rfl] at hv
      rw [hv]
      exact Ret.t w32_0 (wt M2 e2 1 (Or.inr rfl) _ rfl)
    · rw [e] at hv cs
      rw [if_neg (by intro q; cases q)] at hv
      rw [hv]
      exact Ret.f w32_1n (Ret.s ⟨e2, by show (0 : Int) ≤ 51; decide, rfl, cs.2.1⟩)
  · have lo : Ln M (17 + p) (fun j => M0 63 (104 + 6 * p + j)) (M0 63 (128 + p)) := Ln.fr o1 (f _ _ (kp_lo (by omega))) (f _ _ (kp_lo (by omega))) (fun _ _ _ => rfl)
    have lo0 := lo.1
    rw [if_neg c1, if_neg c2, if_neg c3, if_neg c4, if_neg c5, if_pos c6, if_neg c3, if_pos c6, jp_16 p0 (by omega), lo.2.2.1, w32_id (x := M0 63 (128 + p)) (by omega) (by omega)]
    refine Ret.g ⟨p0, by omega⟩ (Ret.i (fun c7 => ?_) (fun c7 => Ret.g ⟨p0, by omega⟩ (Ret.s ⟨fun _ _ _ _ _ _ => rfl, by show 0 ≤ 17 + p; omega, kd_own p0 (by omega), ?_⟩)))
    · rw [if_pos c7, if_pos c7]
      exact bs _ rfl
    · rw [if_neg c7, if_neg c7]
      exact lo
  · rw [if_neg c1, if_neg c2, if_neg c3, if_neg c4, if_neg c5, if_neg c6, if_neg c3, if_neg c6]
    unfold f_X3_zeros
    refine Ret.b (Ret.l (Ret.l (Ret.s (Ret.s ⟨fun a b _ _ q _ => ?_, by show (0 : Int) ≤ 51; decide, rfl, ?_⟩))))
    · dsimp only
      rw [sto_ne (by omega), sto_ne (by omega)]
    · exact Ln.zeros (by omega) (by omega) (by dsimp only; rw [sto_ne (by omega), sto_eq rfl rfl]) (by dsimp only; rw [sto_eq rfl rfl])
set_option maxHeartbeats 1000000 in
theorem r_picksFor {M0 M : jM} (h : jInv M0) (f : Fr M0 M) (pt : Pt M0 M) {p r : Int} (p0 : 0 ≤ p) (p1 : p < M0 63 1) (hr : isRw M0 r) (hl : LawD (M0 3 0) (rowd M0 r) (rowz M0 r)) : Ret (f_X10_picksFor M 62 p r) (fun M' => Fr M0 M' ∧ Pt M0 M' ∧ RRow M' 6 (pickD M0 p r) (pickZ M0 p r)) := by
  obtain ⟨g0, g1, -⟩ := h.st
  obtain ⟨q4, k1, k2, k3, v1, v2, v3, o1, o2⟩ := h.pl p0 p1
  have eN : (w32 (M0 63 (100 + p))).tmod (w32 4) + 1 = pickN M0 p := by
    rw [w32_n4, w32_id (by omega) (by omega), Int.tmod_eq_emod_of_nonneg v2]
    rfl
  have n0 : 1 ≤ pickN M0 p := by unfold pickN; omega
  have n1 : pickN M0 p ≤ 4 := by unfold pickN; omega
  have h81 := pw_rng g0 g1 n0 n1
  unfold f_X10_picksFor
  rw [jp_62_1, w32_id (x := 100 + p) (by omega) (by omega), w32_id (x := 96 + p) (by omega) (by omega), w32_id (x := 128 + p) (by omega) (by omega), f 63 (100 + p) (kp_63 (by omega) (by omega) (by omega)), f 63 (96 + p) (kp_63 (by omega) (by omega) (by omega)), f 63 (128 + p) (kp_63 (by omega) (by omega) (by omega)), eN, w32_id (x := M0 63 (96 + p)) (by omega) (by omega), w32_id (x := M0 63 (128 + p)) (by have := o1.1; omega) (by omega)]
  refine Ret.g ⟨by omega, by omega⟩ (Ret.g (by rw [w32_n4]; decide) (Ret.g ⟨by omega, by omega⟩ ?_))
  have wt : ∀ M', Fr M0 M' → Pt M0 M' → ∀ most, most = 0 ∨ most = 1 → ∀ D, D = waitRow M0 (pickN M0 p) most → Ret ((f_X10_picksByWait M' 62 (pickN M0 p) most (-1)).bind fun r5 => some r5.2) (fun M' => Fr M0 M' ∧ Pt M0 M' ∧ RRow M' 6 D (pickN M0 p)) := by
    intro M' f' p' most hm D hD
    refine Ret.bb (r_waitRow h f' p' n0 n1 hm) (fun x ⟨fx, px, rx⟩ => Ret.s ⟨fx, px, ?_⟩)
    rw [hD]; exact rx
  have bs : ∀ D, D = besideD (M0 3 0) (rowd M0 r) (rowz M0 r) → Ret ((f_X10_picksNext M 62 r).bind fun r9 => some r9) (fun M' => Fr M0 M' ∧ Pt M0 M' ∧ RRow M' 6 D (rowz M0 r)) := by
    intro D hD
    refine Ret.bb (r_beside h f pt hr hl) (fun x ⟨fx, px, rx⟩ => Ret.s ⟨fx, px, ?_⟩)
    rw [hD]; exact rx
  unfold pickD pickZ
  refine Ret.i (fun c1 => ?_) (fun c1 => Ret.i (fun c2 => ?_) (fun c2 => Ret.i (fun c3 => ?_) (fun c3 => Ret.i (fun c4 => ?_) (fun c4 => Ret.i (fun c5 => ?_) (fun c5 => Ret.i (fun c6 => ?_) (fun c6 => ?_))))))
  · rw [if_pos c1, if_neg (by omega), if_neg (by omega)]
    exact wt M f pt 0 (Or.inl rfl) _ rfl
  · rw [if_neg c1, if_pos c2, if_neg (by omega), if_neg (by omega)]
    exact wt M f pt 1 (Or.inr rfl) _ rfl
  · rw [if_neg c1, if_neg c2, if_pos c3, if_pos c3]
    exact bs _ rfl
  · rw [if_neg c1, if_neg c2, if_neg c3, if_pos c4, if_neg (by omega), if_neg (by omega)]
    refine Ret.bb (r_picksBest h f pt n0 n1 hr hl) ?_
    rintro ⟨v, M2⟩ ⟨f2, p2, best, of, hs⟩
    dsimp only at f2 p2 hs ⊢
    change RSt M2 _ _ _ _ v best of (bstB M0 (pickN M0 p) r) at hs
    rcases e : bstB M0 (pickN M0 p) r with _ | b
    · rw [e] at hs
      have hs0 : v = 0 := hs
      rw [hs0]
      exact Ret.t w32_0 (wt M2 f2 p2 0 (Or.inl rfl) _ rfl)
    · rw [e] at hs
      obtain ⟨s1, s2, s3, s4⟩ := hs
      rw [s1]
      exact Ret.f w32_1n (Ret.s ⟨f2, p2, s4⟩)
  · rw [if_neg c1, if_neg c2, if_neg c3, if_neg c4, if_pos c5, if_neg (by omega), if_neg (by omega)]
    refine Ret.bb (r_byWait h f pt n0 n1 (Or.inr rfl) (Or.inr ⟨hr, hl, rfl⟩)) ?_
    rintro ⟨v, M2⟩ ⟨f2, p2, best, of, hs⟩
    dsimp only at f2 p2 hs ⊢
    change RSt M2 _ _ _ _ v best of (bstW M0 (pickN M0 p) r) at hs
    rcases e : bstW M0 (pickN M0 p) r with _ | b
    · rw [e] at hs
      have hs0 : v = 0 := hs
      rw [hs0]
      exact Ret.t w32_0 (wt M2 f2 p2 1 (Or.inr rfl) _ rfl)
    · rw [e] at hs
      obtain ⟨s1, s2, s3, s4⟩ := hs
      rw [s1]
      exact Ret.f w32_1n (Ret.s ⟨f2, p2, s4⟩)
  · rw [if_neg c1, if_neg c2, if_neg c3, if_neg c4, if_neg c5, if_pos c6, if_neg c3, if_pos c6]
    refine Ret.g ⟨by omega, by omega⟩ (Ret.i (fun c7 => ?_) (fun c7 => Ret.g ⟨by omega, by omega⟩ ?_))
    · rw [if_pos c7, if_pos c7]
      exact bs _ rfl
    · rw [if_neg c7, if_neg c7]
      refine Ret.bb (r_copies (fr := 104 + 6 * p) (d := fun j => M0 63 (104 + 6 * p + j)) (by omega) o2 (by omega) (Or.inr (Or.inr (by omega))) (by omega) (fun j j0 j1 => ⟨f _ _ (kp_63 (by omega) (by omega) (by omega)), o1.2.2.2.2 j j0 j1⟩)) (fun M2 ⟨e2, r2⟩ => Ret.s ⟨e2.fr f, e2.pt pt, r2⟩)
  · rw [if_neg c1, if_neg c2, if_neg c3, if_neg c4, if_neg c5, if_neg c6, if_neg c3, if_neg c6]
    refine Ret.bb (r_comes h f n0 n1 (i := 0) h81.1) (fun M2 ⟨e2, r2⟩ => Ret.bb (r_picks r2) (fun M3 ⟨e3, r3⟩ => Ret.s ⟨e3.fr (e2.fr f), e3.pt (e2.pt pt), ?_⟩))
    rw [dg_0] at r3
    exact r3
theorem s_hasPlayer' {M0 M : jM} (h : jInv M0) (f : Fr M0 M) {p : Int} (n0 : -2147483648 ≤ p) (n1 : p < 2147483648) : f_X8_hasPlayer M 1 p = some (if 0 ≤ p ∧ p < M0 63 1 then 1 else 0) := by
  obtain ⟨q1, q2, q3, -⟩ := h.1.2.2.2.2.2.1
  have q1 : M0 1 11 = M0 63 1 := q1
  unfold f_X8_hasPlayer
  rw [w32_id n0 n1, f 1 11 (kp_lo (by decide)), q1, w32_id (x := M0 63 1) (by omega) (by omega)]
  by_cases h1 : p < 0
  · rw [if_pos h1, if_neg (by omega)]
  · rw [if_neg h1]
    by_cases h2 : M0 63 1 ≤ p
    · rw [if_pos h2, if_neg (by omega)]
    · rw [if_neg h2, if_pos (by omega)]
theorem r_isPlayer' {M0 M : jM} (h : jInv M0) (f : Fr M0 M) {p : Int} (n0 : -2147483648 ≤ p) (n1 : p < 2147483648) : f_X10_isPlayer M 62 p = some (if 0 ≤ p ∧ p < M0 63 1 then 1 else 0) := by
  obtain ⟨q1, q2, q3, -⟩ := h.1.2.2.2.2.2.1
  have e : M 63 1 = M0 63 1 := f _ _ (kp_63 (by omega) (by omega) (by omega))
  have k := r_isPlayer (M := M) (p := p) (by omega) (by omega) n0 n1
  rw [e] at k
  exact k
theorem k_pick {M : jM} (h : jInv M) {p r k : Int} (p0 : -2147483648 ≤ p) (p1 : p < 2147483648) (a0 : -2147483648 ≤ r) (a1 : r < 2147483648) (k0 : -2147483648 ≤ k) (k1 : k < 2147483648) : Ret (f_X9_pick M 0 p r k) (fun x => Ret (f_X10_pick x.2 62 p r k) (fun y => w32 x.1 = w32 y.1 ∧ jInv y.2)) := by
  obtain ⟨g0, g1, -⟩ := h.st
  have hq := h.1.2.2.2.1.2.2.1
  have ref1 : ∀ v, v = -1 → ¬ ((0 ≤ p ∧ p < M 63 1) ∧ isRw M r ∧ (-1 ≤ k ∧ k ≤ 5)) → Ret (f_X10_pick M 62 p r k) (fun y => w32 v = w32 y.1 ∧ jInv y.2) := by
    intro v hv hn
    unfold f_X10_pick
    rw [r_isPlayer' h Fr.rfl p0 p1, r_isRow' h Fr.rfl.f8 a0 a1, r_in M k0 k1 (by decide) (by decide) (by decide) (by decide)]
    have no : Ret (some ((-1 : Int), M)) (fun y => w32 v = w32 y.1 ∧ jInv y.2) := Ret.s ⟨by rw [hv], h⟩
    by_cases c1 : 0 ≤ p ∧ p < M 63 1
    · rw [if_pos c1]
      refine Ret.b ⟨1, rfl, Ret.f w32_1n ?_⟩
      by_cases c2 : 0 ≤ r ∧ r < M 63 0
      · rw [if_pos c2, if_neg (fun z => hn ⟨c1, c2, z⟩)]
        exact Ret.b ⟨1, rfl, Ret.f w32_1n (Ret.b ⟨0, rfl, Ret.t w32_0 no⟩)⟩
      · rw [if_neg c2]
        exact Ret.b ⟨0, rfl, Ret.t w32_0 no⟩
    · rw [if_neg c1]
      exact Ret.b ⟨0, rfl, Ret.t w32_0 no⟩
  unfold f_X9_pick
  rw [jp_0_0, jp_0_5, s_rowAt' h Fr.rfl a0 a1, s_hasPlayer' h Fr.rfl p0 p1, w32_id k0 k1]
  refine Ret.b ⟨_, rfl, Ret.g (kd_if h) (Ret.b ⟨_, rfl, ?_⟩)⟩
  by_cases cp : 0 ≤ p ∧ p < M 63 1
  · dsimp only
    rw [if_pos cp]
    refine Ret.f w32_1n ?_
    by_cases cr : isRw M r
    · rw [if_pos (show 0 ≤ r ∧ r < M 63 0 from cr)]
      have cr0 := cr.1
      have cr1 : r < M 63 0 := cr.2
      refine Ret.f (by omega) (Ret.i (fun c => Ret.s (ref1 _ rfl (fun z => by have := z.2.2; omega))) (fun c => Ret.i (fun c2 => ?_) (fun c2 => Ret.s (ref1 _ rfl (fun z => by have := z.2.2; omega)))))
      refine Ret.bb (s_weigh h Fr.rfl) (fun M1 h1 => ?_)
      obtain ⟨e1, w1⟩ := h1
      have f1 := e1.fr Fr.rfl
      have p1' := e1.pt Pt.rfl
      obtain ⟨la, la1, la2⟩ := h.rl f1 cr.1 cr.2
      refine Ret.bb (s_isLawful la w1.1 g0 g1) (fun v hv => ?_)
      rw [w32_id (x := v) (by omega) (by omega)]
      have head : ∀ M', Fr M M' → ∀ {K : Option (Int × jM)} {Q : Int × jM → Prop}, (LawD (M 3 0) (rowd M r) (rowz M r) → Ret K Q) → (¬ LawD (M 3 0) (rowd M r) (rowz M r) → Q (-3, M')) → Ret ((f_X10_isPlayer M' 62 p).bind fun r1 => (if w32 r1 = 0 then some ((-1), M') else (f_X10_isRow M' 62 r).bind fun r3 => (if w32 r3 = 0 then some ((-1), M') else (f_X10_in M' k (-1) 5).bind fun r5 => (if w32 r5 = 0 then some ((-1), M') else (f_X10_isLawful M' 62 r).bind fun r7 => (if w32 r7 = 0 then some ((-3), M') else K))))) Q := by
        intro M' f' K Q yes no
        rw [r_isPlayer' h f' p0 p1, r_isRow' h f'.f8 a0 a1, r_in M' k0 k1 (by decide) (by decide) (by decide) (by decide), if_pos cp, if_pos (show 0 ≤ r ∧ r < M 63 0 from cr), if_pos (show -1 ≤ k ∧ k ≤ 5 by omega)]
        refine Ret.b ⟨1, rfl, Ret.f w32_1n (Ret.b ⟨1, rfl, Ret.f w32_1n (Ret.b ⟨1, rfl, Ret.f w32_1n (Ret.bb (r_isLawful h f'.f8 (h.rr8 f'.f8 cr.1 cr.2)) (fun u hu => ?_))⟩)⟩)⟩
        rw [w32_id (x := u) (by omega) (by omega)]
        exact Ret.i (fun c => Ret.s (no (fun q => by have := hu.2.mpr q; omega))) (fun c => yes (hu.2.mp (by omega)))
      refine Ret.i (fun c5 => Ret.s ?_) (fun c5 => ?_)
      · unfold f_X10_pick
        exact head M1 f1 (fun q => by have := hv.2.mpr q; omega) (fun _ => ⟨rfl, h.fp f1 p1'⟩)
      have hl : LawD (M 3 0) (rowd M r) (rowz M r) := hv.2.mp (by omega)
      refine Ret.bb (s_pickedBy h f1 w1 cp.1 cp.2 cr hl) ?_
      rintro ⟨t, M2⟩ ⟨e2, t0, tk, l2⟩
      dsimp only at e2 t0 tk l2 ⊢
      have f2 := e2.fr f1
      have p2 := e2.pt p1'
      refine Ret.g (Or.inr tk) ?_
      unfold f_X9_partOfRow
      rw [w32_id k0 k1, l2.2.2.1, s_signAt l2 k0 k1]
      have fin : ∀ v, (k = -1 → v = pickZ M p r) → (0 ≤ k → k < pickZ M p r → v = pickD M p r k) → (0 ≤ k → pickZ M p r ≤ k → v = -1) → Ret (f_X10_pick M2 62 p r k) (fun y => w32 v = w32 y.1 ∧ jInv y.2) := by
        intro v v1 v2 v3
        unfold f_X10_pick
        refine head M2 f2 (fun _ => ?_) (fun q => absurd hl q)
        refine Ret.bb (r_picksFor h f2 p2 cp.1 cp.2 cr hl) (fun M3 ⟨f3, p3, r3⟩ => ?_)
        obtain ⟨-, -, z1, z2, z3, z4⟩ := r3
        have z3 : M3 63 64 = pickZ M p r := z3
        rw [jp_62_1, z3, w32_id k0 k1, w32_id (x := pickZ M p r) (by omega) (by omega), w32_id (x := 46 + k) (by omega) (by omega)]
        refine Ret.i (fun c => Ret.s ⟨by rw [v1 c], h.fp f3 p3⟩) (fun c => Ret.i (fun c3 => Ret.s ⟨by rw [v3 (by omega) c3], h.fp f3 p3⟩) (fun c3 => Ret.g ⟨by omega, by omega⟩ (Ret.s ⟨?_, h.fp f3 p3⟩)))
        have z5 := (z4 k (by omega) (by omega)).1
        have z6 : (10 : Int) + 6 * 6 + k = 46 + k := by omega
        rw [z6] at z5
        dsimp only
        rw [z5, v2 (by omega) (by omega)]
      refine Ret.b (Ret.f (by omega) (Ret.i (fun c => Ret.s (Ret.s (fin _ (fun _ => rfl) (by omega) (by omega)))) (fun c => Ret.b ⟨_, rfl, Ret.s (Ret.s (fin _ (by omega) (fun q1 q2 => if_pos ⟨q1, q2⟩) (fun q1 q2 => if_neg (by omega))))⟩)))
    · rw [if_neg (show ¬ (0 ≤ r ∧ r < M 63 0) from cr)]
      exact Ret.t (by decide) (Ret.s (ref1 _ rfl (fun z => cr z.2.1)))
  · dsimp only
    rw [if_neg cp]
    exact Ret.t w32_0 (Ret.s (ref1 _ rfl (fun z => cp z.1)))
