theorem k_best {M : jM} (h : jInv M) {r n k : Int} (a0 : -2147483648 ≤ r) (a1 : r < 2147483648) (n0 : -2147483648 ≤ n) (n1 : n < 2147483648) (k0 : -2147483648 ≤ k) (k1 : k < 2147483648) : Ret (f_X9_best M 0 r n k) (fun x => Ret (f_X10_best x.2 62 r n k) (fun y => w32 x.1 = w32 y.1 ∧ jInv y.2)) := by
  obtain ⟨g0, g1, -⟩ := h.st
  have hq := h.1.2.2.2.1.2.2.1
  -- the reference's refusals
  have ref : ∀ M', Fr M M' → Pt M M' → ∀ v, (v = -1 ∧ (¬ isRw M r ∨ ¬ (0 ≤ k ∧ k ≤ 3))) ∨ (v = -2 ∧ isRw M r ∧ (0 ≤ k ∧ k ≤ 3) ∧ ¬ (1 ≤ n ∧ n ≤ 4)) ∨ (v = -3 ∧ isRw M r ∧ (0 ≤ k ∧ k ≤ 3) ∧ (1 ≤ n ∧ n ≤ 4) ∧ ¬ LawD (M 3 0) (rowd M r) (rowz M r)) → Ret (f_X10_best M' 62 r n k) (fun y => w32 v = w32 y.1 ∧ jInv y.2) := by
    intro M' f' p' v hv
    unfold f_X10_best
    rw [r_isRow' h f'.f8 a0 a1, r_in M' k0 k1 (by decide) (by decide) (by decide) (by decide), r_in M' n0 n1 (by decide) (by decide) (by decide) (by decide)]
    by_cases cr : 0 ≤ r ∧ r < M 63 0
    · rw [if_pos cr]
      refine Ret.b ⟨1, rfl, Ret.f w32_1n ?_⟩
      by_cases ck : 0 ≤ k ∧ k ≤ 3
      · rw [if_pos ck]
        refine Ret.b ⟨1, rfl, Ret.f w32_1n ?_⟩
        by_cases cn : 1 ≤ n ∧ n ≤ 4
        · rw [if_pos cn]
          refine Ret.b ⟨1, rfl, Ret.f w32_1n (Ret.bb (r_isLawful h f'.f8 (h.rr8 f'.f8 cr.1 cr.2)) (fun u hu => ?_))⟩
          rcases hv with ⟨e, q | q⟩ | ⟨e, _, _, q⟩ | ⟨e, _, _, _, q⟩
          · exact absurd cr q
          · exact absurd ck q
          · exact absurd cn q
          · have : u = 0 := by
              rcases hu.1 with z | z
              · exact z
              · exact absurd (hu.2.mp z) q
            subst this
            exact Ret.t w32_0 (Ret.s ⟨by rw [e], h.fp f' p'⟩)
        · rw [if_neg cn]
          rcases hv with ⟨e, q | q⟩ | ⟨e, _, _, q⟩ | ⟨e, _, _, q, _⟩
          · exact absurd cr q
          · exact absurd ck q
          · exact Ret.b ⟨0, rfl, Ret.t w32_0 (Ret.s ⟨by rw [e], h.fp f' p'⟩)⟩
          · exact absurd q cn
      · rw [if_neg ck]
        rcases hv with ⟨e, _⟩ | ⟨e, _, q, _⟩ | ⟨e, _, q, _⟩
        · exact Ret.b ⟨0, rfl, Ret.t w32_0 (Ret.s ⟨by rw [e], h.fp f' p'⟩)⟩
        · exact absurd q ck
        · exact absurd q ck
    · rw [if_neg cr]
      rcases hv with ⟨e, _⟩ | ⟨e, q, _⟩ | ⟨e, q, _⟩
      · exact Ret.b ⟨0, rfl, Ret.t w32_0 (Ret.s ⟨by rw [e], h.fp f' p'⟩)⟩
      · exact absurd q cr
      · exact absurd q cr
  unfold f_X9_best
  rw [jp_0_0, jp_0_5, jp_0_6, jp_0_7, jp_50_0, s_rowAt' h Fr.rfl a0 a1, w32_id k0 k1, w32_id n0 n1]
  refine Ret.b ⟨_, rfl, Ret.g (kd_if h) ?_⟩
  by_cases cr : isRw M r
  · rw [if_pos (show 0 ≤ r ∧ r < M 63 0 from cr)]
    have cr0 := cr.1
    have cr1 : r < M 63 0 := cr.2
    refine Ret.f (by omega) (Ret.i (fun c => Ret.s (ref M Fr.rfl Pt.rfl _ (Or.inl ⟨rfl, Or.inr (by omega)⟩))) (fun c => Ret.i (fun c2 => ?_) (fun c2 => Ret.s (ref M Fr.rfl Pt.rfl _ (Or.inl ⟨rfl, Or.inr (by omega)⟩)))))
    refine Ret.i (fun c3 => Ret.s (ref M Fr.rfl Pt.rfl _ (Or.inr (Or.inl ⟨rfl, cr, by omega, by omega⟩)))) (fun c3 => Ret.i (fun c4 => ?_) (fun c4 => Ret.s (ref M Fr.rfl Pt.rfl _ (Or.inr (Or.inl ⟨rfl, cr, by omega, by omega⟩)))))
    have nn0 : 1 ≤ n := by omega
    refine Ret.bb (s_weigh h Fr.rfl) (fun M1 h1 => ?_)
    obtain ⟨e1, w1⟩ := h1
    have f1 := e1.fr Fr.rfl
    have p1 := e1.pt Pt.rfl
    obtain ⟨la, la1, la2⟩ := h.rl f1 cr.1 cr.2
    refine Ret.bb (s_isLawful la w1.1 g0 g1) (fun v hv => ?_)
    rw [w32_id (x := v) (by omega) (by omega)]
    refine Ret.i (fun c5 => Ret.s (ref M1 f1 p1 _ (Or.inr (Or.inr ⟨rfl, cr, by omega, by omega, fun q => by have := hv.2.mpr q; omega⟩)))) (fun c5 => ?_)
    have hl : LawD (M 3 0) (rowd M r) (rowz M r) := hv.2.mp (by omega)
    have hR : AgR (M 3 0) (rowd M r) (rowz M r) := ⟨la1, la2, hl, rowd_rng h cr⟩
    refine Ret.bb (s_best h.wb w1 nn0 c4 hR la (by omega)) ?_
    rintro ⟨v2, M2⟩ ⟨e2, c2', hv2⟩
    dsimp only at e2 c2' hv2 ⊢
    have f2 := e2.fr f1
    have p2 := e2.pt p1
    -- the reference, up to the choice
    have rest : ∀ v, (k < n → Ret (f_X10_picksBest M2 62 r n) (fun x => Fr M x.2 ∧ Pt M x.2 ∧ ((x.1 = 0 ∧ v = -1) ∨ (x.1 = 1 ∧ v = x.2 63 (46 + k))))) → (n ≤ k → v = -1) → Ret (f_X10_best M2 62 r n k) (fun y => w32 v = w32 y.1 ∧ jInv y.2) := by
      intro v hc hn
      unfold f_X10_best f_X10_best_56
      rw [r_isRow' h f2.f8 a0 a1, r_in M2 k0 k1 (by decide) (by decide) (by decide) (by decide), r_in M2 n0 n1 (by decide) (by decide) (by decide) (by decide), if_pos (show 0 ≤ r ∧ r < M 63 0 from cr), if_pos (show 0 ≤ k ∧ k ≤ 3 by omega), if_pos (show 1 ≤ n ∧ n ≤ 4 by omega)]
      refine Ret.b ⟨1, rfl, Ret.f w32_1n (Ret.b ⟨1, rfl, Ret.f w32_1n (Ret.b ⟨1, rfl, Ret.f w32_1n (Ret.bb (r_isLawful h f2.f8 (h.rr8 f2.f8 cr.1 cr.2)) (fun u hu => ?_))⟩)⟩)⟩
      have u1 := hu.2.mpr hl
      subst u1
      rw [w32_id n0 n1, w32_id k0 k1]
      refine Ret.f w32_1n (Ret.i (fun c6 => Ret.s ⟨by rw [hn c6], h.fp f2 p2⟩) (fun c6 => Ret.bb (hc (by omega)) ?_))
      rintro ⟨y, M3⟩ ⟨f3, p3, hy⟩
      dsimp only at f3 p3 hy ⊢
      rcases hy with ⟨rfl, hy⟩ | ⟨rfl, hy⟩
      · exact Ret.t w32_0 (Ret.s ⟨by rw [hy], h.fp f3 p3⟩)
      · rw [w32_id (x := 46 + k) (by omega) (by omega), jp_62_1]
        exact Ret.f w32_1n (Ret.g ⟨by omega, by omega⟩ (Ret.s ⟨by rw [hy], h.fp f3 p3⟩))
    have pb := r_picksBest h f2 p2 nn0 c4 cr hl
    generalize topB (wOf M) (aOf M) (M 3 0) n (rowd M r) (rowz M r) = top at c2' hv2 pb
    generalize loB (wOf M) (aOf M) (M 3 0) n (rowd M r) (rowz M r) = lo at c2' hv2 pb
    rcases e : bst (CB (M 3 0) n (rowd M r) (rowz M r)) top lo 1 ((M 3 0).toNat ^ n.toNat) with _ | b
    · rw [e] at hv2 pb
      rw [if_pos rfl] at hv2
      rw [hv2]
      refine Ret.t w32_0 (Ret.s (rest (-1) (fun _ => Ret.m pb ?_) (fun _ => rfl)))
      rintro x ⟨fx, px, best, of, hx⟩
      exact ⟨fx, px, Or.inl ⟨hx, rfl⟩⟩
    · rw [e] at hv2 pb c2'
      rw [if_neg (by intro q; cases q)] at hv2
      rw [hv2]
      obtain ⟨c50, cl, -, -⟩ := c2'
      refine Ret.f w32_1n ?_
      rw [s_signAt cl k0 k1]
      refine Ret.b ⟨_, rfl, Ret.s (rest _ (fun q => Ret.m pb ?_) (fun q => if_neg (by omega)))⟩
      rintro x ⟨fx, px, best, of, hx⟩
      obtain ⟨q1, q2, q3, q4⟩ := hx
      refine ⟨fx, px, Or.inr ⟨q1, ?_⟩⟩
      rw [if_pos ⟨by omega, q⟩]
      exact ((q4.2.2.2.2.2 k (by omega) q).1).symm
  · rw [if_neg (show ¬ (0 ≤ r ∧ r < M 63 0) from cr)]
    exact Ret.t (by decide) (Ret.s (ref M Fr.rfl Pt.rfl _ (Or.inl ⟨rfl, Or.inl cr⟩)))
