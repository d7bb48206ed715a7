/-! lawful rows, rows apart, and two rows against each other -/
def LawD (g : Int) (d : Int → Int) (n : Int) : Prop := ∀ j, 0 ≤ j → j < n → d j < g
theorem s_isLawful {M : jM} {t : Int} {d : Int → Int} {n g : Int} (hl : Ln M t d n) (hg : M 47 0 = g) (g0 : 2 ≤ g) (g1 : g ≤ 3) : Ret (f_X6_isLawful M 47 t) (fun r => (r = 0 ∨ r = 1) ∧ (r = 1 ↔ LawD g d n)) := by
  unfold f_X6_isLawful
  have hn0 := hl.1
  have hn := hl.2.1
  refine Ret.bb (P := fun x : Unit ⊕ Unit => (x = .inl () ∧ LawD g d n) ∨ (x = .inr () ∧ ¬ LawD g d n)) ?_ ?_
  · refine Ret.it (fun k : Int => 0 ≤ k ∧ k ≤ n ∧ ∀ j, 0 ≤ j → j < k → d j < g) (fun k => (n - k).toNat) ?_ 5000 0 ⟨by omega, hn0, fun j j0 j1 => by omega⟩ (by show (n - 0).toNat < 5000; omega)
    intro k ⟨k0, k1, hk⟩
    unfold f_X6_isLawful_L2
    rw [hl.2.2.1, hg, w32_id (x := n) (by omega) (by omega), w32_id (x := k) (by omega) (by omega), w32_id (x := g) (by omega) (by omega), s_signAt hl (by omega) (by omega)]
    refine Ret.i (fun c => Rr (Or.inl ⟨rfl, fun j j0 j1 => hk j j0 (by omega)⟩)) (fun c => ?_)
    rw [if_pos ⟨k0, by omega⟩]
    obtain ⟨d0, d1⟩ := hl.2.2.2.2 k k0 (by omega)
    refine Ret.b ⟨d k, rfl, ?_⟩
    dsimp only
    rw [w32_id (x := d k) (by omega) (by omega)]
    refine Ret.i (fun c2 => Rl ⟨⟨by omega, by omega, fun j j0 j1 => ?_⟩, by show (n - (k + 1)).toNat < (n - k).toNat; omega⟩) (fun c2 => Rr (Or.inr ⟨rfl, fun q => c2 (q k k0 (by omega))⟩))
    by_cases q : j = k
    · rw [q]; exact c2
    · exact hk j j0 (by omega)
  · rintro x (⟨rfl, h⟩ | ⟨rfl, h⟩)
    · exact Ret.s ⟨Or.inr rfl, fun _ => h, fun _ => rfl⟩
    · exact Ret.s ⟨Or.inl rfl, fun q => absurd q (by decide), fun q => absurd q h⟩
theorem r_isLawful {M0 M : jM} (h : jInv M0) (f : Fr8 M0 M) {r : Int} {d : Int → Int} {n : Int} (hr : RRow M r d n) : Ret (f_X10_isLawful M 62 r) (fun v => (v = 0 ∨ v = 1) ∧ (v = 1 ↔ LawD (M0 3 0) d n)) := by
  obtain ⟨g0, g1, -⟩ := h.st
  obtain ⟨a, b, c, e, e1, e2⟩ := hr
  unfold f_X10_isLawful
  refine Ret.bb (P := fun v : Int => (v = 0 ∨ v = 1) ∧ (v = 1 ↔ LawD (M0 3 0) d n)) ?_ (fun v hv => Ret.g hv.1 (Ret.s hv))
  refine Ret.it (fun S : Int × Int => 0 ≤ S.2 ∧ S.2 ≤ n ∧ (S.1 = 0 ∨ S.1 = 1) ∧ (S.1 = 1 ↔ ∀ j, 0 ≤ j → j < S.2 → d j < M0 3 0)) (fun S => (n - S.2).toNat) ?_ 5000 (1, 0) ⟨by show (0 : Int) ≤ 0; omega, by show (0 : Int) ≤ n; omega, Or.inr rfl, fun _ j j0 j1 => absurd j1 (by show ¬ j < 0; omega), fun _ => rfl⟩ (by show (n - 0).toNat < 5000; omega)
  rintro ⟨v, k⟩ ⟨k0, k1, hv, hk⟩
  dsimp only at k0 k1 hv hk
  unfold f_X10_isLawful_L4 f_X10_isLawful_46 f_X10_isLawful_47
  dsimp +instances only
  rw [w32_id (x := 58 + r) (by omega) (by omega), jp_62_1, e1, w32_id (x := n) (by omega) (by omega), w32_id (x := k) (by omega) (by omega), w32_id (x := v) (by omega) (by omega), r_signs h f]
  refine Ret.g ⟨by omega, by omega⟩ (Ret.i (fun c => Rr ⟨hv, hk.trans ⟨fun q j j0 j1 => q j j0 (by omega), fun q j j0 j1 => q j j0 (by omega)⟩⟩) (fun c => ?_))
  have mu : (n - (k + 1)).toNat < (n - k).toNat := by omega
  refine Ret.i (fun c2 => Rl ⟨⟨by show 0 ≤ k + 1; omega, by show k + 1 ≤ n; omega, Or.inl rfl, fun q => absurd q (by show ¬ (0 : Int) = 1; decide), fun q => ?_⟩, mu⟩) (fun c2 => ?_)
  · exfalso
    have := hk.mpr (fun j j0 j1 => q j j0 (by show j < k + 1; omega))
    omega
  · have v1 : v = 1 := by omega
    have hk1 := hk.mp v1
    obtain ⟨q1, q2, q3⟩ := e2 k k0 (by omega)
    rw [w32_id (x := 10 + 6 * r + k) (by omega) (by omega), q1, w32_id (x := d k) (by omega) (by omega)]
    refine Ret.g ⟨by omega, by omega⟩ (Ret.b ⟨M0 3 0, rfl, ?_⟩)
    dsimp only
    rw [w32_id (x := M0 3 0) (by omega) (by omega)]
    refine Ret.i (fun c3 => Rl ⟨⟨by show 0 ≤ k + 1; omega, by show k + 1 ≤ n; omega, Or.inl rfl, fun q => absurd q (by show ¬ (0 : Int) = 1; decide), fun q => ?_⟩, mu⟩) (fun c3 => Rl ⟨⟨by show 0 ≤ k + 1; omega, by show k + 1 ≤ n; omega, Or.inr rfl, fun _ j j0 j1 => ?_, fun _ => rfl⟩, mu⟩)
    · have := q k k0 (by show k < k + 1; omega)
      omega
    · have j1 : j < k + 1 := j1
      by_cases q : j = k
      · rw [q]; omega
      · exact hk1 j j0 (by omega)
theorem Within.cong {d d' : Int → Int} {n : Int} {e e' : Int → Int} {m : Int} (h1 : ∀ i, 0 ≤ i → i < n → d' i = d i) (h2 : ∀ j, 0 ≤ j → j < m → e' j = e j) (h : Within d n e m) : Within d' n e' m := by
  obtain ⟨t, t0, t1, ht⟩ := h
  exact ⟨t, t0, t1, ht.cong (fun i i0 i1 => h1 i (by omega) (by omega)) h2⟩
theorem r_within {M : jM} {row fr sz : Int} {x d : Int → Int} {n : Int} (hr : RRow M row d n) (s0 : 0 ≤ sz) (s1 : sz ≤ 24) (f0 : 0 ≤ fr) (f1 : fr + sz ≤ 952) (hx : ∀ i, 0 ≤ i → i < sz → M 63 (fr + i) = x i ∧ 0 ≤ x i ∧ x i ≤ 2) : Ret (f_X10_isWithin M 62 row fr sz) (fun r => (r = 0 ∨ r = 1) ∧ (r = 1 ↔ Within x sz d n)) := by
  obtain ⟨a, b, c, e, e1, e2⟩ := hr
  refine Ret.m (r_isWithin (M := M) (row := row) (fr := fr) (sz := sz) (k := n) e1 s0 s1 f0 f1 c (by omega) a b (fun i i0 i1 => by obtain ⟨q1, q2, q3⟩ := hx i i0 i1; rw [q1]; exact ⟨q2, q3⟩) (fun j j0 j1 => by obtain ⟨q1, q2, q3⟩ := e2 j j0 j1; rw [q1]; exact ⟨q2, q3⟩)) (fun v hv => ⟨hv.1, hv.2.trans ⟨Within.cong (fun i i0 i1 => (hx i i0 i1).1.symm) (fun j j0 j1 => (e2 j j0 j1).1.symm), Within.cong (fun i i0 i1 => (hx i i0 i1).1) (fun j j0 j1 => (e2 j j0 j1).1)⟩⟩)
theorem r_apart {M : jM} {r1 r2 : Int} {x d : Int → Int} {m n : Int} (h1 : RRow M r1 x m) (h2 : RRow M r2 d n) : Ret (f_X10_areApart M 62 r1 r2) (fun v => (v = 0 ∨ v = 1) ∧ (v = 1 ↔ Apart x m d n)) := by
  have h1' := h1
  have h2' := h2
  obtain ⟨a, b, c, e, e1, e2⟩ := h1
  obtain ⟨a', b', c', e', e1', e2'⟩ := h2
  unfold f_X10_areApart
  rw [w32_id (x := 58 + r2) (by omega) (by omega), w32_id (x := 58 + r1) (by omega) (by omega), jp_62_1, e1, e1']
  refine Ret.g ⟨by omega, by omega⟩ (Ret.bb (r_within (fr := 10 + 6 * r2) h1' (by omega) (by omega) (by omega) (by omega) e2') (fun v hv => ?_))
  rw [w32_id (x := v) (by omega) (by omega)]
  refine Ret.i (fun c1 => Ret.g ⟨by omega, by omega⟩ (Ret.bb (r_within (fr := 10 + 6 * r1) h2' (by omega) (by omega) (by omega) (by omega) e2) (fun u hu => ?_))) (fun c1 => Ret.s ⟨Or.inl rfl, fun q => absurd q (by decide), fun q => absurd (hv.2.mp (by omega)) q.2⟩)
  rw [w32_id (x := u) (by omega) (by omega)]
  refine Ret.i (fun c2 => Ret.s ⟨Or.inr rfl, fun _ => ⟨fun q => ?_, fun q => ?_⟩, fun _ => rfl⟩) (fun c2 => Ret.s ⟨Or.inl rfl, fun q => absurd q (by decide), fun q => absurd (hu.2.mp (by omega)) q.1⟩)
  · have := hu.2.mpr q; omega
  · have := hv.2.mpr q; omega
def isRw (M : jM) (r : Int) : Prop := 0 ≤ r ∧ r < M 63 0
def Meet (M : jM) (a b : Int) : Prop := isRw M a ∧ isRw M b ∧ LawD (M 3 0) (rowd M a) (rowz M a) ∧ LawD (M 3 0) (rowd M b) (rowz M b) ∧ Apart (rowd M a) (rowz M a) (rowd M b) (rowz M b)
theorem r_isRow' {M0 M : jM} (h : jInv M0) (f : Fr8 M0 M) {r : Int} (n0 : -2147483648 ≤ r) (n1 : r < 2147483648) : f_X10_isRow M 62 r = some (if 0 ≤ r ∧ r < M0 63 0 then 1 else 0) := by
  obtain ⟨a, b, c, -⟩ := h.1.2.2.2.1
  unfold f_X10_isRow
  rw [jp_62_1, f 63 0 (kp_63 (by omega) (by omega) (by omega)) (by omega), r_in M n0 n1 (by decide) (by decide) (by omega) (by omega)]
  show grd _ _ = _
  unfold grd
  by_cases h1 : 0 ≤ r ∧ r < M0 63 0
  · rw [if_pos h1, if_pos (show 0 ≤ r ∧ r ≤ M0 63 0 - 1 by omega), if_pos (Or.inr rfl)]
  · rw [if_neg h1, if_neg (show ¬ (0 ≤ r ∧ r ≤ M0 63 0 - 1) by omega), if_pos (Or.inl rfl)]
theorem jInv.rr8 {M0 M : jM} (h : jInv M0) (f : Fr8 M0 M) {r : Int} (r0 : 0 ≤ r) (r1 : r < M0 63 0) : RRow M r (rowd M0 r) (rowz M0 r) := by
  have hR := h.1.2.2.2.1
  obtain ⟨g1, g2, g3⟩ := row_ln hR r0 r1
  have := hR.2.2.1
  refine ⟨r0, by omega, g2, g3, f _ _ (by unfold kp; omega) (by omega), fun j j0 j1 => ⟨?_, g1.2.2.2.2 j j0 j1⟩⟩
  exact f _ _ (by unfold kp rowz at *; omega) (by omega)
theorem r_canMeet {M0 M : jM} (h : jInv M0) (f : Fr8 M0 M) {a b : Int} (a0 : -2147483648 ≤ a) (a1 : a < 2147483648) (b0 : -2147483648 ≤ b) (b1 : b < 2147483648) : Ret (f_X10_canMeet M 62 a b) (fun v => (v = 0 ∨ v = 1) ∧ (v = 1 ↔ Meet M0 a b)) := by
  unfold f_X10_canMeet
  rw [r_isRow' h f a0 a1, r_isRow' h f b0 b1]
  have no : ¬ Meet M0 a b → Ret (some (0 : Int)) (fun v => (v = 0 ∨ v = 1) ∧ (v = 1 ↔ Meet M0 a b)) := fun q => Ret.s ⟨Or.inl rfl, fun z => absurd z (by decide), fun z => absurd z q⟩
  by_cases ca : 0 ≤ a ∧ a < M0 63 0
  · rw [if_pos ca]
    refine Ret.b ⟨1, rfl, Ret.f w32_1n ?_⟩
    by_cases cb : 0 ≤ b ∧ b < M0 63 0
    · rw [if_pos cb]
      refine Ret.b ⟨1, rfl, Ret.f w32_1n ?_⟩
      have ra := h.rr8 f ca.1 ca.2
      have rb := h.rr8 f cb.1 cb.2
      refine Ret.bb (r_isLawful h f ra) (fun v hv => ?_)
      rw [w32_id (x := v) (by omega) (by omega)]
      refine Ret.i (fun c => no (fun q => by have := hv.2.mpr q.2.2.1; omega)) (fun c => Ret.bb (r_isLawful h f rb) (fun u hu => ?_))
      rw [w32_id (x := u) (by omega) (by omega)]
      refine Ret.i (fun c => no (fun q => by have := hu.2.mpr q.2.2.2.1; omega)) (fun c2 => Ret.bb (r_apart ra rb) (fun t ht => ?_))
      rw [w32_id (x := t) (by omega) (by omega)]
      refine Ret.i (fun c => no (fun q => by have := ht.2.mpr q.2.2.2.2; omega)) (fun c3 => Ret.s ⟨Or.inr rfl, fun _ => ⟨ca, cb, hv.2.mp (by omega), hu.2.mp (by omega), ht.2.mp (by omega)⟩, fun _ => rfl⟩)
    · rw [if_neg cb]
      exact Ret.b ⟨0, rfl, Ret.t w32_0 (no (fun q => cb q.2.1))⟩
  · rw [if_neg ca]
    exact Ret.b ⟨0, rfl, Ret.t w32_0 (no (fun q => ca q.1))⟩
/-! the numbers of two rows -/
noncomputable def proW (w : Int → Int) (al : Int) (a : Int → Int) (n : Int) (b : Int → Int) (m : Int) : Int := lapW w al b m b m.toNat * prodW w a n.toNat - lapW w al b m a n.toNat * prodW w b m.toNat
noncomputable def lenW (w : Int → Int) (al : Int) (a : Int → Int) (n : Int) (b : Int → Int) (m : Int) : Int := lapW w al a n a n.toNat * lapW w al b m b m.toNat - lapW w al b m a n.toNat * lapW w al a n b m.toNat
def Duel (M : jM) (w : Int → Int) (al : Int) (a : Int → Int) (n : Int) (b : Int → Int) (m : Int) : Prop := M 49 0 = proW w al a n b m ∧ M 49 1 = proW w al b m a n ∧ M 49 2 = proW w al a n b m + proW w al b m a n ∧ M 49 3 = lenW w al a n b m
theorem s_measure {M : jM} {t1 t2 : Int} {a b : Int → Int} {n m g : Int} {w : Int → Int} {al : Int} (ha : Ln M t1 a n) (hb : Ln M t2 b m) (hw : SWt M g w al) (hB : WtB g w al) : Ret (f_X2_measure M 49 47 t1 t2) (fun M' => (∀ x y, x ≠ 49 → M' x y = M x y) ∧ Duel M' w al a n b m) := by
  unfold f_X2_measure
  refine Ret.bb (s_product ha hw hB) (fun v1 e1 => Ret.bb (s_product hb hw hB) (fun v2 e2 => Ret.bb (s_lap ha ha hw hB) (fun v3 e3 => Ret.bb (s_lap hb ha hw hB) (fun v4 e4 => Ret.bb (s_lap hb hb hw hB) (fun v5 e5 => Ret.bb (s_lap ha hb hw hB) (fun v6 e6 => Ret.l (Ret.l (Ret.l (Ret.l (Ret.s ⟨fun x y q => ?_, ?_, ?_, ?_, ?_⟩))))))))))
  · rw [sto_ne (by omega), sto_ne (by omega), sto_ne (by omega), sto_ne (by omega)]
  · rw [sto_ne (by omega), sto_ne (by omega), sto_ne (by omega), sto_eq rfl rfl, e1, e2, e4, e5]; rfl
  · rw [sto_ne (by omega), sto_ne (by omega), sto_eq rfl rfl, e1, e2, e3, e6]; rfl
  · rw [sto_ne (by omega), sto_eq rfl rfl, sto_ne (by omega), sto_eq rfl rfl, sto_eq rfl rfl, e1, e2, e3, e4, e5, e6]; rfl
  · rw [sto_eq rfl rfl, e3, e4, e5, e6]; rfl
theorem r_wFrom0 {M : jM} {r : Int} {d : Int → Int} {n g : Int} {w : Int → Int} {al : Int} (hr : RRow M r d n) (hg : LawD g d n) (hw : RWt M g w al) (hb : WtB g w al) : Ret (f_X10_weightsFrom M 62 r 0) (fun v => v = prodW w d n.toNat) := Ret.m (r_wFrom hr hg hw hb (Int.le_refl 0) (by have := hr.2.2.1; omega)) (fun v hv => by
  rw [hv, Int.sub_zero]
  exact prodW_cong (fun i _ _ => by show d _ = d _; congr 1; omega))
theorem RWt.fr {M M' : jM} {g : Int} {w : Int → Int} {al : Int} (h : RWt M g w al) (e1 : M' 62 12 = M 62 12) (e2 : ∀ s, M' 67 s = M 67 s) : RWt M' g w al := ⟨by rw [e1]; exact h.1, fun s s0 s1 => by rw [e2]; exact h.2 s s0 s1⟩
/-- what the reference's looking leaves -/
def Ex5 (M M' : jM) : Prop := ∀ a b, a ≠ 65 → a ≠ 66 → a ≠ 67 → ¬ (a = 62 ∧ (b = 12 ∨ b = 13 ∨ b = 14)) → M' a b = M a b
theorem Ex5.f8 {M0 M M' : jM} (f : Fr8 M0 M) (h : Ex5 M M') : Fr8 M0 M' := fun a b k n => (h a b (by unfold kp at k; omega) (by unfold kp at k; omega) (by unfold kp at k; omega) (by unfold kp at k; omega)).trans (f a b k n)
theorem Ex5.fr {M0 M M' : jM} (f : Fr M0 M) (h : Ex5 M M') : Fr M0 M' := fun a b k => (h a b (by unfold kp at k; omega) (by unfold kp at k; omega) (by unfold kp at k; omega) (by unfold kp at k; omega)).trans (f a b k)
theorem Ex5.pt {M0 M M' : jM} (f : Pt M0 M) (h : Ex5 M M') : Pt M0 M' := f.tr ⟨h _ _ (by decide) (by decide) (by decide) (by omega), h _ _ (by decide) (by decide) (by decide) (by omega), h _ _ (by decide) (by decide) (by decide) (by omega), h _ _ (by decide) (by decide) (by decide) (by omega)⟩
theorem Ex5.row {M M' : jM} (h : Ex5 M M') {r : Int} {d : Int → Int} {n : Int} (hr : RRow M r d n) : RRow M' r d n := hr.fr (fun b _ _ => h _ _ (by decide) (by decide) (by decide) (by omega))
theorem Ex4.x5 {M M' : jM} (h : Ex4 M M') : Ex5 M M' := fun a b q1 q2 q3 q4 => h a b q1 q2 q3 (by omega)
theorem r_odds {M0 M : jM} (h : jInv M0) (f : Fr8 M0 M) {o : Int} (ho : M 63 8 = o) (o0 : 0 ≤ o) (o1 : o ≤ 9) {r1 r2 : Int} {a b : Int → Int} {n m : Int} (ha : RRow M r1 a n) (hb : RRow M r2 b m) (la : LawD (M0 3 0) a n) (lb : LawD (M0 3 0) b m) : Ret (f_X10_looksForOdds M 62 r1 r2) (fun M' => Ex5 M M' ∧ RWt M' (M0 3 0) (wO M0 o) (aO M0 o) ∧ M' 62 13 = proW (wO M0 o) (aO M0 o) a n b m ∧ M' 62 14 = proW (wO M0 o) (aO M0 o) b m a n) := by
  have hwb := wO_wb h o0 o1
  unfold f_X10_looksForOdds
  refine Ret.bb (r_looks h f ho o0 o1) (fun M1 h1 => ?_)
  obtain ⟨e1, w1⟩ := h1
  have ha1 := e1.x5.row ha
  have hb1 := e1.x5.row hb
  refine Ret.bb (r_wFrom0 ha1 la w1 hwb) (fun v1 q1 => Ret.bb (r_wFrom0 hb1 lb w1 hwb) (fun v2 q2 => Ret.bb (r_lapOf hb1 hb1 lb w1 hwb) (fun v3 q3 => Ret.bb (r_lapOf hb1 ha1 la w1 hwb) (fun v4 q4 => Ret.l ?_))))
  have e2 : ∀ x y, ¬ (x = 62 ∧ y = 13) → sto M1 62 13 ((v3 * v1) - (v4 * v2)) x y = M1 x y := fun x y q => sto_ne q
  have e3 : sto M1 62 13 ((v3 * v1) - (v4 * v2)) 62 13 = (v3 * v1) - (v4 * v2) := sto_eq rfl rfl
  generalize sto M1 62 13 ((v3 * v1) - (v4 * v2)) = M2 at e2 e3 ⊢
  have x2 : Ex5 M1 M2 := fun x y q1 q2 q3 q4 => e2 x y (by omega)
  have w2 : RWt M2 (M0 3 0) (wO M0 o) (aO M0 o) := w1.fr (e2 _ _ (by omega)) (fun s => e2 _ _ (by omega))
  have ha2 := x2.row ha1
  have hb2 := x2.row hb1
  refine Ret.bb (r_lapOf ha2 ha2 la w2 hwb) (fun v5 q5 => Ret.bb (r_lapOf ha2 hb2 lb w2 hwb) (fun v6 q6 => Ret.l (Ret.s ⟨fun x y p1 p2 p3 p4 => ?_, ?_, ?_, ?_⟩)))
  · rw [sto_ne (by omega), e2 x y (by omega), e1 x y p1 p2 p3 (by omega)]
  · exact w2.fr (by rw [sto_ne (by omega)]) (fun s => by rw [sto_ne (by omega)])
  · rw [sto_ne (by omega), e3, q1, q2, q3, q4]; rfl
  · rw [sto_eq rfl rfl, q1, q2, q5, q6]; rfl
/-! signs of the numbers, and how large they are -/
theorem LawD.fine {w : Int → Int} {g al : Int} {d : Int → Int} {n : Int} (hb : WtB g w al) (h : LawD g d n) (hd : ∀ j, 0 ≤ j → j < n → 0 ≤ d j ∧ d j ≤ 2) : Fine w d n.toNat := fun i i0 i1 => by
  obtain ⟨d0, d1⟩ := hd i i0 (by omega)
  have := hb.2.2.1 (d i) d0 (h i i0 (by omega))
  exact ⟨d0, d1, by omega⟩
theorem proW_pos {w : Int → Int} {g al : Int} {a b : Int → Int} {n m : Int} (hB : WtB g w al) (n1 : 1 ≤ n) (m1 : 1 ≤ m) (ha : Fine w a n.toNat) (hb : Fine w b m.toNat) (hA : Apart a n b m) : 0 < proW w al a n b m := by
  have h := gain_lt (w := w) (al := al) hB.2.2.2.2 (fun s s0 _ => (hB.w s0).1) (m := m.toNat) (n := n.toNat) (by omega) hb ha (fun q => hA.1 ⟨m, Int.le_refl m, by omega, by
    have := q.2
    rw [Int.toNat_of_nonneg (by omega)] at this
    exact this⟩)
  rw [Int.toNat_of_nonneg (a := m) (by omega)] at h
  unfold proW
  omega
def capL (A W : Int) : Nat → Int
  | 0 => 0
  | k + 1 => capL A W k * W + A ^ (k + 1)
def capP (W : Int) : Nat → Int
  | 0 => 1
  | k + 1 => capP W k * W
theorem ipow_le {a b : Int} (h0 : 0 ≤ a) (h : a ≤ b) : ∀ k : Nat, a ^ k ≤ b ^ k
  | 0 => by rw [Int.pow_zero, Int.pow_zero]; exact Int.le_refl 1
  | k + 1 => by
    rw [Int.pow_succ, Int.pow_succ]
    exact Int.mul_le_mul (ipow_le h0 h k) h h0 (Int.pow_nonneg (by omega))
theorem lapW_le {w : Int → Int} {al A W : Int} {x : Int → Int} {n : Int} {y : Int → Int} (h0 : 0 ≤ al) (h1 : al ≤ A) : ∀ {k : Nat}, (∀ i : Int, 0 ≤ i → i < k → 0 ≤ w (y i) ∧ w (y i) ≤ W) → lapW w al x n y k ≤ capL A W k
  | 0, _ => Int.le_refl 0
  | k + 1, h => by
    obtain ⟨w0, w1⟩ := h k (by omega) (by omega)
    have ih := lapW_le (w := w) (W := W) (x := x) (n := n) (y := y) h0 h1 (k := k) (fun i i0 i1 => h i i0 (by omega))
    have nn := lapW_nn (w := w) (x := x) (n := n) (y := y) h0 (k := k) (fun i i0 i1 => (h i i0 (by omega)).1)
    show lapW w al x n y k * w (y k) + hit x n y ((k : Int) + 1) (al ^ (k + 1)) ≤ capL A W k * W + A ^ (k + 1)
    have e1 := Int.mul_le_mul ih w1 w0 (by omega)
    have e2 := ipow_le h0 h1 (k + 1)
    have e3 : 0 ≤ al ^ (k + 1) := Int.pow_nonneg h0
    have e4 : hit x n y ((k : Int) + 1) (al ^ (k + 1)) ≤ al ^ (k + 1) := by
      by_cases c : (k : Int) + 1 ≤ n ∧ EndsW x n y ((k : Int) + 1)
      · rw [hit_y c]; exact Int.le_refl _
      · rw [hit_n c]; exact e3
    omega
theorem prodW_le {w : Int → Int} {W : Int} {y : Int → Int} : ∀ {k : Nat}, (∀ i : Int, 0 ≤ i → i < k → 0 ≤ w (y i) ∧ w (y i) ≤ W) → prodW w y k ≤ capP W k
  | 0, _ => Int.le_refl 1
  | k + 1, h => by
    obtain ⟨w0, w1⟩ := h k (by omega) (by omega)
    have ih := prodW_le (w := w) (W := W) (y := y) (k := k) (fun i i0 i1 => h i i0 (by omega))
    have nn := prodW_nn (w := w) (y := y) (n := k) (fun i i0 i1 => (h i i0 (by omega)).1)
    exact Int.mul_le_mul ih w1 w0 (by omega)
theorem cap27 : ∀ n : Nat, n < 7 → capL 27 9 n ≤ 580333572 ∧ capP 9 n ≤ 531441 := by decide +kernel
theorem cap12 : ∀ n : Nat, n < 7 → capL 12 4 n ≤ 4472832 ∧ capP 4 n ≤ 4096 := by decide +kernel
