/-! the class's nodes: how they are linked -/
theorem Win.mn {M0 : jM} {k : Int → Nat} {a : Int} {u z : List Int} {v v2 : Int} (hk : ∀ r, LwR M0 r → k r = (rowz M0 r).toNat) (h : jInv M0) (he : Exa M0 k (a :: u) v) (hz : PLon (Nd M0) a u z) (hw : Win M0 z v2 6) : Win M0 (a :: u) (min v v2) 6 := by
  have key : ∀ r, LwR M0 r → (pre (wr M0 r) (a :: u) ↔ wr M0 r = a :: u ∨ pre (wr M0 r) z) := fun r hr => by
    refine ⟨fun p => ?_, fun p => ?_⟩
    · by_cases e : (wr M0 r).length ≤ u.length
      · exact Or.inr (hz.2.2.2 _ p e (Nd.w hr))
      · exact Or.inl (pre_eq p (by rw [List.length_cons]; omega))
    · rcases p with p | p
      · rw [p]
        exact pre_rfl
      · exact pre_tr p hz.1
  have b2 : v2 = 6 ∨ (LwR M0 v2 ∧ v2 < 6) := by
    rcases hw with ⟨q, -⟩ | ⟨q, -⟩
    · exact Or.inl q
    · exact Or.inr ⟨q, (LwR.rng h q).2⟩
  rcases he with ⟨e, e2⟩ | ⟨e, e2, e3, e4⟩
  · rcases hw with ⟨w, w2⟩ | ⟨w, w2, w3⟩
    · rw [e, w]
      refine Or.inl ⟨by decide, fun r hr hp => ?_⟩
      rcases (key r hr).mp hp with q | q
      · exact e2 r hr (hk r hr) q
      · exact w2 r hr q
    · have := LwR.rng h w
      rw [e, show min 6 v2 = v2 by omega]
      refine Or.inr ⟨w, (key v2 w).mpr (Or.inr w2), fun r hr hp => ?_⟩
      rcases (key r hr).mp hp with q | q
      · exact absurd q (e2 r hr (hk r hr))
      · exact w3 r hr q
  · have := LwR.rng h e
    rcases hw with ⟨w, w2⟩ | ⟨w, w2, w3⟩
    · rw [w, show min v 6 = v by omega]
      refine Or.inr ⟨e, (key v e).mpr (Or.inl e3), fun r hr hp => ?_⟩
      rcases (key r hr).mp hp with q | q
      · exact e4 r hr (hk r hr) q
      · exact absurd q (w2 r hr)
    · have hall : ∀ r, LwR M0 r → pre (wr M0 r) (a :: u) → min v v2 ≤ r := fun r hr hp => by
        rcases (key r hr).mp hp with q | q
        · have := e4 r hr (hk r hr) q
          omega
        · have := w3 r hr q
          omega
      by_cases c : v ≤ v2
      · rw [show min v v2 = v by omega] at hall ⊢
        exact Or.inr ⟨e, (key v e).mpr (Or.inl e3), hall⟩
      · rw [show min v v2 = v2 by omega] at hall ⊢
        exact Or.inr ⟨w, (key v2 w).mpr (Or.inr w2), hall⟩
/-- each node but the first hangs on an earlier one -/
theorem Trie.par {M0 M : jM} {n : Int} {str : Int → List Int} {k : Int → Nat} {D : Nat} (h : jInv M0) (hk : ∀ r, LwR M0 r → k r = (rowz M0 r).toNat) (T : Trie M0 M n str k D) {j : Int} (j0 : 0 < j) (j1 : j < n) : ∃ i s, 0 ≤ i ∧ i < j ∧ 0 ≤ s ∧ s < M0 3 0 ∧ M 54 (i * 3 + s) = j ∧ str j = s :: str i := by
  obtain ⟨n6, n1, o, ch, inj, mon, len, nd, pl, all, win⟩ := T
  rcases nd j (by omega) j1 with e | ⟨r, q, h1, h2, h3⟩
  · have := inj j 0 (by omega) j1 (by decide) (by omega) (by rw [e, o])
    omega
  · cases q with
    | zero =>
      have := inj j 0 (by omega) j1 (by decide) (by omega) (by rw [h3, o]; rfl)
      omega
    | succ q =>
      obtain ⟨i, i0, i1, i2⟩ := all r q h1 (by rw [hk r h1]; omega)
      have hz := rowz_rng h h1.1
      have hd := rowd_rng h h1.1 q (by omega) (by omega)
      have hg := h1.2 q (by omega) (by omega)
      have hs : str j = rowd M0 r q :: str i := by rw [h3, i2, rv]
      rcases ch i (rowd M0 r q) i0 i1 hd.1 hd.2 with ⟨g, g2⟩ | ⟨g, g2, g3⟩
      · exact absurd hs (g2 j (by omega) j1)
      · have e := inj _ j (by omega) g2 (by omega) j1 (g3.trans hs.symm)
        exact ⟨i, rowd M0 r q, i0, by omega, hd.1, hg, e, hs⟩
theorem Trie.node {M0 M : jM} {n : Int} {str : Int → List Int} {k : Int → Nat} {D : Nat} (hk : ∀ r, LwR M0 r → k r = (rowz M0 r).toNat) (T : Trie M0 M n str k D) {x : List Int} (hx : Nd M0 x) : ∃ j, 0 ≤ j ∧ j < n ∧ str j = x := by
  obtain ⟨n6, n1, o, ch, inj, mon, len, nd, pl, all, win⟩ := T
  rcases hx with e | ⟨r, q, h1, h2, h3⟩
  · exact ⟨0, by decide, by omega, by rw [e]; exact o⟩
  · rw [h3]
    exact all r q h1 (by rw [hk r h1]; exact h2)
def Pr (i s i' s' : Int) : Prop := i' < i ∨ (i' = i ∧ s' < s)
def Lk (M0 M1 M : jM) (n : Int) (str : Int → List Int) (i s : Int) : Prop :=
  (∀ i' s', 0 ≤ i' → i' < n → 0 ≤ s' → s' < M0 3 0 → Pr i s i' s' → 0 ≤ M 54 (i' * 3 + s') ∧ M 54 (i' * 3 + s') < n ∧ Lon (Nd M0) (s' :: str i') (str (M 54 (i' * 3 + s')))) ∧
  (∀ i' s', 0 ≤ i' → i' < n → 0 ≤ s' → s' ≤ 2 → ¬ Pr i s i' s' → M 54 (i' * 3 + s') = M1 54 (i' * 3 + s')) ∧
  (∀ i' s' c, 0 ≤ i' → i' < n → 0 ≤ s' → s' < M0 3 0 → M1 54 (i' * 3 + s') = c → i' < c → Pr i s i' s' → Win M0 (str c) (M 56 c) 6 ∧ 0 ≤ M 55 c ∧ M 55 c < n ∧ PLon (Nd M0) s' (str i') (str (M 55 c))) ∧
  (∀ i' s' c, 0 ≤ i' → i' < n → 0 ≤ s' → s' < M0 3 0 → M1 54 (i' * 3 + s') = c → i' < c → ¬ Pr i s i' s' → M 56 c = M1 56 c) ∧
  Win M0 [] (M 56 0) 6 ∧ (∀ a b, a ≠ 54 → a ≠ 55 → a ≠ 56 → M a b = M1 a b)
theorem Lk.zero {M0 M1 : jM} {n : Int} {str : Int → List Int} {k : Int → Nat} {D : Nat} (hk : ∀ r, LwR M0 r → k r = (rowz M0 r).toNat) (T : Trie M0 M1 n str k D) (h : jInv M0) : Lk M0 M1 M1 n str 0 0 := by
  have hn : ∀ i' s', 0 ≤ i' → 0 ≤ s' → ¬ Pr 0 0 i' s' := fun i' s' a b c => by unfold Pr at c; omega
  obtain ⟨n6, n1, o, ch, inj, mon, len, nd, pl, all, win⟩ := T
  refine ⟨fun i' s' a _ b _ p => absurd p (hn _ _ a b), fun _ _ _ _ _ _ _ => rfl, fun i' s' _ a _ b _ _ _ p => absurd p (hn _ _ a b), fun _ _ _ _ _ _ _ _ _ _ => rfl, ?_, fun _ _ _ _ _ => rfl⟩
  have w := win 0 (by decide) (by omega)
  rw [o] at w
  have ne : ∀ r, LwR M0 r → ¬ pre (wr M0 r) [] := fun r hr p => by
    have q := pre_len p
    have := rowz_rng h hr.1
    unfold wr at q
    rw [rv_len] at q
    simp only [List.length_nil] at q
    omega
  rcases w with ⟨w, -⟩ | ⟨w, -, w3, -⟩
  · rw [w]
    exact Or.inl ⟨rfl, ne⟩
  · exact absurd (by rw [w3]; exact pre_nil) (ne _ w)
theorem Lk.next {M0 M1 M : jM} {n : Int} {str : Int → List Int} {i g : Int} (hg : M0 3 0 ≤ g) (L : Lk M0 M1 M n str i g) : Lk M0 M1 M n str (i + 1) 0 := by
  obtain ⟨a1, a2, a3, a4, a5, a6⟩ := L
  have p1 : ∀ i' s', 0 ≤ s' → s' < M0 3 0 → Pr (i + 1) 0 i' s' → Pr i g i' s' := fun i' s' s0 s1 p => by unfold Pr at *; omega
  have p2 : ∀ i' s', ¬ Pr (i + 1) 0 i' s' → ¬ Pr i g i' s' := fun i' s' p => by unfold Pr at *; omega
  exact ⟨fun i' s' i0 i1 s0 s1 p => a1 i' s' i0 i1 s0 s1 (p1 _ _ s0 s1 p), fun i' s' i0 i1 s0 s1 p => a2 i' s' i0 i1 s0 s1 (p2 _ _ p), fun i' s' c i0 i1 s0 s1 e e2 p => a3 i' s' c i0 i1 s0 s1 e e2 (p1 _ _ s0 s1 p), fun i' s' c i0 i1 s0 s1 e e2 p => a4 i' s' c i0 i1 s0 s1 e e2 (p2 _ _ p), a5, a6⟩
theorem Lk.back {M0 M1 M : jM} {n : Int} {str : Int → List Int} {k : Int → Nat} {D : Nat} {i s : Int} (h : jInv M0) (hk : ∀ r, LwR M0 r → k r = (rowz M0 r).toNat) (T : Trie M0 M1 n str k D) (L : Lk M0 M1 M n str i s) (i0 : 0 ≤ i) (i1 : i < n) (s0 : 0 ≤ s) (s1 : s < M0 3 0) : ∃ b, 0 ≤ b ∧ b < n ∧ PLon (Nd M0) s (str i) (str b) ∧ Win M0 (str b) (M 56 b) 6 ∧ ((i = 0 ∧ b = 0) ∨ (i ≠ 0 ∧ 0 ≤ M 55 i ∧ M 55 i < n ∧ b = M 54 (M 55 i * 3 + s))) := by
  obtain ⟨a1, a2, a3, a4, a5, a6⟩ := L
  obtain ⟨n6, n1, o, ch, inj, mon, len, nd, pl, all, win⟩ := id T
  have hlen : ∀ x y, 0 ≤ x → x < n → 0 ≤ y → y < n → (str x).length < (str y).length → x < y := fun x y x0 x1 y0 y1 q => by
    by_cases e : x < y
    · exact e
    · have := mon y x y0 (by omega) x1
      omega
  have hb : ∃ b, 0 ≤ b ∧ b < n ∧ PLon (Nd M0) s (str i) (str b) ∧ ((i = 0 ∧ b = 0) ∨ (i ≠ 0 ∧ 0 ≤ M 55 i ∧ M 55 i < n ∧ b = M 54 (M 55 i * 3 + s))) := by
    by_cases e : i = 0
    · refine ⟨0, by decide, by omega, ?_, Or.inl ⟨e, rfl⟩⟩
      rw [e, o]
      exact PLon.root Nd.o
    · obtain ⟨i', a, b1, b2, b3, b4, b5, b6⟩ := T.par h hk (j := i) (by omega) i1
      obtain ⟨c1, c2, c3, c4⟩ := a3 i' a i b1 (by omega) b3 b4 b5 b2 (Or.inl b2)
      have l1 := c4.2.1
      have l2 : (str i).length = (str i').length + 1 := by rw [b6, List.length_cons]
      have l3 := hlen (M 55 i) i c2 c3 i0 i1 (by omega)
      obtain ⟨d1, d2, d3⟩ := a1 (M 55 i) s c2 c3 s0 s1 (Or.inl l3)
      refine ⟨_, d1, d2, ?_, Or.inr ⟨e, c2, c3, rfl⟩⟩
      rw [b6]
      exact c4.push Nd.s d3
  obtain ⟨b, b0, b1, b2, b3⟩ := hb
  refine ⟨b, b0, b1, b2, ?_, b3⟩
  by_cases e : b = 0
  · rw [e, o]
    exact a5
  · obtain ⟨i', a, c1, c2, c3, c4, c5, c6⟩ := T.par h hk (j := b) (by omega) b1
    have l1 := b2.2.1
    have l2 : (str b).length = (str i').length + 1 := by rw [c6, List.length_cons]
    have l3 := hlen i' i c1 (by omega) i0 i1 (by omega)
    exact (a3 i' a b c1 (by omega) c3 c4 c5 c2 (Or.inl l3)).1
theorem Lk.set {M0 M1 M : jM} {n : Int} {str : Int → List Int} {k : Int → Nat} {D : Nat} {i s b : Int} (hk : ∀ r, LwR M0 r → k r = (rowz M0 r).toNat) (T : Trie M0 M1 n str k D) (L : Lk M0 M1 M n str i s) (i0 : 0 ≤ i) (i1 : i < n) (s0 : 0 ≤ s) (s1 : s ≤ 2) (g1 : M0 3 0 ≤ 3) (b0 : 0 ≤ b) (b1 : b < n) (hb : PLon (Nd M0) s (str i) (str b)) (hc : M1 54 (i * 3 + s) < 0) : Lk M0 M1 (sto M 54 (i * 3 + s) b) n str i (s + 1) := by
  obtain ⟨a1, a2, a3, a4, a5, a6⟩ := L
  have hno : ¬ Nd M0 (s :: str i) := fun q => by
    obtain ⟨j, j0, j1, j2⟩ := T.node hk q
    rcases T.2.2.2.1 i s i0 i1 s0 s1 with ⟨-, q2⟩ | ⟨q2, -⟩
    · exact q2 j j0 j1 j2
    · omega
  have p1 : ∀ i' s', Pr i (s + 1) i' s' → ¬ (i' = i ∧ s' = s) → Pr i s i' s' := fun i' s' p q => by unfold Pr at *; omega
  have p2 : ∀ i' s', ¬ Pr i (s + 1) i' s' → ¬ Pr i s i' s' ∧ ¬ (i' = i ∧ s' = s) := fun i' s' p => by unfold Pr at *; omega
  refine ⟨fun i' s' x0 x1 y0 y1 p => ?_, fun i' s' x0 x1 y0 y1 p => ?_, fun i' s' c x0 x1 y0 y1 e e2 p => ?_, fun i' s' c x0 x1 y0 y1 e e2 p => ?_, ?_, fun x y q1 q2 q3 => ?_⟩
  · by_cases q : i' = i ∧ s' = s
    · rw [q.1, q.2, sto_eq rfl rfl]
      exact ⟨b0, b1, hb.lon hno⟩
    · rw [sto_ne (by omega)]
      exact a1 i' s' x0 x1 y0 y1 (p1 _ _ p q)
  · have := p2 _ _ p
    rw [sto_ne (by omega)]
    exact a2 i' s' x0 x1 y0 y1 this.1
  · rw [sto_ne (by omega), sto_ne (by omega)]
    refine a3 i' s' c x0 x1 y0 y1 e e2 (p1 _ _ p (fun q => ?_))
    rw [q.1, q.2] at e
    omega
  · rw [sto_ne (by omega)]
    exact a4 i' s' c x0 x1 y0 y1 e e2 (p2 _ _ p).1
  · rw [sto_ne (by omega)]
    exact a5
  · rw [sto_ne (by omega)]
    exact a6 x y q1 q2 q3
theorem Lk.kid {M0 M1 M : jM} {n : Int} {str : Int → List Int} {k : Int → Nat} {D : Nat} {i s b c : Int} (h : jInv M0) (hk : ∀ r, LwR M0 r → k r = (rowz M0 r).toNat) (T : Trie M0 M1 n str k D) (L : Lk M0 M1 M n str i s) (i0 : 0 ≤ i) (i1 : i < n) (s0 : 0 ≤ s) (s1 : s < M0 3 0) (g1 : M0 3 0 ≤ 3) (b0 : 0 ≤ b) (b1 : b < n) (hb : PLon (Nd M0) s (str i) (str b)) (hw : Win M0 (str b) (M 56 b) 6) (hc : M1 54 (i * 3 + s) = c) (c0 : 0 ≤ c) : Lk M0 M1 (sto (sto M 55 c b) 56 c (min (M 56 c) (M 56 b))) n str i (s + 1) := by
  obtain ⟨a1, a2, a3, a4, a5, a6⟩ := L
  obtain ⟨n6, n1, o, ch, inj, mon, len, nd, pl, all, win⟩ := id T
  have hch : i < c ∧ c < n ∧ str c = s :: str i := by
    rcases ch i s i0 i1 s0 (by omega) with q | q
    · omega
    · rw [hc] at q
      exact q
  obtain ⟨h1, h2, h3⟩ := hch
  have ec : M 54 (i * 3 + s) = c := (a2 i s i0 i1 s0 (by omega) (by unfold Pr; omega)).trans hc
  have uq : ∀ i' s' c', 0 ≤ i' → i' < n → 0 ≤ s' → s' < M0 3 0 → M1 54 (i' * 3 + s') = c' → i' < c' → c' = c → i' = i ∧ s' = s := fun i' s' c' x0 x1 y0 y1 e e2 e3 => by
    rcases ch i' s' x0 x1 y0 (by omega) with ⟨q, -⟩ | ⟨q, q2, q3⟩
    · omega
    · rw [e, e3, h3] at q3
      injection q3 with q4 q5
      exact ⟨inj i' i x0 x1 i0 i1 q5.symm, q4.symm⟩
  have p1 : ∀ i' s', Pr i (s + 1) i' s' → ¬ (i' = i ∧ s' = s) → Pr i s i' s' := fun i' s' p q => by unfold Pr at *; omega
  have p2 : ∀ i' s', ¬ Pr i (s + 1) i' s' → ¬ Pr i s i' s' ∧ ¬ (i' = i ∧ s' = s) := fun i' s' p => by unfold Pr at *; omega
  refine ⟨fun i' s' x0 x1 y0 y1 p => ?_, fun i' s' x0 x1 y0 y1 p => ?_, fun i' s' c' x0 x1 y0 y1 e e2 p => ?_, fun i' s' c' x0 x1 y0 y1 e e2 p => ?_, ?_, fun x y q1 q2 q3 => ?_⟩
  · rw [sto_ne (by omega), sto_ne (by omega)]
    by_cases q : i' = i ∧ s' = s
    · rw [q.1, q.2, ec, h3]
      refine ⟨c0, h2, Lon.self ?_⟩
      rw [← h3]
      exact nd c c0 h2
    · exact a1 i' s' x0 x1 y0 y1 (p1 _ _ p q)
  · rw [sto_ne (by omega), sto_ne (by omega)]
    exact a2 i' s' x0 x1 y0 y1 (p2 _ _ p).1
  · by_cases q : c' = c
    · obtain ⟨q1, q2⟩ := uq i' s' c' x0 x1 y0 y1 e e2 q
      rw [q, q1, q2, sto_eq rfl rfl, sto_ne (by omega), sto_eq rfl rfl, h3]
      refine ⟨?_, b0, b1, hb⟩
      have e56 := a4 i s c i0 i1 s0 s1 hc h1 (by unfold Pr; omega)
      have w := win c c0 h2
      rw [← e56, h3] at w
      exact Win.mn hk h w hb hw
    · rw [sto_ne (by omega), sto_ne (by omega), sto_ne (by omega), sto_ne (by omega)]
      refine a3 i' s' c' x0 x1 y0 y1 e e2 (p1 _ _ p (fun z => q ?_))
      rw [z.1, z.2] at e
      omega
  · have q := p2 _ _ p
    rw [sto_ne (fun z => q.2 (uq i' s' c' x0 x1 y0 y1 e e2 z.2)), sto_ne (by omega)]
    exact a4 i' s' c' x0 x1 y0 y1 e e2 q.1
  · rw [sto_ne (by omega), sto_ne (by omega)]
    exact a5
  · rw [sto_ne (by omega), sto_ne (by omega)]
    exact a6 x y q1 q2 q3
/-- the class's ways on -/
def Auto (M0 M : jM) (n : Int) (str : Int → List Int) : Prop := M 53 6 = n ∧ M 53 7 = M0 3 0 ∧ M 53 8 = 47 ∧ 1 ≤ n ∧ n ≤ 37 ∧ str 0 = [] ∧ (∀ i s, 0 ≤ i → i < n → 0 ≤ s → s < M0 3 0 → 0 ≤ M 54 (i * 3 + s) ∧ M 54 (i * 3 + s) < n ∧ Lon (Nd M0) (s :: str i) (str (M 54 (i * 3 + s)))) ∧ (∀ j, 0 ≤ j → j < n → Win M0 (str j) (M 56 j) 6)
theorem s_link {M0 M1 : jM} {n : Int} {str : Int → List Int} {k : Int → Nat} {D : Nat} (h : jInv M0) (hk : ∀ r, LwR M0 r → k r = (rowz M0 r).toNat) (T : Trie M0 M1 n str k D) (hn : n ≤ 37) (hg : M1 53 7 = M0 3 0) (h8 : M1 53 8 = 47) : Ret (f_X4_link M1 53) (fun M' => CFr M1 M' ∧ Auto M0 M' n str) := by
  obtain ⟨g0, g1, -⟩ := h.st
  have n6 := T.1
  have n1 := T.2.1
  unfold f_X4_link
  refine Ret.bb (P := fun M' => CFr M1 M' ∧ Auto M0 M' n str) ?_ (fun r hr => Ret.s hr)
  refine Ret.it (fun S : jM × Int => 0 ≤ S.2 ∧ S.2 ≤ n ∧ Lk M0 M1 S.1 n str S.2 0) (fun S => (n - S.2).toNat) ?_ 5000 (M1, 0) ⟨Int.le_refl _, by show (0 : Int) ≤ n; omega, Lk.zero hk T h⟩ (by show (n - 0).toNat < 5000; omega)
  rintro ⟨M, i⟩ ⟨i0, i1, L⟩
  dsimp only at i0 i1 L
  unfold f_X4_link_L2
  dsimp +instances only
  have fL := L.2.2.2.2.2
  rw [fL 53 6 (by decide) (by decide) (by decide), n6, w32_id (x := n) (by omega) (by omega), w32_id (x := i) (by omega) (by omega)]
  refine Ret.i (fun c => Rr ⟨fun a b q1 q2 q3 q4 q5 => fL a b q2 q3 q4, ?_⟩) (fun c => Ret.bb (P := fun M' : jM => Lk M0 M1 M' n str i (M0 3 0)) ?_ (fun M' hM' => Rl ⟨⟨by show 0 ≤ i + 1; omega, by show i + 1 ≤ n; omega, hM'.next (Int.le_refl _)⟩, by show (n - (i + 1)).toNat < (n - i).toNat; omega⟩))
  · obtain ⟨a1, a2, a3, a4, a5, a6⟩ := L
    refine ⟨by rw [fL _ _ (by decide) (by decide) (by decide)]; exact n6, by rw [fL _ _ (by decide) (by decide) (by decide)]; exact hg, by rw [fL _ _ (by decide) (by decide) (by decide)]; exact h8, n1, hn, T.2.2.1, fun x y x0 x1 y0 y1 => a1 x y x0 x1 y0 y1 (Or.inl (by omega)), fun j j0 j1 => ?_⟩
    by_cases e : j = 0
    · rw [e, T.2.2.1]
      exact a5
    · obtain ⟨i', a, b1, b2, b3, b4, b5, b6⟩ := T.par h hk (j := j) (by omega) j1
      exact (a3 i' a j b1 (by omega) b3 b4 b5 b2 (Or.inl (by omega))).1
  · refine Ret.it (fun S : jM × Int => 0 ≤ S.2 ∧ S.2 ≤ M0 3 0 ∧ Lk M0 M1 S.1 n str i S.2) (fun S => (3 - S.2).toNat) ?_ 5000 (M, 0) ⟨Int.le_refl _, by show (0 : Int) ≤ M0 3 0; omega, L⟩ (by show (3 - 0 : Int).toNat < 5000; decide)
    rintro ⟨M2, s⟩ ⟨s0, s1, L2⟩
    dsimp only at s0 s1 L2
    unfold f_X4_link_L12
    dsimp +instances only
    have f2 := L2.2.2.2.2.2
    rw [f2 53 7 (by decide) (by decide) (by decide), hg, w32_id (x := M0 3 0) (by omega) (by omega), w32_id (x := s) (by omega) (by omega)]
    refine Ret.i (fun q => Rr ?_) (fun q => ?_)
    · have e : s = M0 3 0 := by omega
      rw [e] at L2
      exact L2
    · obtain ⟨b, b0, b1, b2, b3, b4⟩ := L2.back h hk T i0 (by omega) s0 (by omega)
      have ec : M2 54 (i * 3 + s) = M1 54 (i * 3 + s) := L2.2.1 i s i0 (by omega) s0 (by omega) (by unfold Pr; omega)
      have go : Ret (f_X4_link_49 M2 53 i s (i * 3 + s) b) (fun r => (∀ t, r = .inl t → ((0 ≤ t.2 ∧ t.2 ≤ M0 3 0 ∧ Lk M0 M1 t.1 n str i t.2) ∧ (3 - t.2).toNat < (3 - s).toNat)) ∧ (∀ x, r = .inr x → Lk M0 M1 x n str i (M0 3 0))) := by
        unfold f_X4_link_49 f_X4_link_112
        rw [jp_53_0, jp_53_1, jp_53_2, w32_id (x := i * 3 + s) (by omega) (by omega), w32_id (x := b) (by omega) (by omega), ec]
        generalize hc : M1 54 (i * 3 + s) = c
        have hch := T.2.2.2.1 i s i0 (by omega) s0 (by omega)
        rw [hc] at hch
        rw [w32_id (x := c) (by omega) (by omega)]
        refine Ret.g ⟨by omega, by omega⟩ (Ret.i (fun q2 => ?_) (fun q2 => ?_))
        · have hc2 : i < c ∧ c < n := by omega
          refine Ret.g ⟨by omega, by omega⟩ (Ret.g ⟨by omega, by omega⟩ (Ret.l (Ret.g ⟨by omega, by omega⟩ (Ret.g ⟨by omega, by omega⟩ (Ret.g ⟨by omega, by omega⟩ (Ret.l ?_))))))
          have e1 : sto M2 55 c b 56 c = M2 56 c := sto_ne (by omega)
          have e2 : sto M2 55 c b 56 b = M2 56 b := sto_ne (by omega)
          have r1 : 0 ≤ M2 56 b ∧ M2 56 b ≤ 6 := by
            rcases b3 with ⟨q, -⟩ | ⟨q, -⟩
            · omega
            · have := LwR.rng h q
              omega
          have r2 : 0 ≤ M2 56 c ∧ M2 56 c ≤ 6 := by
            rw [L2.2.2.2.1 i s c i0 (by omega) s0 (by omega) hc hc2.1 (by unfold Pr; omega)]
            rcases T.2.2.2.2.2.2.2.2.2.2 c (by omega) hc2.2 with ⟨q, -⟩ | ⟨q, -⟩
            · omega
            · have := LwR.rng h q
              omega
          rw [e1, e2, w32_id (x := M2 56 c) (by omega) (by omega), w32_id (x := M2 56 b) (by omega) (by omega)]
          exact Rl ⟨⟨by show 0 ≤ s + 1; omega, by show s + 1 ≤ _; omega, L2.kid h hk T i0 (by omega) s0 (by omega) g1 b0 b1 b2 b3 hc q2⟩, by show (3 - (s + 1)).toNat < (3 - s).toNat; omega⟩
        · exact Ret.g ⟨by omega, by omega⟩ (Ret.l (Rl ⟨⟨by show 0 ≤ s + 1; omega, by show s + 1 ≤ _; omega, L2.set hk T i0 (by omega) s0 (by omega) g1 b0 b1 b2 (by omega)⟩, by show (3 - (s + 1)).toNat < (3 - s).toNat; omega⟩))
      rcases b4 with ⟨e, e2⟩ | ⟨e, e2, e3, e4⟩
      · rw [e2] at go
        refine Ret.t ?_ go
        rw [e]
        exact w32_0
      · rw [jp_53_1, jp_53_0, w32_id (x := i) (by omega) (by omega), w32_id (x := M2 55 i * 3 + s) (by omega) (by omega), ← e4]
        exact Ret.f e (Ret.g ⟨by omega, by omega⟩ (Ret.g ⟨by omega, by omega⟩ go))
theorem s_build {M0 M : jM} (h : jInv M0) (f : Fr M0 M) (hw : M 47 0 = M0 3 0) : Ret (f_X4_build M 53 1 47) (fun M' => CFr M M' ∧ ∃ n str, Auto M0 M' n str) := by
  obtain ⟨g0, g1, -⟩ := h.st
  obtain ⟨w1, w2, w3, -⟩ := h.1.2.2.2.1
  unfold f_X4_build
  refine Ret.l (Ret.l (Ret.l ?_))
  have c3 : CFr M (sto (sto (sto M 53 8 47) 53 7 (sto M 53 8 47 47 0)) 53 6 0) := fun a b q1 q2 q3 q4 q5 => by rw [sto_ne (by omega), sto_ne (by omega), sto_ne (by omega)]
  have d8 : sto (sto (sto M 53 8 47) 53 7 (sto M 53 8 47 47 0)) 53 6 0 53 8 = 47 := by rw [sto_ne (by omega), sto_ne (by omega), sto_eq rfl rfl]
  have d7 : sto (sto (sto M 53 8 47) 53 7 (sto M 53 8 47 47 0)) 53 6 0 53 7 = M0 3 0 := by rw [sto_ne (by omega), sto_eq rfl rfl, sto_ne (by omega)]; exact hw
  have d6 : sto (sto (sto M 53 8 47) 53 7 (sto M 53 8 47 47 0)) 53 6 0 53 6 = 0 := sto_eq rfl rfl
  generalize sto (sto (sto M 53 8 47) 53 7 (sto M 53 8 47 47 0)) 53 6 0 = M3 at c3 d8 d7 d6 ⊢
  refine Ret.bb (s_addNode d6 (by decide) (by decide)) (fun x ⟨x1, x2, x3, x4, x5⟩ => ?_)
  have c4 : CFr M x.2 := c3.tr (fun a b q1 q2 q3 q4 q5 => x5 a b (by omega) (by omega) (by omega) (by omega))
  have e8 : x.2 53 8 = 47 := (x5 _ _ (by omega) (by omega) (by omega) (by omega)).trans d8
  have e7 : x.2 53 7 = M0 3 0 := (x5 _ _ (by omega) (by omega) (by omega) (by omega)).trans d7
  generalize x.2 = M4 at x2 x3 x4 c4 e8 e7 ⊢
  refine Ret.bb (P := fun M' : jM => (∀ a b, a ≠ 57 → M' a b = M4 a b) ∧ ∀ r, 0 ≤ r → r < 6 → M' 57 r = 0) ?_ (fun M5 ⟨y1, y2⟩ => ?_)
  · refine Ret.it (fun S : jM × Int => 0 ≤ S.2 ∧ S.2 ≤ 6 ∧ (∀ a b, a ≠ 57 → S.1 a b = M4 a b) ∧ ∀ r, 0 ≤ r → r < S.2 → S.1 57 r = 0) (fun S => (6 - S.2).toNat) ?_ 5000 (M4, 0) ⟨Int.le_refl _, by show (0 : Int) ≤ 6; decide, fun _ _ _ => rfl, fun s s0 s1 => by have s1 : s < 0 := s1; omega⟩ (by show (6 - 0 : Int).toNat < 5000; decide)
    rintro ⟨M1, k⟩ ⟨k0, k1, e, g⟩
    dsimp only at k0 k1 g e
    unfold f_X4_build_L25
    dsimp +instances only
    rw [w32_id (x := k) (by omega) (by omega), jp_53_3]
    refine Ret.i (fun c => Rr ⟨e, fun s s0 s1 => g s s0 (by omega)⟩) (fun c => Ret.g ⟨by omega, by omega⟩ (Ret.l (Rl ⟨⟨by show 0 ≤ k + 1; omega, by show k + 1 ≤ 6; omega, fun a b q => ?_, fun s s0 s1 => ?_⟩, by show (6 - (k + 1)).toNat < (6 - k).toNat; omega⟩)))
    · dsimp only
      rw [sto_ne (by omega)]
      exact e a b q
    · have s1 : s < k + 1 := s1
      dsimp only
      by_cases q : s = k
      · rw [q, sto_eq rfl rfl]
      · rw [sto_ne (by omega)]
        exact g s s0 (by omega)
  · have c5 : CFr M M5 := c4.tr (fun a b q1 q2 q3 q4 q5 => y1 a b q5)
    have e8 : M5 53 8 = 47 := (y1 _ _ (by decide)).trans e8
    have e7 : M5 53 7 = M0 3 0 := (y1 _ _ (by decide)).trans e7
    have T0 : Trie M0 M5 1 (fun _ => []) (fun x => min (rowz M0 x).toNat (0 : Int).toNat) (0 : Int).toNat := by
      refine ⟨(y1 _ _ (by decide)).trans x2, by decide, rfl, fun i s i0 i1 s0 s1 => Or.inl ⟨?_, fun j _ _ q => by cases q⟩, fun i j i0 i1 j0 j1 _ => by omega, fun _ _ _ _ _ => Nat.le_refl _, fun _ _ _ => Nat.le_refl _, fun _ _ _ => Nd.o, fun r hr => ?_, fun r q hr hq => ⟨0, by decide, by decide, ?_⟩, fun j j0 j1 => Or.inl ⟨?_, fun r hr hk => ?_⟩⟩
      · have e : i = 0 := by omega
        rw [y1 _ _ (by decide), e]
        exact x3 s s0 s1
      · have := LwR.rng h hr
        rw [y2 r this.1 this.2]
        refine ⟨by decide, by decide, ?_⟩
        dsimp only
        rw [show min (rowz M0 r).toNat (0 : Int).toNat = 0 by omega]
        rfl
      · have hq : q ≤ min (rowz M0 r).toNat (0 : Int).toNat := hq
        have e : q = 0 := by omega
        rw [e]
        rfl
      · have e : j = 0 := by omega
        rw [y1 _ _ (by decide), e]
        exact x4
      · have hk : min (rowz M0 r).toNat (0 : Int).toNat = (rowz M0 r).toNat := hk
        have := rowz_rng h hr.1
        omega
    refine Ret.bb (P := fun M' : jM => CFr M M' ∧ M' 53 7 = M0 3 0 ∧ M' 53 8 = 47 ∧ ∃ n str, n ≤ 37 ∧ Trie M0 M' n str (fun x => min (rowz M0 x).toNat (6 : Int).toNat) (6 : Int).toNat) ?_ (fun M6 ⟨z1, z2, z3, n, str, z4, z5⟩ => ?_)
    · refine Ret.it (fun S : jM × Int => 0 ≤ S.2 ∧ S.2 ≤ 6 ∧ CFr M S.1 ∧ S.1 53 7 = M0 3 0 ∧ S.1 53 8 = 47 ∧ ∃ n str, n ≤ 6 * S.2 + 1 ∧ Trie M0 S.1 n str (fun x => min (rowz M0 x).toNat S.2.toNat) S.2.toNat) (fun S => (6 - S.2).toNat) ?_ 5000 (M5, 0) ⟨Int.le_refl _, by show (0 : Int) ≤ 6; decide, c5, e7, e8, 1, _, by show (1 : Int) ≤ 6 * 0 + 1; decide, T0⟩ (by show (6 - 0 : Int).toNat < 5000; decide)
      rintro ⟨M1, d⟩ ⟨d0, d1, u1, u2, u3, n, str, u4, u5⟩
      dsimp only at d0 d1 u1 u2 u3 u4 u5
      obtain ⟨d, rfl⟩ : ∃ x : Nat, d = x := ⟨d.toNat, by omega⟩
      unfold f_X4_build_L46
      dsimp +instances only
      rw [w32_id (x := (d : Int)) (by omega) (by omega)]
      refine Ret.i (fun c => Rr ⟨u1, u2, u3, n, str, by omega, ?_⟩) (fun c => ?_)
      · have e : (d : Int) = 6 := by omega
        rw [e] at u5
        exact u5
      · refine Ret.bb (P := fun M' : jM => CFr M M' ∧ M' 53 7 = M0 3 0 ∧ M' 53 8 = 47 ∧ ∃ n str, n ≤ 6 * ((d : Int) + 1) + 1 ∧ Trie M0 M' n str (fun x => min (rowz M0 x).toNat (d + 1)) (d + 1)) ?_ (fun M' ⟨v1, v2, v3, n', str', v4, v5⟩ => Rl ⟨⟨by show 0 ≤ (d : Int) + 1; omega, by show (d : Int) + 1 ≤ 6; omega, v1, v2, v3, n', str', v4, v5.cong (fun x _ => rfl) (Nat.le_refl _)⟩, by show (6 - ((d : Int) + 1)).toNat < (6 - (d : Int)).toNat; omega⟩)
        refine Ret.it (fun S : jM × Int => 0 ≤ S.2 ∧ S.2 ≤ M0 63 0 ∧ CFr M S.1 ∧ S.1 53 7 = M0 3 0 ∧ S.1 53 8 = 47 ∧ ∃ n str, n ≤ 6 * (d : Int) + 1 + S.2 ∧ Trie M0 S.1 n str (fun x => min (rowz M0 x).toNat (if x < S.2 then d + 1 else d)) (d + 1)) (fun S => (6 - S.2).toNat) ?_ 5000 (M1, 0) ⟨Int.le_refl _, w2, u1, u2, u3, n, str, by show n ≤ 6 * (d : Int) + 1 + 0; omega, u5.cong (fun x hx => ?_) (by show (d : Int).toNat ≤ d + 1; omega)⟩ (by show (6 - 0 : Int).toNat < 5000; decide)
        · rintro ⟨M2, r⟩ ⟨r0, r1, v1, v2, v3, n', str', v4, v5⟩
          dsimp only at r0 r1 v1 v2 v3 v4 v5
          unfold f_X4_build_L55 f_X4_build_92
          dsimp +instances only
          have f2 := CFr.fr f v1
          rw [f2 1 7 (kp_lo (by decide)), w1, jp_1_6, w32_id (x := M0 63 0) (by omega) (by omega), w32_id (x := r) (by omega) (by omega)]
          refine Ret.i (fun q => Rr ⟨v1, v2, v3, n', str', by omega, v5.cong (fun x hx => ?_) (Nat.le_refl _)⟩) (fun q => ?_)
          · show min (rowz M0 x).toNat (d + 1) = min (rowz M0 x).toNat (if x < r then d + 1 else d)
            rw [if_pos]
            exact Int.lt_of_lt_of_le hx.1.2 q
          · rw [jp_7 r0 (by omega)]
            have mu : (6 - (r + 1)).toNat < (6 - r).toNat := by omega
            have hgo : M2 47 0 = M0 3 0 := (v1 _ _ (by omega) (by decide) (by decide) (by decide) (by decide)).trans hw
            refine Ret.g ⟨by omega, by omega⟩ (Ret.bb (s_isLawful (h.rl f2 r0 (by omega)).1 hgo g0 g1) (fun v ⟨hv, hv2⟩ => ?_))
            rw [w32_id (x := v) (by omega) (by omega)]
            refine Ret.i (fun q2 => Rl ⟨⟨by show 0 ≤ r + 1; omega, by show r + 1 ≤ _; omega, v1, v2, v3, n', str', by show n' ≤ 6 * (d : Int) + 1 + (r + 1); omega, v5.cong (fun x hx => ?_) (Nat.le_refl _)⟩, mu⟩) (fun q2 => Ret.g ⟨by omega, by omega⟩ ?_)
            · dsimp only
              have : x ≠ r := fun e => by
                rw [e] at hx
                have := hv2.mpr hx.2
                omega
              by_cases e : x < r
              · rw [if_pos e, if_pos (by omega)]
              · rw [if_neg e, if_neg (by omega)]
            · have hr : LwR M0 r := ⟨⟨r0, by omega⟩, hv2.mp (by omega)⟩
              refine Ret.bb (s_grow h f2 v5 (by omega) hr (by rw [if_neg (by omega)]) (by omega)) (fun M3 ⟨n2, str2, t1, t2, t3, t4, t5⟩ => Rl ⟨⟨by show 0 ≤ r + 1; omega, by show r + 1 ≤ _; omega, v1.tr t2, t3.trans v2, t4.trans v3, n2, str2, by show n2 ≤ 6 * (d : Int) + 1 + (r + 1); omega, t5.cong (fun x hx => ?_) (Nat.le_refl _)⟩, mu⟩)
              dsimp only
              by_cases e : x = r
              · rw [e, if_pos (by omega), if_pos rfl]
              · rw [if_neg e]
                by_cases e : x < r
                · rw [if_pos e, if_pos (by omega)]
                · rw [if_neg e, if_neg (by omega)]
        · dsimp only
          have := hx.1.1
          rw [if_neg (by omega)]
          rfl
    · refine Ret.bb (s_link h (fun r hr => ?_) z5 z4 z2 z3) (fun M7 ⟨t1, t2⟩ => Ret.s ⟨z1.tr t1, n, str, t2⟩)
      have := rowz_rng h hr.1
      omega
