/-! the class's nodes: how they grow -/
theorem jp_53_0 : jpt 53 0 = 54 := rfl
theorem jp_53_1 : jpt 53 1 = 55 := rfl
theorem jp_53_2 : jpt 53 2 = 56 := rfl
theorem jp_53_3 : jpt 53 3 = 57 := rfl
def Exa (M0 : jM) (k : Int → Nat) (x : List Int) (v : Int) : Prop := (v = 6 ∧ ∀ r, LwR M0 r → k r = (rowz M0 r).toNat → wr M0 r ≠ x) ∨ (LwR M0 v ∧ k v = (rowz M0 v).toNat ∧ wr M0 v = x ∧ ∀ r, LwR M0 r → k r = (rowz M0 r).toNat → wr M0 r = x → v ≤ r)
def Trie (M0 M : jM) (n : Int) (str : Int → List Int) (k : Int → Nat) (D : Nat) : Prop :=
  M 53 6 = n ∧ 1 ≤ n ∧ str 0 = [] ∧
  (∀ i s, 0 ≤ i → i < n → 0 ≤ s → s ≤ 2 → (M 54 (i * 3 + s) = -1 ∧ ∀ j, 0 ≤ j → j < n → str j ≠ s :: str i) ∨ (i < M 54 (i * 3 + s) ∧ M 54 (i * 3 + s) < n ∧ str (M 54 (i * 3 + s)) = s :: str i)) ∧
  (∀ i j, 0 ≤ i → i < n → 0 ≤ j → j < n → str i = str j → i = j) ∧
  (∀ i j, 0 ≤ i → i ≤ j → j < n → (str i).length ≤ (str j).length) ∧
  (∀ j, 0 ≤ j → j < n → (str j).length ≤ D) ∧
  (∀ j, 0 ≤ j → j < n → Nd M0 (str j)) ∧
  (∀ r, LwR M0 r → 0 ≤ M 57 r ∧ M 57 r < n ∧ str (M 57 r) = rv (rowd M0 r) (k r)) ∧
  (∀ r (q : Nat), LwR M0 r → q ≤ k r → ∃ j, 0 ≤ j ∧ j < n ∧ str j = rv (rowd M0 r) q) ∧
  (∀ j, 0 ≤ j → j < n → Exa M0 k (str j) (M 56 j))
theorem Exa.cong {M0 : jM} {k k' : Int → Nat} {x : List Int} {v : Int} (e : ∀ r, LwR M0 r → k' r = k r) (h : Exa M0 k x v) : Exa M0 k' x v := by
  rcases h with ⟨h, h2⟩ | ⟨h, h2, h3, h4⟩
  · exact Or.inl ⟨h, fun r hr hk => h2 r hr (by rw [← e r hr]; exact hk)⟩
  · exact Or.inr ⟨h, by rw [e v h]; exact h2, h3, fun r hr hk => h4 r hr (by rw [← e r hr]; exact hk)⟩
theorem Trie.cong {M0 M : jM} {n : Int} {str : Int → List Int} {k k' : Int → Nat} {D D' : Nat} (e : ∀ r, LwR M0 r → k' r = k r) (hD : D ≤ D') (h : Trie M0 M n str k D) : Trie M0 M n str k' D' := by
  obtain ⟨n6, n1, o, ch, inj, mon, len, nd, pl, all, win⟩ := h
  refine ⟨n6, n1, o, ch, inj, mon, fun j j0 j1 => Nat.le_trans (len j j0 j1) hD, nd, fun r hr => by rw [e r hr]; exact pl r hr, fun r q hr hq => all r q hr (by rw [← e r hr]; exact hq), fun j j0 j1 => (win j j0 j1).cong e⟩
theorem rv_ne {d : Int → Int} {n m : Nat} {e : Int → Int} (h : n ≠ m) : rv d n ≠ rv e m := fun q => h (rv_inj q)
/-- a new node -/
theorem Trie.new {M0 M M' : jM} {n : Int} {str : Int → List Int} {k : Int → Nat} {D : Nat} {p s : Int} (T : Trie M0 M n str k D) (p0 : 0 ≤ p) (p1 : p < n) (s0 : 0 ≤ s) (s1 : s ≤ 2) (hc : M 54 (p * 3 + s) < 0) (hN : Nd M0 (s :: str p)) (hD : (str p).length + 1 = D) (e6 : M' 53 6 = n + 1) (e54 : M' 54 (p * 3 + s) = n) (e54n : ∀ t, 0 ≤ t → t ≤ 2 → M' 54 (n * 3 + t) = -1) (e54o : ∀ b, b ≠ p * 3 + s → ¬ (n * 3 ≤ b ∧ b < n * 3 + 3) → M' 54 b = M 54 b) (e57 : ∀ b, M' 57 b = M 57 b) (e56n : M' 56 n = 6) (e56 : ∀ b, b ≠ n → M' 56 b = M 56 b) : Trie M0 M' (n + 1) (fun j => if j = n then s :: str p else str j) k D := by
  obtain ⟨n6, n1, o, ch, inj, mon, len, nd, pl, all, win⟩ := T
  have hno : ∀ j, 0 ≤ j → j < n → str j ≠ s :: str p := by
    rcases ch p s p0 p1 s0 s1 with q | q
    · exact q.2
    · omega
  have sn : (if n = n then s :: str p else str n) = s :: str p := if_pos rfl
  have so : ∀ j, j < n → (if j = n then s :: str p else str j) = str j := fun j hj => if_neg (by omega)
  refine ⟨e6, by omega, ?_, ?_, ?_, ?_, ?_, ?_, ?_, ?_, ?_⟩
  · dsimp only
    rw [so 0 (by omega)]
    exact o
  · intro i t i0 i1 t0 t1
    by_cases e : i = n
    · subst e
      refine Or.inl ⟨e54n t t0 t1, fun j j0 j1 => ?_⟩
      dsimp only
      rw [sn]
      intro q
      by_cases e2 : j = i
      · rw [e2, sn] at q
        have := congrArg List.length q
        simp only [List.length_cons] at this
        omega
      · rw [so j (by omega)] at q
        have q1 := congrArg List.length q
        have q2 := len j j0 (by omega)
        simp only [List.length_cons] at q1
        omega
    · dsimp only
      rw [so i (by omega)]
      by_cases e2 : i = p ∧ t = s
      · rw [e2.1, e2.2, e54, sn]
        exact Or.inr ⟨p1, by omega, rfl⟩
      · have ec : M' 54 (i * 3 + t) = M 54 (i * 3 + t) := e54o _ (by omega) (by omega)
        rw [ec]
        rcases ch i t i0 (by omega) t0 t1 with ⟨q, q2⟩ | ⟨q, q2, q3⟩
        · refine Or.inl ⟨q, fun j j0 j1 => ?_⟩
          by_cases e3 : j = n
          · rw [e3, sn]
            intro z
            injection z with z1 z2
            exact e2 ⟨inj i p i0 (by omega) p0 p1 z2.symm, z1.symm⟩
          · rw [so j (by omega)]
            exact q2 j j0 (by omega)
        · refine Or.inr ⟨q, by omega, ?_⟩
          rw [so _ q2]
          exact q3
  · intro i j i0 i1 j0 j1
    dsimp only
    by_cases e : i = n
    · by_cases e2 : j = n
      · exact fun _ => by omega
      · rw [e, sn, so j (by omega)]
        exact fun q => absurd q.symm (hno j j0 (by omega))
    · by_cases e2 : j = n
      · rw [e2, sn, so i (by omega)]
        exact fun q => absurd q (hno i i0 (by omega))
      · rw [so i (by omega), so j (by omega)]
        exact inj i j i0 (by omega) j0 (by omega)
  · intro i j i0 ij j1
    dsimp only
    by_cases e : j = n
    · rw [e, sn, List.length_cons, hD]
      by_cases e2 : i = n
      · rw [e2, sn, List.length_cons]
        omega
      · rw [so i (by omega)]
        exact len i i0 (by omega)
    · rw [so i (by omega), so j (by omega)]
      exact mon i j i0 ij (by omega)
  · intro j j0 j1
    dsimp only
    by_cases e : j = n
    · rw [e, sn, List.length_cons]
      omega
    · rw [so j (by omega)]
      exact len j j0 (by omega)
  · intro j j0 j1
    dsimp only
    by_cases e : j = n
    · rw [e, sn]
      exact hN
    · rw [so j (by omega)]
      exact nd j j0 (by omega)
  · intro r hr
    obtain ⟨a, b, c⟩ := pl r hr
    rw [e57]
    dsimp only
    rw [so _ b]
    exact ⟨a, by omega, c⟩
  · intro r q hr hq
    obtain ⟨j, a, b, c⟩ := all r q hr hq
    refine ⟨j, a, by omega, ?_⟩
    dsimp only
    rw [so _ b]
    exact c
  · intro j j0 j1
    dsimp only
    by_cases e : j = n
    · rw [e, sn, e56n]
      refine Or.inl ⟨rfl, fun r hr hk q => ?_⟩
      obtain ⟨j2, a, b, c⟩ := all r (k r) hr (Nat.le_refl _)
      rw [hk] at c
      exact hno j2 a b (c.trans q)
    · rw [so j (by omega), e56 j e]
      exact win j j0 (by omega)
/-- a row goes one sign on -/
theorem Trie.adv {M0 M M' : jM} {n : Int} {str : Int → List Int} {k : Int → Nat} {D d : Nat} {r c : Int} (h : jInv M0) (T : Trie M0 M n str k D) (hr : LwR M0 r) (kd : k r = d) (kz : d < (rowz M0 r).toNat) (c0 : 0 ≤ c) (c1 : c < n) (c2 : str c = rv (rowd M0 r) (d + 1)) (e6 : M' 53 6 = M 53 6) (e54 : ∀ b, M' 54 b = M 54 b) (e57 : M' 57 r = c) (e57o : ∀ x, x ≠ r → M' 57 x = M 57 x) (e56 : (d + 1 = (rowz M0 r).toNat ∧ M' 56 c = min (M 56 c) r) ∨ (d + 1 ≠ (rowz M0 r).toNat ∧ M' 56 c = M 56 c)) (e56o : ∀ x, x ≠ c → M' 56 x = M 56 x) : Trie M0 M' n str (fun x => if x = r then d + 1 else k x) D := by
  obtain ⟨n6, n1, o, ch, inj, mon, len, nd, pl, all, win⟩ := T
  have kr : (if r = r then d + 1 else k r) = d + 1 := if_pos rfl
  have ko : ∀ x, x ≠ r → (if x = r then d + 1 else k x) = k x := fun x hx => if_neg hx
  have hrr := LwR.rng h hr
  refine ⟨e6.trans n6, n1, o, fun i s => by rw [e54]; exact ch i s, inj, mon, len, nd, fun x hx => ?_, fun x q hx hq => ?_, fun j j0 j1 => ?_⟩
  · dsimp only
    by_cases e : x = r
    · rw [e, kr, e57]
      exact ⟨c0, c1, c2⟩
    · rw [ko x e, e57o x e]
      exact pl x hx
  · dsimp only at hq
    by_cases e : x = r
    · rw [e, kr] at hq
      rw [e]
      by_cases e2 : q = d + 1
      · exact ⟨c, c0, c1, by rw [e2]; exact c2⟩
      · exact all r q hr (by omega)
    · rw [ko x e] at hq
      exact all x q hx hq
  · have w := win j j0 j1
    by_cases ej : j = c ∧ d + 1 = (rowz M0 r).toNat
    · obtain ⟨ej, ed⟩ := ej
      rcases e56 with ⟨_, e56⟩ | ⟨e56, _⟩
      · rw [ej] at w ⊢
        rw [e56]
        have hwr : wr M0 r = str c := by
          rw [c2, ed]
          rfl
        rcases w with ⟨w, w2⟩ | ⟨w, w2, w3, w4⟩
        · rw [w, show min (6 : Int) r = r by omega]
          refine Or.inr ⟨hr, by dsimp only; rw [kr]; exact ed, hwr, fun x hx hk hp => ?_⟩
          by_cases e : x = r
          · omega
          · dsimp only at hk
            rw [ko x e] at hk
            exact absurd hp (w2 x hx hk)
        · have hv : M 56 c ≠ r := fun e => by rw [e] at w2; omega
          by_cases e : M 56 c ≤ r
          · rw [show min (M 56 c) r = M 56 c by omega]
            refine Or.inr ⟨w, by dsimp only; rw [ko _ hv]; exact w2, w3, fun x hx hk hp => ?_⟩
            by_cases e : x = r
            · omega
            · dsimp only at hk
              rw [ko x e] at hk
              exact w4 x hx hk hp
          · rw [show min (M 56 c) r = r by omega]
            refine Or.inr ⟨hr, by dsimp only; rw [kr]; exact ed, hwr, fun x hx hk hp => ?_⟩
            by_cases e : x = r
            · omega
            · dsimp only at hk
              rw [ko x e] at hk
              have := w4 x hx hk hp
              omega
      · exact absurd ed e56
    · have e56j : M' 56 j = M 56 j := by
        by_cases e : j = c
        · rcases e56 with ⟨q, _⟩ | ⟨_, q⟩
          · exact absurd ⟨e, q⟩ ej
          · rw [e]
            exact q
        · exact e56o j e
      rw [e56j]
      have hw : d + 1 = (rowz M0 r).toNat → wr M0 r ≠ str j := fun ed q => by
        refine ej ⟨inj j c j0 j1 c0 c1 ?_, ed⟩
        rw [← q, c2, ed]
        rfl
      rcases w with ⟨w, w2⟩ | ⟨w, w2, w3, w4⟩
      · refine Or.inl ⟨w, fun x hx hk => ?_⟩
        dsimp only at hk
        by_cases e : x = r
        · rw [e, kr] at hk
          rw [e]
          exact hw hk
        · rw [ko x e] at hk
          exact w2 x hx hk
      · have hv : M 56 j ≠ r := fun e => by rw [e] at w2; omega
        refine Or.inr ⟨w, by dsimp only; rw [ko _ hv]; exact w2, w3, fun x hx hk hp => ?_⟩
        dsimp only at hk
        by_cases e : x = r
        · rw [e, kr] at hk
          rw [e] at hp
          exact absurd hp (hw hk)
        · rw [ko x e] at hk
          exact w4 x hx hk hp
theorem s_addNode {M : jM} {n : Int} (hn : M 53 6 = n) (n0 : 0 ≤ n) (n1 : n < 37) : Ret (f_X4_addNode M 53) (fun x => x.1 = n ∧ x.2 53 6 = n + 1 ∧ (∀ s, 0 ≤ s → s ≤ 2 → x.2 54 (n * 3 + s) = -1) ∧ x.2 56 n = 6 ∧ ∀ a b, ¬ (a = 53 ∧ b = 6) → ¬ (a = 54 ∧ n * 3 ≤ b ∧ b < n * 3 + 3) → ¬ (a = 55 ∧ b = n) → ¬ (a = 56 ∧ b = n) → x.2 a b = M a b) := by
  unfold f_X4_addNode
  rw [hn, w32_id (x := n) (by omega) (by omega)]
  refine Ret.t n1 (Ret.bb (P := fun M1 : jM => (∀ s, 0 ≤ s → s ≤ 2 → M1 54 (n * 3 + s) = -1) ∧ ∀ a b, ¬ (a = 54 ∧ n * 3 ≤ b ∧ b < n * 3 + 3) → M1 a b = M a b) ?_ (fun M1 ⟨c1, c2⟩ => ?_))
  · refine Ret.it (fun S : jM × Int => 0 ≤ S.2 ∧ S.2 ≤ 3 ∧ (∀ s, 0 ≤ s → s < S.2 → S.1 54 (n * 3 + s) = -1) ∧ ∀ a b, ¬ (a = 54 ∧ n * 3 ≤ b ∧ b < n * 3 + 3) → S.1 a b = M a b) (fun S => (3 - S.2).toNat) ?_ 5000 (M, 0) ⟨Int.le_refl _, by show (0 : Int) ≤ 3; decide, fun s s0 s1 => by have s1 : s < 0 := s1; omega, fun _ _ _ => rfl⟩ (by show (3 - 0 : Int).toNat < 5000; decide)
    rintro ⟨M1, k⟩ ⟨k0, k1, g, e⟩
    dsimp only at k0 k1 g e
    unfold f_X4_addNode_L13
    dsimp +instances only
    have e6 : M1 53 6 = n := (e 53 6 (by omega)).trans hn
    rw [w32_id (x := k) (by omega) (by omega), e6, jp_53_0, w32_id (x := n * 3 + k) (by omega) (by omega)]
    refine Ret.i (fun c => Rr ⟨fun s s0 s1 => g s s0 (by omega), e⟩) (fun c => Ret.g ⟨by omega, by omega⟩ (Ret.l (Rl ⟨⟨by show 0 ≤ k + 1; omega, by show k + 1 ≤ 3; omega, fun s s0 s1 => ?_, fun a b q => ?_⟩, by show (3 - (k + 1)).toNat < (3 - k).toNat; omega⟩)))
    · have s1 : s < k + 1 := s1
      dsimp only
      by_cases q : s = k
      · rw [q, sto_eq rfl rfl]
      · rw [sto_ne (by omega)]
        exact g s s0 (by omega)
    · dsimp only
      rw [sto_ne (by omega)]
      exact e a b q
  · have e6 : M1 53 6 = n := (c2 53 6 (by omega)).trans hn
    rw [e6, jp_53_1, jp_53_2, w32_id (x := n) (by omega) (by omega)]
    refine Ret.g ⟨n0, n1⟩ (Ret.l ?_)
    have e7 : sto M1 55 n 0 53 6 = n := by rw [sto_ne (by omega)]; exact e6
    rw [e7, w32_id (x := n) (by omega) (by omega)]
    refine Ret.g ⟨n0, n1⟩ (Ret.l (Ret.l (Ret.s ?_)))
    have e9 : sto (sto M1 55 n 0) 56 n 6 53 6 = n := by rw [sto_ne (by omega)]; exact e7
    rw [e9]
    dsimp only
    refine ⟨?_, ?_, fun s s0 s1 => ?_, ?_, fun a b q1 q2 q3 q4 => ?_⟩
    · rw [sto_eq rfl rfl]
      omega
    · rw [sto_eq rfl rfl]
    · rw [sto_ne (by omega), sto_ne (by omega), sto_ne (by omega)]
      exact c1 s s0 s1
    · rw [sto_ne (by omega), sto_eq rfl rfl]
    · rw [sto_ne q1, sto_ne q4, sto_ne q3]
      exact c2 a b q2
/-- what the building leaves -/
def CFr (M M' : jM) : Prop := ∀ a b, ¬ (a = 53 ∧ (b = 6 ∨ b = 7 ∨ b = 8)) → a ≠ 54 → a ≠ 55 → a ≠ 56 → a ≠ 57 → M' a b = M a b
theorem CFr.tr {M M1 M2 : jM} (h : CFr M M1) (h2 : CFr M1 M2) : CFr M M2 := fun a b q1 q2 q3 q4 q5 => (h2 a b q1 q2 q3 q4 q5).trans (h a b q1 q2 q3 q4 q5)
theorem CFr.fr {M0 M M' : jM} (f : Fr M0 M) (h : CFr M M') : Fr M0 M' := fun a b k => (h a b (by unfold kp at k; omega) (by unfold kp at k; omega) (by unfold kp at k; omega) (by unfold kp at k; omega) (by unfold kp at k; omega)).trans (f a b k)
theorem s_grow47 {M0 M : jM} {n : Int} {str : Int → List Int} {k : Int → Nat} {D d : Nat} {r l5 : Int} (h : jInv M0) (f : Fr M0 M) (T : Trie M0 M n str k D) (hn : n ≤ 37) (hr : LwR M0 r) (kd : k r = d) (kz : d < (rowz M0 r).toNat) (l0 : 0 ≤ l5) (l1 : l5 < 111) (c0 : 0 ≤ M 54 l5) (c1 : M 54 l5 < n) (c2 : str (M 54 l5) = rv (rowd M0 r) (d + 1)) : Ret (f_X4_grow_47 M 53 (8 + r) r d l5) (fun M' => (∀ a b, a ≠ 56 → a ≠ 57 → M' a b = M a b) ∧ Trie M0 M' n str (fun x => if x = r then d + 1 else k x) D) := by
  have hrr := LwR.rng h hr
  have hz := rowz_rng h hr.1
  obtain ⟨l, -, -⟩ := h.rl f hr.1.1 hr.1.2
  have lz : M (8 + r) 0 = rowz M0 r := l.2.2.1
  unfold f_X4_grow_47
  rw [w32_id (x := l5) (by omega) (by omega), w32_id (x := r) (by omega) (by omega), jp_53_3, jp_53_2, jp_53_0]
  refine Ret.g ⟨l0, l1⟩ (Ret.g ⟨by omega, by omega⟩ (Ret.l ?_))
  have e1 : sto M 57 r (M 54 l5) (8 + r) 0 = rowz M0 r := by rw [sto_ne (by omega)]; exact lz
  have e2 : sto M 57 r (M 54 l5) 57 r = M 54 l5 := sto_eq rfl rfl
  rw [e1, e2, w32_id (x := (d : Int)) (by omega) (by omega), w32_id (x := rowz M0 r - 1) (by omega) (by omega)]
  generalize hc : M 54 l5 = c at c0 c1 c2 e2 ⊢
  rw [w32_id (x := c) (by omega) (by omega)]
  refine Ret.i (fun q => Ret.g ⟨by omega, by omega⟩ (Ret.g ⟨by omega, by omega⟩ (Ret.g ⟨by omega, by omega⟩ (Ret.g ⟨by omega, by omega⟩ (Ret.l (Ret.s ⟨fun a b q1 q2 => by rw [sto_ne (by omega), sto_ne (by omega)], ?_⟩)))))) (fun q => Ret.s ⟨fun a b q1 q2 => by rw [sto_ne (by omega)], ?_⟩)
  · have e3 : sto M 57 r c 56 c = M 56 c := sto_ne (by omega)
    have w6 : 0 ≤ M 56 c ∧ M 56 c ≤ 6 := by
      rcases T.2.2.2.2.2.2.2.2.2.2 c c0 c1 with ⟨w, -⟩ | ⟨w, -⟩
      · omega
      · have := LwR.rng h w
        omega
    rw [e3, w32_id (x := M 56 c) (by omega) (by omega)]
    refine T.adv h hr kd kz c0 c1 c2 ?_ (fun b => ?_) ?_ (fun x hx => ?_) (Or.inl ⟨by omega, sto_eq rfl rfl⟩) (fun x hx => ?_)
    · rw [sto_ne (by omega), sto_ne (by omega)]
    · rw [sto_ne (by omega), sto_ne (by omega)]
    · rw [sto_ne (by omega), sto_eq rfl rfl]
    · rw [sto_ne (by omega), sto_ne (by omega)]
    · rw [sto_ne (by omega), sto_ne (by omega)]
  · refine T.adv h hr kd kz c0 c1 c2 ?_ (fun b => ?_) ?_ (fun x hx => ?_) (Or.inr ⟨by omega, ?_⟩) (fun x hx => ?_)
    · rw [sto_ne (by omega)]
    · rw [sto_ne (by omega)]
    · rw [sto_eq rfl rfl]
    · rw [sto_ne (by omega)]
    · rw [sto_ne (by omega)]
    · rw [sto_ne (by omega)]
theorem s_grow {M0 M : jM} {n : Int} {str : Int → List Int} {k : Int → Nat} {d : Nat} {r : Int} (h : jInv M0) (f : Fr M0 M) (T : Trie M0 M n str k (d + 1)) (hn : n < 37) (hr : LwR M0 r) (kd : k r = min (rowz M0 r).toNat d) (hd : d ≤ 6) : Ret (f_X4_grow M 53 (8 + r) r d) (fun M' => ∃ n' str', n' ≤ n + 1 ∧ CFr M M' ∧ M' 53 7 = M 53 7 ∧ M' 53 8 = M 53 8 ∧ Trie M0 M' n' str' (fun x => if x = r then min (rowz M0 r).toNat (d + 1) else k x) (d + 1)) := by
  have hrr := LwR.rng h hr
  have hz := rowz_rng h hr.1
  have hdg := rowd_rng h hr.1
  obtain ⟨l, -, -⟩ := h.rl f hr.1.1 hr.1.2
  unfold f_X4_grow
  rw [s_signAt l (by omega) (by omega)]
  by_cases c : 0 ≤ (d : Int) ∧ (d : Int) < rowz M0 r
  · rw [if_pos c]
    have kd' : k r = d := by omega
    have hs := hdg d c.1 c.2
    obtain ⟨n6, n1, o, ch, inj, mon, len, nd, pl, all, win⟩ := id T
    obtain ⟨p0, p1, p2⟩ := pl r hr
    have hNd : Nd M0 (rv (rowd M0 r) (d + 1)) := Or.inr ⟨r, d + 1, hr, by omega, rfl⟩
    refine Ret.b ⟨rowd M0 r d, rfl, ?_⟩
    dsimp only
    rw [w32_id (x := rowd M0 r d) (by omega) (by omega), w32_id (x := r) (by omega) (by omega), jp_53_3, jp_53_0]
    generalize hp : M 57 r = p at p0 p1 p2
    generalize hsg : rowd M0 r d = s at hs
    rw [w32_id (x := p * 3 + s) (by omega) (by omega)]
    have p2' : s :: str p = rv (rowd M0 r) (d + 1) := by
      rw [p2, kd', rv, hsg]
    have mn : min (rowz M0 r).toNat (d + 1) = d + 1 := by omega
    rw [mn]
    refine Ret.t hs.1 (Ret.g ⟨by omega, by omega⟩ (Ret.g ⟨by omega, by omega⟩ ?_))
    rcases ch p s p0 p1 hs.1 hs.2 with ⟨q, q2⟩ | ⟨q, q2, q3⟩
    · rw [q]
      refine Ret.f (by decide) (Ret.bb (s_addNode n6 (by omega) hn) (fun x ⟨x1, x2, x3, x4, x5⟩ => ?_))
      rw [x1]
      refine Ret.g ⟨by omega, by omega⟩ (Ret.l ?_)
      have T2 : Trie M0 (sto x.2 54 (p * 3 + s) n) (n + 1) (fun j => if j = n then s :: str p else str j) k (d + 1) := by
        refine T.new p0 p1 hs.1 hs.2 (by omega) (by rw [p2']; exact hNd) (by rw [p2, rv_len, kd']) ?_ (sto_eq rfl rfl) (fun t t0 t1 => ?_) (fun b q3 q4 => ?_) (fun b => ?_) ?_ (fun b q3 => ?_)
        · rw [sto_ne (by omega)]; exact x2
        · rw [sto_ne (by omega)]; exact x3 t t0 t1
        · rw [sto_ne (by omega)]; exact x5 _ _ (by omega) (by omega) (by omega) (by omega)
        · rw [sto_ne (by omega)]; exact x5 _ _ (by omega) (by omega) (by omega) (by omega)
        · rw [sto_ne (by omega)]; exact x4
        · rw [sto_ne (by omega)]; exact x5 _ _ (by omega) (by omega) (by omega) (by omega)
      have f2 : CFr M (sto x.2 54 (p * 3 + s) n) := fun a b q1 q2 q3 q4 q5 => by
        rw [sto_ne (by omega)]
        exact x5 a b (by omega) (by omega) (by omega) (by omega)
      have ec : sto x.2 54 (p * 3 + s) n 54 (p * 3 + s) = n := sto_eq rfl rfl
      refine Ret.m (s_grow47 h (f2.fr f) T2 (by omega) hr kd' (by omega) (by omega) (by omega) (by rw [ec]; omega) (by rw [ec]; omega) (by rw [ec, if_pos rfl]; exact p2')) (fun M' ⟨g1, g2⟩ => ⟨n + 1, _, Int.le_refl _, fun a b q1 q2 q3 q4 q5 => (g1 a b q4 q5).trans (f2 a b q1 q2 q3 q4 q5), ?_, ?_, g2⟩)
      · rw [g1 _ _ (by decide) (by decide), sto_ne (by omega)]
        exact x5 _ _ (by omega) (by omega) (by omega) (by omega)
      · rw [g1 _ _ (by decide) (by decide), sto_ne (by omega)]
        exact x5 _ _ (by omega) (by omega) (by omega) (by omega)
    · rw [w32_id (x := M 54 (p * 3 + s)) (by omega) (by omega)]
      refine Ret.t (by omega) (Ret.m (s_grow47 h f T (by omega) hr kd' (by omega) (by omega) (by omega) (by omega) q2 (by rw [q3]; exact p2')) (fun M' ⟨g1, g2⟩ => ⟨n, _, by omega, fun a b q1 q2 q3 q4 q5 => g1 a b q4 q5, g1 _ _ (by decide) (by decide), g1 _ _ (by decide) (by decide), g2⟩))
  · rw [if_neg c]
    refine Ret.b ⟨-1, rfl, ?_⟩
    dsimp only
    rw [w32_id (x := -1) (by decide) (by decide)]
    refine Ret.f (by decide) (Ret.s ⟨n, str, by omega, fun _ _ _ _ _ _ _ => rfl, rfl, rfl, T.cong (fun x _ => ?_) (Nat.le_refl _)⟩)
    by_cases e : x = r
    · rw [if_pos e, e, kd]
      omega
    · rw [if_neg e]
