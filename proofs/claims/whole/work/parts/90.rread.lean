/-! the reference reads -/
def SL (M : jM) : Int → List Int → Prop
  | _, [] => True
  | b, x :: t => M 63 b = x ∧ SL M (b + 1) t
theorem SL.app {M : jM} : ∀ {l l' : List Int} {b : Int}, SL M b l → SL M (b + (l.length : Int)) l' → SL M b (l ++ l')
  | [], l', b, _, h => by
    have e : b + (([] : List Int).length : Int) = b := Int.add_zero b
    rw [e] at h; exact h
  | x :: t, l', b, h1, h => ⟨h1.1, SL.app h1.2 (by
    have e : b + ((x :: t).length : Int) = b + 1 + (t.length : Int) := by show b + ((t.length + 1 : Nat) : Int) = _; omega
    rw [e] at h; exact h)⟩
theorem SL.fr {M M' : jM} : ∀ {l : List Int} {b : Int}, SL M b l → (∀ i, b ≤ i → i < b + (l.length : Int) → M' 63 i = M 63 i) → SL M' b l
  | [], _, _, _ => trivial
  | x :: t, b, h, e => by
    have e : ∀ i, b ≤ i → i < b + ((t.length + 1 : Nat) : Int) → M' 63 i = M 63 i := e
    exact ⟨by rw [e b (by omega) (by omega)]; exact h.1, h.2.fr (fun i i0 i1 => e i (by omega) (by omega))⟩
theorem SL.to_step {M : jM} {fr : Int} : ∀ {l : List Int} {j : Nat}, SL M (fr + (j : Int)) l → stepT M fr j l.length = l
  | [], _, _ => rfl
  | x :: t, j, h => by
    show stepT M fr j (t.length + 1) = _
    rw [stepT_s, h.1, SL.to_step (l := t) (j := j + 1) (by rw [show fr + ((j + 1 : Nat) : Int) = fr + (j : Int) + 1 by omega]; exact h.2)]
def QB (M0 : jM) (tp : Int → Int) (e act : Int) : Prop := M0 62 4 = act ∧ 0 ≤ act ∧ act ≤ 4 ∧ M0 62 6 = e ∧ 0 ≤ e ∧ e ≤ 100 ∧ ∀ i, 0 ≤ i → i < e → M0 63 (132 + i) = tp i ∧ 0 ≤ tp i ∧ tp i ≤ 127
def RQ (M0 M : jM) (act : Int) (ok : Bool) (p o : Int) (l : List Int) : Prop := (∀ a b, ¬ (a = 62 ∧ (b = 5 ∨ b = 7 ∨ b = 8)) → ¬ (a = 63 ∧ (b = 247 + act ∨ (252 + 140 * act ≤ b ∧ b < 392 + 140 * act))) → M a b = M0 a b) ∧ M 62 5 = p ∧ M 62 7 = (if ok = true then 0 else 1) ∧ M 62 8 = o ∧ M 63 (247 + act) = (l.length : Int) ∧ SL M (252 + 140 * act) l
theorem QB.rng {M0 : jM} {tp : Int → Int} {e act p : Int} (h : QB M0 tp e act) (p0 : 0 ≤ p) : -1 ≤ nxt tp e p ∧ nxt tp e p ≤ 127 := by
  unfold nxt
  by_cases c : p < e
  · rw [if_pos c]; have := h.2.2.2.2.2.2 p p0 c; omega
  · rw [if_neg c]; decide
theorem q_here {M0 M : jM} {tp : Int → Int} {e act p o : Int} {ok : Bool} {l : List Int} (hb : QB M0 tp e act) (h : RQ M0 M act ok p o l) (p0 : 0 ≤ p) (p1 : p ≤ e) : f_X10_here M 62 = some (nxt tp e p) := by
  obtain ⟨b1, b2, b3, b4, b5, b6, b7⟩ := hb
  obtain ⟨h1, h2, -⟩ := h
  unfold f_X10_here nxt
  rw [h2, h1 62 6 (by omega) (by omega), b4, w32_id (x := p) (by omega) (by omega), w32_id (x := e) (by omega) (by omega), w32_id (x := 132 + p) (by omega) (by omega), jp_62_1]
  by_cases c : p < e
  · rw [if_neg (by omega), if_pos c, h1 63 (132 + p) (by omega) (by omega), (b7 p p0 c).1]
    unfold grd
    rw [if_pos ⟨by omega, by omega⟩]
  · rw [if_pos (by omega), if_neg c]
theorem RQ.spot {M0 M : jM} {act p o : Int} {ok : Bool} {l : List Int} {q : Int} (h : RQ M0 M act ok p o l) : RQ M0 (sto M 62 5 q) act ok q o l := ⟨fun a b q1 q2 => by rw [sto_ne (by omega)]; exact h.1 a b q1 q2, sto_eq rfl rfl, by rw [sto_ne (by omega)]; exact h.2.2.1, by rw [sto_ne (by omega)]; exact h.2.2.2.1, by rw [sto_ne (by omega)]; exact h.2.2.2.2.1, h.2.2.2.2.2.fr (fun i _ _ => by rw [sto_ne (by omega)])⟩
theorem RQ.wrong {M0 M : jM} {act p o : Int} {ok : Bool} {l : List Int} {ok' : Bool} {v : Int} (hv : v = if ok' = true then 0 else 1) (h : RQ M0 M act ok p o l) : RQ M0 (sto M 62 7 v) act ok' p o l := ⟨fun a b q1 q2 => by rw [sto_ne (by omega)]; exact h.1 a b q1 q2, by rw [sto_ne (by omega)]; exact h.2.1, by rw [sto_eq rfl rfl]; exact hv, by rw [sto_ne (by omega)]; exact h.2.2.2.1, by rw [sto_ne (by omega)]; exact h.2.2.2.2.1, h.2.2.2.2.2.fr (fun i _ _ => by rw [sto_ne (by omega)])⟩
theorem RQ.opn {M0 M : jM} {act p o : Int} {ok : Bool} {l : List Int} {q : Int} (h : RQ M0 M act ok p o l) : RQ M0 (sto M 62 8 q) act ok p q l := ⟨fun a b q1 q2 => by rw [sto_ne (by omega)]; exact h.1 a b q1 q2, by rw [sto_ne (by omega)]; exact h.2.1, by rw [sto_ne (by omega)]; exact h.2.2.1, sto_eq rfl rfl, by rw [sto_ne (by omega)]; exact h.2.2.2.2.1, h.2.2.2.2.2.fr (fun i _ _ => by rw [sto_ne (by omega)])⟩
theorem q_must {M0 M : jM} {tp : Int → Int} {e act c o : Int} {s : Bool × Int} {l : List Int} (hb : QB M0 tp e act) (h : RQ M0 M act s.1 s.2 o l) (p0 : 0 ≤ s.2) (p1 : s.2 ≤ e) (c0 : 0 ≤ c) (c1 : c ≤ 1000) : Ret (f_X10_must M 62 c) (fun M' => RQ M0 M' act (takeS tp e s c).1 (takeS tp e s c).2 o l) := by
  obtain ⟨ok, p⟩ := s
  dsimp only at h p0 p1
  have hr := hb.rng p0
  have w1 : Ret (f_X10_must_16 M 62 62) (fun M' => RQ M0 M' act false p o l) := by
    unfold f_X10_must_16 f_X10_must_21 f_X10_must_41
    have h2 := h.wrong (ok' := false) (v := 1) rfl
    refine Ret.g (by decide) (Ret.l ?_)
    rw [h2.2.2.1, h2.2.1]
    refine Ret.f w32_1n (Ret.l (Ret.s ?_))
    rw [Int.add_zero]
    exact h2.spot
  unfold f_X10_must takeS
  rw [q_here hb h p0 p1, h.2.2.1]
  cases ok
  · rw [if_neg (show ¬ (false = true) by decide), if_neg (show ¬ ((false, p).1 = true ∧ nxt tp e (false, p).2 = c) from fun z => by cases z.1)]
    exact Ret.f w32_1n w1
  · rw [if_pos rfl]
    refine Ret.t w32_0 (Ret.b ⟨_, rfl, ?_⟩)
    dsimp only
    rw [w32_id (x := nxt tp e p) (by omega) (by omega), w32_id (x := c) (by omega) (by omega)]
    refine Ret.i (fun q => ?_) (fun q => ?_)
    · rw [if_pos ⟨rfl, q⟩]
      unfold f_X10_must_21 f_X10_must_41
      have h2 := h.wrong (ok' := true) (v := 0) rfl
      refine Ret.g (by decide) (Ret.l ?_)
      rw [h2.2.2.1, h2.2.1]
      exact Ret.t w32_0 (Ret.l (Ret.s h2.spot))
    · rw [if_neg (fun z => q z.2)]
      exact w1
theorem q_spells {M0 M : jM} {tp : Int → Int} {e act txt o : Int} {s : Bool × Int} {l : List Int} (hb : QB M0 tp e act) (h : RQ M0 M act s.1 s.2 o l) (p0 : 0 ≤ s.2) (p1 : s.2 ≤ e) (t0 : 0 ≤ txt) (t1 : txt < 6) : Ret (f_X10_spells M 62 txt) (fun M' => RQ M0 M' act (wS tp e txt s (jtxL txt).toNat).1 (wS tp e txt s (jtxL txt).toNat).2 o l) := by
  have hL := jtx_rg t0 t1 (k := 0) (by decide) (by decide)
  unfold f_X10_spells
  refine Ret.bb (P := fun M' => RQ M0 M' act (wS tp e txt s (jtxL txt).toNat).1 (wS tp e txt s (jtxL txt).toNat).2 o l) ?_ (fun M' h' => Ret.s h')
  refine Ret.it (fun S : jM × Int => 0 ≤ S.2 ∧ S.2 ≤ jtxL txt ∧ RQ M0 S.1 act (wS tp e txt s S.2.toNat).1 (wS tp e txt s S.2.toNat).2 o l) (fun S => (jtxL txt - S.2).toNat) ?_ 5000 (M, 0) ⟨by show (0 : Int) ≤ 0; decide, by show 0 ≤ jtxL txt; omega, h⟩ (by show (jtxL txt - 0).toNat < 5000; omega)
  rintro ⟨M1, k⟩ ⟨k0, k1, hc⟩
  dsimp only at k0 k1 hc
  unfold f_X10_spells_L2
  dsimp +instances only
  rw [w32_id (x := jtxL txt) (by omega) (by omega), w32_id (x := k) (by omega) (by omega)]
  refine Ret.i (fun c => Rr ?_) (fun c => Ret.g ⟨k0, by omega⟩ ?_)
  · have : k = jtxL txt := by omega
    rw [← this]; exact hc
  · have hb2 := wS_b (tp := tp) (e := e) (s := s) t0 t1 p1 (k := k.toNat) (by omega)
    have hch := jtx_rg t0 t1 (k := k) k0 (by omega)
    refine Ret.bb (q_must hb hc (by omega) hb2.2 hch.1 (by omega)) (fun M2 h2 => Rl ⟨⟨by show 0 ≤ k + 1; omega, by show k + 1 ≤ _; omega, ?_⟩, by show (jtxL txt - (k + 1)).toNat < (jtxL txt - k).toNat; omega⟩)
    dsimp only
    rw [show (k + 1).toNat = k.toNat + 1 by omega]
    show RQ M0 M2 act (takeS tp e (wS tp e txt s k.toNat) (jtxC txt (k.toNat : Int))).1 (takeS tp e (wS tp e txt s k.toNat) (jtxC txt (k.toNat : Int))).2 o l
    rw [Int.toNat_of_nonneg k0]
    exact h2
theorem iter_1 {S X : Type} {b : S → Option (S ⊕ X)} {n : Nat} {s t : S} (h : b s = some (.inl t)) : iter b (n + 1) s = iter b n t := by
  show (match b s with
    | none => none
    | some (.inl t) => iter b n t
    | some (.inr x) => some x) = _
  rw [h]
theorem iter_0 {S X : Type} {b : S → Option (S ⊕ X)} {n : Nat} {s : S} {x : X} (h : b s = some (.inr x)) : iter b (n + 1) s = some x := by
  unfold iter; rw [h]
theorem q_num {M0 M : jM} {tp : Int → Int} {e act o : Int} {s : Bool × Int} {l : List Int} (hb : QB M0 tp e act) (h : RQ M0 M act s.1 s.2 o l) (p0 : 0 ≤ s.2) (p1 : s.2 ≤ e) : Ret (f_X10_figures M 62) (fun r => RQ M0 r.2 act (numS tp e s).1 (numS tp e s).2.1 o l ∧ ((numS tp e s).1 = true → r.1 = (numS tp e s).2.2) ∧ 0 ≤ r.1 ∧ r.1 ≤ 99) := by
  obtain ⟨ok, p⟩ := s
  dsimp only at h p0 p1
  have hr := hb.rng p0
  have w1 : Ret (f_X10_figures_22 M 62 62) (fun r => RQ M0 r.2 act false p o l ∧ 0 ≤ r.1 ∧ r.1 ≤ 99) := by
    unfold f_X10_figures_22 f_X10_figures_27
    have h2 := h.wrong (ok' := false) (v := 1) rfl
    refine Ret.g (by decide) (Ret.l ?_)
    generalize sto M 62 7 1 = M1 at h2 ⊢
    have e1 : f_X10_figures_L34 M1 62 (M1, 0, 0) = some (.inr (M1, 0)) := by
      unfold f_X10_figures_L34
      dsimp +instances only
      rw [h2.2.2.1, if_neg (show ¬ (2 ≤ w32 0) by rw [w32_0]; decide), if_neg (show ¬ w32 (if false = true then 0 else 1) = 0 from w32_1n)]
    rw [show (5000 : Nat) = 4999 + 1 from rfl, iter_0 e1]
    exact Ret.b ⟨_, rfl, Ret.s ⟨h2, Int.le_refl 0, by show (0 : Int) ≤ 99; decide⟩⟩
  unfold f_X10_figures numS
  rw [q_here hb h p0 p1, h.2.2.1]
  cases ok
  · rw [if_neg (show ¬ (false = true) by decide), if_neg (show ¬ ((false, p).1 = true) from fun z => by cases z)]
    exact Ret.f w32_1n (Ret.m w1 (fun r hr => ⟨hr.1, (fun z => by cases z), hr.2⟩))
  · rw [if_pos rfl, if_pos (show (true, p).1 = true from rfl)]
    unfold pNum
    dsimp only
    refine Ret.t w32_0 (Ret.b ⟨_, rfl, ?_⟩)
    dsimp only
    rw [r_in M (by omega) (by omega) (by decide) (by decide) (by decide) (by decide)]
    by_cases c : 48 ≤ nxt tp e p ∧ nxt tp e p ≤ 57
    · rw [if_pos c, if_pos c]
      refine Ret.b ⟨1, rfl, Ret.f w32_1n ?_⟩
      unfold f_X10_figures_27
      have h2 := h.wrong (ok' := true) (v := 0) rfl
      refine Ret.g (by decide) (Ret.l ?_)
      generalize sto M 62 7 0 = M1 at h2 ⊢
      have hlt := nxt_lt (tp := tp) (e := e) (p := p) (by omega)
      have h3 := h2.spot (q := p + 1)
      have hr2 := hb.rng (p := p + 1) (by omega)
      have e1 : Ret (f_X10_figures_L34 M1 62 (M1, 0, 0)) (fun r => r = .inl (sto M1 62 5 (p + 1), 10 * 0 + nxt tp e p - 48, 0 + 1)) := by
        unfold f_X10_figures_L34 f_X10_figures_68
        dsimp +instances only
        rw [h2.2.2.1, q_here hb h2 p0 p1, h2.2.1]
        refine Ret.f (by rw [w32_0]; decide) (Ret.t w32_0 (Ret.b ⟨_, rfl, ?_⟩))
        dsimp only
        rw [r_in M1 (by omega) (by omega) (by decide) (by decide) (by decide) (by decide), if_pos c]
        exact Ret.b ⟨1, rfl, Ret.f w32_1n (Ret.t w32_0 (Ret.b ⟨_, rfl, Ret.l (Ret.s rfl)⟩))⟩
      obtain ⟨_, e1, rfl⟩ := e1
      rw [show (5000 : Nat) = 4998 + 1 + 1 from rfl, iter_1 e1]
      generalize sto M1 62 5 (p + 1) = M2 at h3 ⊢
      by_cases c2 : nxt tp e p = 48 ∨ ¬ (48 ≤ nxt tp e (p + 1) ∧ nxt tp e (p + 1) ≤ 57)
      · rw [if_pos c2]
        have e2 : Ret (f_X10_figures_L34 M1 62 (M2, 10 * 0 + nxt tp e p - 48, 0 + 1)) (fun r => r = .inr (M2, 10 * 0 + nxt tp e p - 48)) := by
          unfold f_X10_figures_L34
          dsimp +instances only
          rw [h3.2.2.1, q_here hb h3 (by omega) (by omega)]
          refine Ret.f (by rw [w32_id (by decide) (by decide)]; decide) (Ret.t w32_0 (Ret.b ⟨_, rfl, ?_⟩))
          dsimp only
          rw [r_in M2 (by omega) (by omega) (by decide) (by decide) (by decide) (by decide)]
          by_cases c3 : 48 ≤ nxt tp e (p + 1) ∧ nxt tp e (p + 1) ≤ 57
          · rw [if_pos c3]
            exact Ret.b ⟨1, rfl, Ret.f w32_1n (Ret.f w32_1n (Ret.t (by rw [w32_id (by omega) (by omega)]; omega) (Ret.s rfl)))⟩
          · rw [if_neg c3]
            exact Ret.b ⟨0, rfl, Ret.t w32_0 (Ret.s rfl)⟩
        obtain ⟨_, e2, rfl⟩ := e2
        rw [iter_0 e2]
        refine Ret.b ⟨_, rfl, Ret.s ⟨h3, fun _ => ?_, ?_, ?_⟩⟩
        · show 10 * 0 + nxt tp e p - 48 = nxt tp e p - 48; omega
        · show 0 ≤ 10 * 0 + nxt tp e p - 48; omega
        · show 10 * 0 + nxt tp e p - 48 ≤ 99; omega
      · rw [if_neg c2]
        have c3 : 48 ≤ nxt tp e (p + 1) ∧ nxt tp e (p + 1) ≤ 57 := by omega
        have hlt2 := nxt_lt (tp := tp) (e := e) (p := p + 1) (by omega)
        have h4 := h3.spot (q := p + 1 + 1)
        have e2 : Ret (f_X10_figures_L34 M1 62 (M2, 10 * 0 + nxt tp e p - 48, 0 + 1)) (fun r => r = .inl (sto M2 62 5 (p + 1 + 1), 10 * (10 * 0 + nxt tp e p - 48) + nxt tp e (p + 1) - 48, 0 + 1 + 1)) := by
          unfold f_X10_figures_L34 f_X10_figures_68
          dsimp +instances only
          rw [h3.2.2.1, q_here hb h3 (by omega) (by omega), h3.2.1]
          refine Ret.f (by rw [w32_id (by decide) (by decide)]; decide) (Ret.t w32_0 (Ret.b ⟨_, rfl, ?_⟩))
          dsimp only
          rw [r_in M2 (by omega) (by omega) (by decide) (by decide) (by decide) (by decide), if_pos c3]
          exact Ret.b ⟨1, rfl, Ret.f w32_1n (Ret.f w32_1n (Ret.f (by rw [w32_id (by omega) (by omega)]; omega) (Ret.b ⟨_, rfl, Ret.l (Ret.s rfl)⟩)))⟩
        obtain ⟨_, e2, rfl⟩ := e2
        rw [iter_1 e2]
        generalize sto M2 62 5 (p + 1 + 1) = M3 at h4 ⊢
        have e3 : f_X10_figures_L34 M1 62 (M3, 10 * (10 * 0 + nxt tp e p - 48) + nxt tp e (p + 1) - 48, 0 + 1 + 1) = some (.inr (M3, 10 * (10 * 0 + nxt tp e p - 48) + nxt tp e (p + 1) - 48)) := by
          unfold f_X10_figures_L34
          dsimp +instances only
          rw [if_pos (show 2 ≤ w32 (0 + 1 + 1) by rw [w32_id (by decide) (by decide)]; decide)]
        rw [show (4998 : Nat) = 4997 + 1 from rfl, iter_0 e3]
        rw [show p + 1 + 1 = p + 2 by omega] at h4
        refine Ret.b ⟨_, rfl, Ret.s ⟨h4, fun _ => ?_, ?_, ?_⟩⟩
        · show 10 * (10 * 0 + nxt tp e p - 48) + nxt tp e (p + 1) - 48 = (nxt tp e p - 48) * 10 + nxt tp e (p + 1) - 48; omega
        · show 0 ≤ 10 * (10 * 0 + nxt tp e p - 48) + nxt tp e (p + 1) - 48; omega
        · show 10 * (10 * 0 + nxt tp e p - 48) + nxt tp e (p + 1) - 48 ≤ 99; omega
    · rw [if_neg c, if_neg c]
      exact Ret.b ⟨0, rfl, Ret.t w32_0 (Ret.m w1 (fun r hr => ⟨hr.1, (fun z => by cases z), hr.2⟩))⟩
theorem q_emits {M0 M : jM} {tp : Int → Int} {e act p o v : Int} {ok : Bool} {l : List Int} (hb : QB M0 tp e act) (h : RQ M0 M act ok p o l) (hl : l.length < 140) : Ret (f_X10_emits M 62 v) (fun M' => RQ M0 M' act ok p o (l ++ (if ok = true then [v] else []))) := by
  obtain ⟨b1, b2, b3, -⟩ := hb
  obtain ⟨h1, h2, h3, h4, h5, h6⟩ := id h
  unfold f_X10_emits
  rw [h3]
  cases ok
  · rw [if_neg (show ¬ (false = true) by decide), if_neg (show ¬ (false = true) by decide), List.append_nil]
    exact Ret.f w32_1n (Ret.s h)
  · have e4 : M 62 4 = act := by rw [h1 _ _ (by omega) (by omega)]; exact b1
    rw [if_pos rfl, if_pos rfl, e4, jp_62_1, w32_id (x := 247 + act) (by omega) (by omega), h5, w32_id (x := 252 + 140 * act + (l.length : Int)) (by omega) (by omega)]
    refine Ret.t w32_0 (Ret.g ⟨by omega, by omega⟩ (Ret.g ⟨by omega, by omega⟩ (Ret.l ?_)))
    have g1 : ∀ a b, ¬ (a = 63 ∧ b = 252 + 140 * act + (l.length : Int)) → sto M 63 (252 + 140 * act + (l.length : Int)) v a b = M a b := fun a b q => sto_ne q
    have g2 : sto M 63 (252 + 140 * act + (l.length : Int)) v 63 (252 + 140 * act + (l.length : Int)) = v := sto_eq rfl rfl
    generalize sto M 63 (252 + 140 * act + (l.length : Int)) v = M1 at g1 g2 ⊢
    rw [g1 62 4 (by omega), e4, w32_id (x := 247 + act) (by omega) (by omega), g1 63 (247 + act) (by omega), h5]
    refine Ret.g ⟨by omega, by omega⟩ (Ret.g ⟨by omega, by omega⟩ (Ret.l (Ret.s ⟨fun a b q1 q2 => ?_, ?_, ?_, ?_, ?_, ?_⟩)))
    · rw [sto_ne (by omega), g1 a b (by omega)]; exact h1 a b q1 q2
    · rw [sto_ne (by omega), g1 _ _ (by omega)]; exact h2
    · rw [sto_ne (by omega), g1 _ _ (by omega)]; exact h3
    · rw [sto_ne (by omega), g1 _ _ (by omega)]; exact h4
    · rw [sto_eq rfl rfl, List.length_append]
      show (l.length : Int) + 1 = ((l.length + 1 : Nat) : Int)
      omega
    · refine SL.app (h6.fr (fun i i0 i1 => by rw [sto_ne (by omega), g1 _ _ (by omega)])) ⟨?_, trivial⟩
      rw [sto_ne (by omega)]; exact g2
