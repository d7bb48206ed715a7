/-! the class reads -/
def RB (M0 : jM) (tp : Int → Int) (e : Int) : Prop := M0 46 0 = 2 ∧ M0 46 1 = e ∧ 0 ≤ e ∧ e ≤ 100 ∧ ∀ i, 0 ≤ i → i < e → M0 2 i = tp i ∧ 0 ≤ tp i ∧ tp i ≤ 127
def CR (M0 M : jM) (ok : Bool) (p : Int) : Prop := (∀ a b, ¬ (a = 46 ∧ (b = 2 ∨ b = 3)) → M a b = M0 a b) ∧ M 46 2 = p ∧ M 46 3 = (if ok = true then 0 else 1)
theorem RB.rng {M0 : jM} {tp : Int → Int} {e p : Int} (h : RB M0 tp e) (p0 : 0 ≤ p) : -1 ≤ nxt tp e p ∧ nxt tp e p ≤ 127 := by
  unfold nxt
  by_cases c : p < e
  · rw [if_pos c]; have := h.2.2.2.2 p p0 c; omega
  · rw [if_neg c]; decide
theorem c_next {M0 M : jM} {tp : Int → Int} {e p : Int} {ok : Bool} (hb : RB M0 tp e) (h : CR M0 M ok p) (p0 : 0 ≤ p) (p1 : p ≤ e) : f_X5_next M 46 = some (nxt tp e p) := by
  obtain ⟨b1, b2, b3, b4, b5⟩ := hb
  obtain ⟨h1, h2, h3⟩ := h
  unfold f_X5_next f_X5_next_30 nxt
  rw [h2, h1 46 1 (by omega), h1 46 0 (by omega), b1, b2, w32_id (x := p) (by omega) (by omega), w32_id (x := e) (by omega) (by omega), if_neg (by omega), h1 2 p (by omega)]
  by_cases c : p < e
  · rw [if_neg (by omega), if_pos c, (b5 p p0 c).1]
    unfold grd
    have kd2 : jkd 2 = (11, 100) := rfl
    rw [if_pos kd2, if_pos (by omega), if_pos kd2, if_pos ⟨p0, by omega⟩]
  · rw [if_pos (by omega), if_neg c]
theorem CR.step {M0 M : jM} {p : Int} (h : CR M0 M true p) : CR M0 (sto M 46 2 (M 46 2 + 1)) true (p + 1) := ⟨fun a b q => by rw [sto_ne (by omega)]; exact h.1 a b q, by rw [sto_eq rfl rfl, h.2.1], by rw [sto_ne (by omega)]; exact h.2.2⟩
theorem CR.stuck {M0 M : jM} {ok : Bool} {p : Int} (h : CR M0 M ok p) : CR M0 (sto M 46 3 1) false p := ⟨fun a b q => by rw [sto_ne (by omega)]; exact h.1 a b q, by rw [sto_ne (by omega)]; exact h.2.1, by rw [sto_eq rfl rfl]; rfl⟩
def takeS (tp : Int → Int) (e : Int) (s : Bool × Int) (c : Int) : Bool × Int := if s.1 = true ∧ nxt tp e s.2 = c then (true, s.2 + 1) else (false, s.2)
theorem takeS_b {tp : Int → Int} {e : Int} {s : Bool × Int} {c : Int} (c0 : 0 ≤ c) (h : s.2 ≤ e) : s.2 ≤ (takeS tp e s c).2 ∧ (takeS tp e s c).2 ≤ e := by
  unfold takeS
  split
  · rename_i q
    have := nxt_lt (tp := tp) (e := e) (p := s.2) (by omega)
    exact ⟨by show s.2 ≤ s.2 + 1; omega, by show s.2 + 1 ≤ e; omega⟩
  · exact ⟨Int.le_refl _, h⟩
theorem c_take {M0 M : jM} {tp : Int → Int} {e c : Int} {s : Bool × Int} (hb : RB M0 tp e) (h : CR M0 M s.1 s.2) (p0 : 0 ≤ s.2) (p1 : s.2 ≤ e) (c0 : 0 ≤ c) (c1 : c ≤ 1000) : Ret (f_X5_take M 46 c) (fun M' => CR M0 M' (takeS tp e s c).1 (takeS tp e s c).2) := by
  obtain ⟨ok, p⟩ := s
  dsimp only at h p0 p1
  have hr := hb.rng p0
  unfold f_X5_take f_X5_take_28 takeS
  rw [c_next hb h p0 p1, h.2.2]
  cases ok
  · rw [if_neg (show ¬ (false = true) by decide), if_neg (show ¬ ((false, p).1 = true ∧ nxt tp e (false, p).2 = c) from fun z => by cases z.1)]
    exact Ret.f w32_1n (Ret.l (Ret.s h.stuck))
  · rw [if_pos rfl]
    refine Ret.t w32_0 (Ret.b ⟨_, rfl, ?_⟩)
    dsimp only
    rw [w32_id (x := nxt tp e p) (by omega) (by omega), w32_id (x := c) (by omega) (by omega)]
    refine Ret.i (fun q => Ret.l (Ret.s ?_)) (fun q => Ret.l (Ret.s ?_))
    · rw [if_pos ⟨rfl, q⟩]; exact h.step
    · rw [if_neg (fun z => q z.2)]; exact h.stuck
def wS (tp : Int → Int) (e txt : Int) (s : Bool × Int) : Nat → Bool × Int
  | 0 => s
  | k + 1 => takeS tp e (wS tp e txt s k) (jtxC txt (k : Int))
theorem jtx_tb : ∀ t : Fin 6, ∀ k : Fin 6, 0 ≤ jtxC (t.val : Int) (k.val : Int) ∧ jtxC (t.val : Int) (k.val : Int) ≤ 127 ∧ 0 ≤ jtxL (t.val : Int) ∧ jtxL (t.val : Int) ≤ 6 := by decide +kernel
theorem jtx_rg {t k : Int} (t0 : 0 ≤ t) (t1 : t < 6) (k0 : 0 ≤ k) (k1 : k < 6) : 0 ≤ jtxC t k ∧ jtxC t k ≤ 127 ∧ 0 ≤ jtxL t ∧ jtxL t ≤ 6 := by
  have := jtx_tb ⟨t.toNat, by omega⟩ ⟨k.toNat, by omega⟩
  dsimp only at this
  rw [Int.toNat_of_nonneg t0, Int.toNat_of_nonneg k0] at this
  exact this
theorem wS_b {tp : Int → Int} {e txt : Int} {s : Bool × Int} (t0 : 0 ≤ txt) (t1 : txt < 6) (h : s.2 ≤ e) : ∀ {k : Nat}, k ≤ 6 → s.2 ≤ (wS tp e txt s k).2 ∧ (wS tp e txt s k).2 ≤ e
  | 0, _ => ⟨Int.le_refl _, h⟩
  | k + 1, hk => by
    have ih := wS_b (tp := tp) (e := e) (txt := txt) t0 t1 h (k := k) (by omega)
    have := takeS_b (tp := tp) (e := e) (s := wS tp e txt s k) (c := jtxC txt (k : Int)) (jtx_rg t0 t1 (by omega) (by omega)).1 ih.2
    show s.2 ≤ (takeS tp e (wS tp e txt s k) (jtxC txt (k : Int))).2 ∧ (takeS tp e (wS tp e txt s k) (jtxC txt (k : Int))).2 ≤ e
    omega
theorem c_word {M0 M : jM} {tp : Int → Int} {e txt : Int} {s : Bool × Int} (hb : RB M0 tp e) (h : CR M0 M s.1 s.2) (p0 : 0 ≤ s.2) (p1 : s.2 ≤ e) (t0 : 0 ≤ txt) (t1 : txt < 6) : Ret (f_X5_readWord M 46 txt) (fun M' => CR M0 M' (wS tp e txt s (jtxL txt).toNat).1 (wS tp e txt s (jtxL txt).toNat).2) := by
  have hL := jtx_rg t0 t1 (k := 0) (by decide) (by decide)
  unfold f_X5_readWord
  refine Ret.bb (P := fun M' => CR M0 M' (wS tp e txt s (jtxL txt).toNat).1 (wS tp e txt s (jtxL txt).toNat).2) ?_ (fun M' h' => Ret.s h')
  refine Ret.it (fun S : jM × Int => 0 ≤ S.2 ∧ S.2 ≤ jtxL txt ∧ CR M0 S.1 (wS tp e txt s S.2.toNat).1 (wS tp e txt s S.2.toNat).2) (fun S => (jtxL txt - S.2).toNat) ?_ 5000 (M, 0) ⟨by show (0 : Int) ≤ 0; decide, by show 0 ≤ jtxL txt; omega, h⟩ (by show (jtxL txt - 0).toNat < 5000; omega)
  rintro ⟨M1, k⟩ ⟨k0, k1, hc⟩
  dsimp only at k0 k1 hc
  unfold f_X5_readWord_L2
  dsimp +instances only
  rw [w32_id (x := jtxL txt) (by omega) (by omega), w32_id (x := k) (by omega) (by omega)]
  refine Ret.i (fun c => Rr ?_) (fun c => Ret.g ⟨k0, by omega⟩ ?_)
  · have : k = jtxL txt := by omega
    rw [← this]; exact hc
  · have hb2 := wS_b (tp := tp) (e := e) (s := s) t0 t1 p1 (k := k.toNat) (by omega)
    have hch := jtx_rg t0 t1 (k := k) k0 (by omega)
    refine Ret.bb (c_take hb hc (by omega) hb2.2 hch.1 (by omega)) (fun M2 h2 => Rl ⟨⟨by show 0 ≤ k + 1; omega, by show k + 1 ≤ _; omega, ?_⟩, by show (jtxL txt - (k + 1)).toNat < (jtxL txt - k).toNat; omega⟩)
    dsimp only
    rw [show (k + 1).toNat = k.toNat + 1 by omega]
    show CR M0 M2 (takeS tp e (wS tp e txt s k.toNat) (jtxC txt (k.toNat : Int))).1 (takeS tp e (wS tp e txt s k.toNat) (jtxC txt (k.toNat : Int))).2
    rw [Int.toNat_of_nonneg k0]
    exact h2
def numS (tp : Int → Int) (e : Int) (s : Bool × Int) : Bool × Int × Int := if s.1 = true then pNum tp e s.2 else (false, s.2, 0)
theorem numS_b {tp : Int → Int} {e : Int} {s : Bool × Int} (h : s.2 ≤ e) : s.2 ≤ (numS tp e s).2.1 ∧ (numS tp e s).2.1 ≤ e ∧ ((numS tp e s).1 = true → 0 ≤ (numS tp e s).2.2 ∧ (numS tp e s).2.2 ≤ 99) := by
  unfold numS
  split
  · obtain ⟨b1, b2, b3⟩ := pNum_b (tp := tp) h
    exact ⟨b1, b2, fun q => (b3 q).2⟩
  · exact ⟨Int.le_refl _, h, fun q => by cases q⟩
theorem c_num {M0 M : jM} {tp : Int → Int} {e : Int} {s : Bool × Int} (hb : RB M0 tp e) (h : CR M0 M s.1 s.2) (p0 : 0 ≤ s.2) (p1 : s.2 ≤ e) : Ret (f_X5_readNumber M 46) (fun r => CR M0 r.2 (numS tp e s).1 (numS tp e s).2.1 ∧ ((numS tp e s).1 = true → r.1 = (numS tp e s).2.2) ∧ 0 ≤ r.1 ∧ r.1 ≤ 99) := by
  obtain ⟨ok, p⟩ := s
  dsimp only at h p0 p1
  have hr := hb.rng p0
  unfold f_X5_readNumber f_X5_readNumber_24 numS
  rw [c_next hb h p0 p1, h.2.2]
  refine Ret.b ⟨_, rfl, ?_⟩
  dsimp only
  cases ok
  · rw [if_neg (show ¬ (false = true) by decide), if_neg (show ¬ (false = true) by decide)]
    exact Ret.f w32_1n (Ret.l (Ret.s ⟨h.stuck, (fun q => by cases q), Int.le_refl 0, by show (0 : Int) ≤ 99; decide⟩))
  · rw [if_pos rfl, if_pos rfl]
    unfold pNum
    rw [w32_id (x := nxt tp e p) (by omega) (by omega)]
    refine Ret.t w32_0 (Ret.i (fun c => ?_) (fun c => Ret.i (fun c2 => Ret.l ?_) (fun c2 => ?_)))
    · rw [if_neg (by omega)]
      exact Ret.l (Ret.s ⟨h.stuck, (fun q => by cases q), Int.le_refl 0, by show (0 : Int) ≤ 99; decide⟩)
    · have h1 := nxt_lt (tp := tp) (e := e) (p := p) (by omega)
      have h2 := h.step
      have hr2 := hb.rng (p := p + 1) (by omega)
      rw [c_next hb h2 (by omega) (by omega)]
      refine Ret.b ⟨_, rfl, ?_⟩
      dsimp only
      rw [w32_id (x := nxt tp e (p + 1)) (by omega) (by omega), if_pos (show 48 ≤ nxt tp e p ∧ nxt tp e p ≤ 57 from ⟨by omega, c2⟩)]
      refine Ret.i (fun c3 => Ret.s ?_) (fun c3 => Ret.i (fun c4 => Ret.s ?_) (fun c4 => Ret.i (fun c5 => Ret.l (Ret.s ?_)) (fun c5 => Ret.s ?_)))
      · rw [if_pos (Or.inl c3)]
        exact ⟨h2, fun _ => rfl, by show 0 ≤ nxt tp e p - 48; omega, by show nxt tp e p - 48 ≤ 99; omega⟩
      · rw [if_pos (Or.inr (by omega))]
        exact ⟨h2, fun _ => rfl, by show 0 ≤ nxt tp e p - 48; omega, by show nxt tp e p - 48 ≤ 99; omega⟩
      · rw [if_neg (by omega)]
        have h3 := h2.step
        rw [show p + 1 + 1 = p + 2 by omega] at h3
        exact ⟨h3, fun _ => rfl, by show 0 ≤ (nxt tp e p - 48) * 10 + nxt tp e (p + 1) - 48; omega, by show (nxt tp e p - 48) * 10 + nxt tp e (p + 1) - 48 ≤ 99; omega⟩
      · rw [if_pos (Or.inr (by omega))]
        exact ⟨h2, fun _ => rfl, by show 0 ≤ nxt tp e p - 48; omega, by show nxt tp e p - 48 ≤ 99; omega⟩
    · rw [if_neg (by omega)]
      exact Ret.l (Ret.s ⟨h.stuck, (fun q => by cases q), Int.le_refl 0, by show (0 : Int) ≤ 99; decide⟩)
/-- one of three letters -/
theorem c_one {M0 M : jM} {tp : Int → Int} {e txt c0 c1 c2 p : Int} {ok : Bool} (hb : RB M0 tp e) (h : CR M0 M ok p) (p0 : 0 ≤ p) (p1 : p ≤ e) (hL : jtxL txt = 3) (e0 : jtxC txt 0 = c0) (e1 : jtxC txt 1 = c1) (e2 : jtxC txt 2 = c2) (hc : 0 ≤ c0 ∧ c0 ≤ 127 ∧ 0 ≤ c1 ∧ c1 ≤ 127 ∧ 0 ≤ c2 ∧ c2 ≤ 127) : Ret (f_X5_takeOneOf M 46 txt) (fun r => (ok = true ∧ (nxt tp e p = c0 ∨ nxt tp e p = c1 ∨ nxt tp e p = c2) ∧ r.1 = nxt tp e p ∧ CR M0 r.2 true (p + 1)) ∨ (¬ (ok = true ∧ (nxt tp e p = c0 ∨ nxt tp e p = c1 ∨ nxt tp e p = c2)) ∧ CR M0 r.2 false p)) := by
  have hr := hb.rng p0
  unfold f_X5_takeOneOf
  rw [c_next hb h p0 p1]
  refine Ret.b ⟨_, rfl, ?_⟩
  refine Ret.bb (P := fun x : Unit ⊕ Unit => (x = .inl () ∧ ¬ (ok = true ∧ (nxt tp e p = c0 ∨ nxt tp e p = c1 ∨ nxt tp e p = c2))) ∨ (x = .inr () ∧ ok = true ∧ (nxt tp e p = c0 ∨ nxt tp e p = c1 ∨ nxt tp e p = c2))) ?_ ?_
  · refine Ret.it (fun k : Int => 0 ≤ k ∧ k ≤ 3 ∧ (0 < k → nxt tp e p ≠ c0) ∧ (1 < k → nxt tp e p ≠ c1) ∧ (2 < k → nxt tp e p ≠ c2)) (fun k => (3 - k).toNat) ?_ 5000 0 ⟨by omega, by omega, by omega, by omega, by omega⟩ (by decide)
    intro k ⟨k0, k1, q0, q1, q2⟩
    unfold f_X5_takeOneOf_L7
    rw [hL, h.2.2, w32_id (x := 3) (by decide) (by decide), w32_id (x := k) (by omega) (by omega), w32_id (x := nxt tp e p) (by omega) (by omega)]
    refine Ret.i (fun c => Rr (Or.inl ⟨rfl, fun z => ?_⟩)) (fun c => ?_)
    · have := q0 (by omega); have := q1 (by omega); have := q2 (by omega)
      rcases z.2 with y | y | y <;> omega
    · cases ok
      · rw [if_neg (show ¬ (false = true) by decide)]
        exact Ret.f w32_1n (Rr (Or.inl ⟨rfl, fun z => by cases z.1⟩))
      · rw [if_pos rfl]
        refine Ret.t w32_0 (Ret.g ⟨k0, by omega⟩ ?_)
        have hk : k = 0 ∨ k = 1 ∨ k = 2 := by omega
        rcases hk with rfl | rfl | rfl
        · rw [e0, w32_id (x := c0) (by omega) (by omega)]
          exact Ret.i (fun c => Rr (Or.inr ⟨rfl, rfl, Or.inl c.symm⟩)) (fun c => Rl ⟨⟨by omega, by omega, fun _ => by omega, by omega, by omega⟩, by decide⟩)
        · rw [e1, w32_id (x := c1) (by omega) (by omega)]
          exact Ret.i (fun c => Rr (Or.inr ⟨rfl, rfl, Or.inr (Or.inl c.symm)⟩)) (fun c => Rl ⟨⟨by omega, by omega, fun _ => q0 (by omega), by omega, by omega⟩, by decide⟩)
        · rw [e2, w32_id (x := c2) (by omega) (by omega)]
          exact Ret.i (fun c => Rr (Or.inr ⟨rfl, rfl, Or.inr (Or.inr c.symm)⟩)) (fun c => Rl ⟨⟨by omega, by omega, fun _ => q0 (by omega), fun _ => q1 (by omega), by omega⟩, by decide⟩)
  · rintro x (⟨rfl, hx⟩ | ⟨rfl, hok, hx⟩)
    · exact Ret.l (Ret.s (Or.inr ⟨hx, h.stuck⟩))
    · subst hok
      exact Ret.l (Ret.s (Or.inl ⟨rfl, hx, rfl, h.step⟩))
