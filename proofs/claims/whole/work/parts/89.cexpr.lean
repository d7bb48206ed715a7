/-! the class's E, T and F -/
theorem c_F1 {M0 M : jM} {tp : Int → Int} {e p : Int} {ok : Bool} (hb : RB M0 tp e) (h : CR M0 M ok p) (p0 : 0 ≤ p) (p1 : p ≤ e) {rE rT rF : jM → Int → Int → Option (Int × jM)} : Ret ((f_X5_takeOneOf M 46 4).bind fun r12 => (f_X5_takeOneOf r12.2 46 5).bind fun r13 => (f_X5_readNumber r13.2 46).bind fun r14 => (if w32 (r14.2 46 3) = 0 then (f_X7_placesOf r14.2 r12.1 r13.1 r14.1).bind fun r16 => some (r16, r14.2) else some (0, r14.2))) (fun r => (ok = true → CR M0 r.2 (pTest tp e p).1 (pTest tp e p).2.1 ∧ ((pTest tp e p).1 = true → MaskOf r.1 (pTest tp e p).2.2.2)) ∧ (ok = false → CR M0 r.2 false p)) := by
  -- once stuck, nothing moves
  have st2 : ∀ M2 (v : Int) q, 0 ≤ q → q ≤ e → CR M0 M2 false q → Ret ((f_X5_readNumber M2 46).bind fun r14 => (if w32 (r14.2 46 3) = 0 then (f_X7_placesOf r14.2 v v r14.1).bind fun r16 => some (r16, r14.2) else some (0, r14.2))) (fun r => CR M0 r.2 false q) := fun M2 v q q0 q1 h2 => by
    refine Ret.bb (c_num (s := (false, q)) hb h2 q0 q1) (fun r ⟨hr, _⟩ => ?_)
    have hr : CR M0 r.2 false q := hr
    rw [hr.2.2]
    exact Ret.f w32_1n (Ret.s hr)
  have st2' : ∀ M2 (u v : Int) q, 0 ≤ q → q ≤ e → CR M0 M2 false q → Ret ((f_X5_readNumber M2 46).bind fun r14 => (if w32 (r14.2 46 3) = 0 then (f_X7_placesOf r14.2 u v r14.1).bind fun r16 => some (r16, r14.2) else some (0, r14.2))) (fun r => CR M0 r.2 false q) := fun M2 u v q q0 q1 h2 => by
    refine Ret.bb (c_num (s := (false, q)) hb h2 q0 q1) (fun r ⟨hr, _⟩ => ?_)
    have hr : CR M0 r.2 false q := hr
    rw [hr.2.2]
    exact Ret.f w32_1n (Ret.s hr)
  have st1 : ∀ M2 (u : Int) q, 0 ≤ q → q ≤ e → CR M0 M2 false q → Ret ((f_X5_takeOneOf M2 46 5).bind fun r13 => (f_X5_readNumber r13.2 46).bind fun r14 => (if w32 (r14.2 46 3) = 0 then (f_X7_placesOf r14.2 u r13.1 r14.1).bind fun r16 => some (r16, r14.2) else some (0, r14.2))) (fun r => CR M0 r.2 false q) := fun M2 u q q0 q1 h2 => by
    refine Ret.bb (c_one (txt := 5) (c0 := 60) (c1 := 61) (c2 := 62) hb h2 q0 q1 rfl rfl rfl rfl (by decide)) (fun r hr => ?_)
    rcases hr with ⟨z, _⟩ | ⟨_, h3⟩
    · cases z
    · exact st2' r.2 u r.1 q q0 q1 h3
  refine Ret.bb (c_one (txt := 4) (c0 := 115) (c1 := 103) (c2 := 100) hb h p0 p1 rfl rfl rfl rfl (by decide)) (fun r hr => ?_)
  rcases hr with ⟨hok, hc, hv, h2⟩ | ⟨hn, h2⟩
  · subst hok
    have hp := nxt_lt (tp := tp) (e := e) (p := p) (by omega)
    refine Ret.bb (c_one (txt := 5) (c0 := 60) (c1 := 61) (c2 := 62) hb h2 (by omega) (by omega) rfl rfl rfl rfl (by decide)) (fun r2 hr2 => ?_)
    unfold pTest
    rw [if_pos hc]
    rcases hr2 with ⟨-, hc2, hv2, h3⟩ | ⟨hn2, h3⟩
    · have c2 : 60 ≤ nxt tp e (p + 1) ∧ nxt tp e (p + 1) ≤ 62 := by omega
      have hp2 := nxt_lt (tp := tp) (e := e) (p := p + 1) (by omega)
      rw [if_pos c2]
      rw [show p + 1 + 1 = p + 2 by omega] at h3
      refine Ret.bb (c_num (s := (true, p + 2)) hb h3 (by show 0 ≤ p + 2; omega) (by show p + 2 ≤ e; omega)) (fun r3 ⟨h4, h5, h6, h7⟩ => ?_)
      have h4 : CR M0 r3.2 (pNum tp e (p + 2)).1 (pNum tp e (p + 2)).2.1 := h4
      have h5 : (pNum tp e (p + 2)).1 = true → r3.1 = (pNum tp e (p + 2)).2.2 := h5
      rw [h4.2.2]
      by_cases c3 : (pNum tp e (p + 2)).1 = true
      · rw [if_pos c3, if_pos c3, hv, hv2]
        rw [c3] at h4
        refine Ret.t w32_0 (Ret.bb (s_placesOf hc c2.1 c2.2 h6 h7) (fun W hW => Ret.s ⟨fun _ => ⟨h4, fun _ => ?_⟩, fun z => by cases z⟩))
        rw [h5 c3] at hW
        exact hW
      · rw [if_neg c3, if_neg c3]
        have c4 : (pNum tp e (p + 2)).1 = false := by simpa using c3
        rw [c4] at h4
        exact Ret.f w32_1n (Ret.s ⟨fun _ => ⟨h4, fun z => by cases z⟩, fun z => by cases z⟩)
    · rw [if_neg (fun z => hn2 ⟨rfl, by omega⟩)]
      exact Ret.m (st2' r2.2 r.1 r2.1 (p + 1) (by omega) (by omega) h3) (fun r4 h4 => ⟨fun _ => ⟨h4, fun z => by cases z⟩, fun z => by cases z⟩)
  · refine Ret.m (st1 r.2 r.1 p p0 p1 h2) (fun r4 h4 => ⟨fun hok => ?_, fun _ => h4⟩)
    unfold pTest
    rw [if_neg (fun z => hn ⟨hok, z⟩)]
    exact ⟨h4, fun z => by cases z⟩
/-- once stuck, all stays -/
theorem c_stuck {M0 : jM} {tp : Int → Int} {e : Int} (hb : RB M0 tp e) : ∀ {d k : Nat} {M : jM} {p o : Int}, k ≤ 2 → 3 - k ≤ d → 0 ≤ p → p ≤ e → CR M0 M false p → Ret (fx_rd d k M 46 o) (fun r => CR M0 r.2 false p)
  | 0, k, M, p, o, hk, hd, _, _, _ => by omega
  | d + 1, 0, M, p, o, hk, hd, p0, p1, h => by
    show Ret (fb_X5_readE (fx_rd d 0) (fx_rd d 1) (fx_rd d 2) M 46 o) _
    unfold fb_X5_readE
    refine Ret.bb (c_stuck hb (k := 1) (by decide) (by omega) p0 p1 h) (fun r hr => ?_)
    refine Ret.bb (P := fun x : jM × Int => CR M0 x.1 false p) ?_ (fun x hx => Ret.s hx)
    refine ⟨(r.2, r.1), ?_, hr⟩
    have e1 : f_X5_readE_L9 (fx_rd d 0) (fx_rd d 1) (fx_rd d 2) r.2 46 o (r.2, r.1, 0) = some (.inr (r.2, r.1)) := by
      unfold f_X5_readE_L9
      dsimp +instances only
      rw [hr.2.2, if_neg (show ¬ (100 ≤ w32 0) by rw [w32_0]; decide), if_neg (show ¬ w32 (if false = true then 0 else 1) = 0 from w32_1n)]
    show iter _ (4999 + 1) _ = _
    unfold iter
    rw [e1]
  | d + 1, 1, M, p, o, hk, hd, p0, p1, h => by
    show Ret (fb_X5_readT (fx_rd d 0) (fx_rd d 1) (fx_rd d 2) M 46 o) _
    unfold fb_X5_readT
    refine Ret.bb (c_stuck hb (k := 2) (by decide) (by omega) p0 p1 h) (fun r hr => ?_)
    refine Ret.bb (P := fun x : jM × Int => CR M0 x.1 false p) ?_ (fun x hx => Ret.s hx)
    refine ⟨(r.2, r.1), ?_, hr⟩
    have e1 : f_X5_readT_L9 (fx_rd d 0) (fx_rd d 1) (fx_rd d 2) r.2 46 o (r.2, r.1, 0) = some (.inr (r.2, r.1)) := by
      unfold f_X5_readT_L9
      dsimp +instances only
      rw [hr.2.2, if_neg (show ¬ (100 ≤ w32 0) by rw [w32_0]; decide), if_neg (show ¬ w32 (if false = true then 0 else 1) = 0 from w32_1n)]
    show iter _ (4999 + 1) _ = _
    unfold iter
    rw [e1]
  | d + 1, 2, M, p, o, hk, hd, p0, p1, h => by
    show Ret (fb_X5_readF (fx_rd d 0) (fx_rd d 1) (fx_rd d 2) M 46 o) _
    unfold fb_X5_readF f_X5_readF_17 f_X5_readF_29
    rw [c_next hb h p0 p1, h.2.2]
    refine Ret.b ⟨_, rfl, Ret.i (fun _ => Ret.f w32_1n (Ret.l (Ret.s h.stuck))) (fun _ => Ret.i (fun _ => Ret.f w32_1n (Ret.l (Ret.s h.stuck))) (fun _ => ?_))⟩
    exact Ret.m (c_F1 (rE := fx_rd d 0) (rT := fx_rd d 1) (rF := fx_rd d 2) hb h p0 p1) (fun r hr => hr.2 rfl)
  | d + 1, k + 3, M, p, o, hk, _, _, _, _ => by omega
theorem pL_no {tp : Int → Int} {e : Int} {f : Int → jPR} {c stp : Int} {op : Bool → Bool → Bool} {n : Nat} {r : jPR} (h : ¬ (r.1 = true ∧ nxt tp e r.2.1 = c)) : pL tp e f c stp op n r = r := by
  rcases n with _ | n
  · rfl
  · unfold pL
    rw [if_neg h]
theorem pL_go {tp : Int → Int} {e : Int} {f : Int → jPR} {c stp : Int} {op : Bool → Bool → Bool} {n : Nat} {r : jPR} (h : r.1 = true ∧ nxt tp e r.2.1 = c) : pL tp e f c stp op (n + 1) r = pL tp e f c stp op n (pJoin stp op r (f (r.2.1 + 1))) := by
  show (if r.1 = true ∧ nxt tp e r.2.1 = c then _ else r) = _
  rw [if_pos h]
/-- what a part of the class's reading gives -/
def CP (M0 : jM) (r : Int × jM) (q : jPR) : Prop := CR M0 r.2 q.1 q.2.1 ∧ (q.1 = true → MaskOf r.1 q.2.2.2)
theorem c_loop {M0 : jM} {tp : Int → Int} {e : Int} (hb : RB M0 tp e) {b : jM × Int × Int → Option ((jM × Int × Int) ⊕ (jM × Int))} {rec : jM → Option (Int × jM)} {f : Int → jPR} {c stp : Int} {op : Bool → Bool → Bool} {jo : Int → Int → Int} (hc0 : 0 ≤ c) (hc1 : c ≤ 127) (hbd : ∀ S, b S = (if 100 ≤ w32 S.2.2 then some (.inr (S.1, S.2.1)) else (if w32 (S.1 46 3) = 0 then (f_X5_next S.1 46).bind fun r4 => (if w32 r4 = c then lt1 (sto S.1 46 2 ((S.1 46 2) + 1)) fun M6 => (rec M6).bind fun r7 => some (.inl (r7.2, jo S.2.1 r7.1, S.2.2 + 1)) else some (.inr (S.1, S.2.1))) else some (.inr (S.1, S.2.1))))) (hrec : ∀ M q, 0 ≤ q → q ≤ e → CR M0 M true q → Ret (rec M) (fun r => CP M0 r (f q))) (hf : ∀ q, 0 ≤ q → q ≤ e → q ≤ (f q).2.1 ∧ (f q).2.1 ≤ e) (hj : ∀ A B k, bitI (jo A B) k = op (bitI A k) (bitI B k)) {r0 : Int × jM} {q0 : jPR} (h0 : CP M0 r0 q0) (p0 : 0 ≤ q0.2.1) (p1 : q0.2.1 ≤ e) : Ret ((iter b 5000 (r0.2, r0.1, 0)).bind (fun x8 => some (x8.2, x8.1))) (fun r => CP M0 r (pL tp e f c stp op 100 q0)) := by
  refine Ret.bb (P := fun x : jM × Int => CP M0 (x.2, x.1) (pL tp e f c stp op 100 q0)) ?_ (fun x hx => Ret.s hx)
  refine Ret.it (fun S : jM × Int × Int => 0 ≤ S.2.2 ∧ S.2.2 ≤ 100 ∧ ∃ q : jPR, CP M0 (S.2.1, S.1) q ∧ 0 ≤ q.2.1 ∧ q.2.1 ≤ e ∧ pL tp e f c stp op (100 - S.2.2).toNat q = pL tp e f c stp op 100 q0) (fun S => (100 - S.2.2).toNat) ?_ 5000 (r0.2, r0.1, 0) ⟨by show (0 : Int) ≤ 0; decide, by show (0 : Int) ≤ 100; decide, q0, h0, p0, p1, rfl⟩ (by show (100 - 0 : Int).toNat < 5000; decide)
  rintro ⟨M, W, i⟩ ⟨i0, i1, q, hq, q0', q1', hp⟩
  dsimp only at i0 i1 hq hp
  rw [hbd]
  dsimp +instances only
  rw [w32_id (x := i) (by omega) (by omega)]
  have hcr : CR M0 M q.1 q.2.1 := hq.1
  refine Ret.i (fun ci => Rr ?_) (fun ci => ?_)
  · have : i = 100 := by omega
    rw [this] at hp
    have hp : q = pL tp e f c stp op 100 q0 := hp
    rw [← hp]; exact hq
  rw [hcr.2.2]
  rcases hqo : q.1 with _ | _
  · rw [if_neg (show ¬ (false = true) by decide)]
    refine Ret.f w32_1n (Rr ?_)
    rw [pL_no (fun z => by rw [hqo] at z; cases z.1)] at hp
    rw [← hp]; exact hq
  · rw [if_pos rfl]
    have hcr2 := hcr
    rw [hqo] at hcr2
    have hr := hb.rng q0'
    rw [c_next hb hcr2 q0' q1']
    refine Ret.t w32_0 (Ret.b ⟨_, rfl, ?_⟩)
    dsimp only
    rw [w32_id (x := nxt tp e q.2.1) (by omega) (by omega)]
    refine Ret.i (fun cc => Ret.l ?_) (fun cc => Rr ?_)
    · have hlt := nxt_lt (tp := tp) (e := e) (p := q.2.1) (by omega)
      refine Ret.bb (hrec _ (q.2.1 + 1) (by omega) (by omega) hcr2.step) (fun r hr2 => ?_)
      have hb2 := hf (q.2.1 + 1) (by omega) (by omega)
      refine Rl ⟨⟨by show 0 ≤ i + 1; omega, by show i + 1 ≤ 100; omega, pJoin stp op q (f (q.2.1 + 1)), ⟨hr2.1, fun ok g sg dy g0 g1 s0 s1 d0 d1 => ?_⟩, by show 0 ≤ (f (q.2.1 + 1)).2.1; omega, hb2.2, ?_⟩, by show (100 - (i + 1)).toNat < (100 - i).toNat; omega⟩
      · have ok : (f (q.2.1 + 1)).1 = true := ok
        show bitI (jo W r.1) _ = op (q.2.2.2 g sg dy) ((f (q.2.1 + 1)).2.2.2 g sg dy)
        rw [hj, hq.2 hqo g sg dy g0 g1 s0 s1 d0 d1, hr2.2 ok g sg dy g0 g1 s0 s1 d0 d1]
      · dsimp only
        rw [← hp, show (100 - i).toNat = (100 - (i + 1)).toNat + 1 by omega, pL_go ⟨hqo, cc⟩]
    · rw [pL_no (fun z => cc z.2)] at hp
      rw [← hp]; exact hq
theorem c_pG {M0 : jM} {tp : Int → Int} {e : Int} (hb : RB M0 tp e) : ∀ {d k : Nat} {M : jM} {p o : Int}, k ≤ 2 → 0 ≤ o → o ≤ 5 → 3 * (5 - o.toNat) + (3 - k) ≤ d → 0 ≤ p → p ≤ e → CR M0 M true p → Ret (fx_rd d k M 46 o) (fun r => CP M0 r (pG tp e d k p o))
  | 0, k, M, p, o, hk, o0, o1, hd, _, _, _ => by omega
  | d + 1, 0, M, p, o, hk, o0, o1, hd, p0, p1, h => by
    show Ret (fb_X5_readE (fx_rd d 0) (fx_rd d 1) (fx_rd d 2) M 46 o) (fun r => CP M0 r (pL tp e (fun q => pG tp e d 1 q o) 124 (-3) or 100 (pG tp e d 1 p o)))
    unfold fb_X5_readE
    refine Ret.bb (c_pG hb (k := 1) (by decide) o0 o1 (by omega) p0 p1 h) (fun r hr => ?_)
    have b := pG_b (tp := tp) (e := e) (d := d) (k := 1) (p := p) (o := o) p1
    exact c_loop hb (rec := fun M => fx_rd d 1 M 46 o) (jo := lor) (by decide) (by decide) (fun S => rfl) (fun M q q0 q1 h2 => c_pG hb (k := 1) (by decide) o0 o1 (by omega) q0 q1 h2) (fun q q0 q1 => ⟨(pG_b q1).1, (pG_b q1).2.1⟩) (fun A B k => bit_or) hr (by have := b.1; omega) b.2.1
  | d + 1, 1, M, p, o, hk, o0, o1, hd, p0, p1, h => by
    show Ret (fb_X5_readT (fx_rd d 0) (fx_rd d 1) (fx_rd d 2) M 46 o) (fun r => CP M0 r (pL tp e (fun q => pG tp e d 2 q o) 38 (-2) and 100 (pG tp e d 2 p o)))
    unfold fb_X5_readT
    refine Ret.bb (c_pG hb (k := 2) (by decide) o0 o1 (by omega) p0 p1 h) (fun r hr => ?_)
    have b := pG_b (tp := tp) (e := e) (d := d) (k := 2) (p := p) (o := o) p1
    exact c_loop hb (rec := fun M => fx_rd d 2 M 46 o) (jo := land) (by decide) (by decide) (fun S => rfl) (fun M q q0 q1 h2 => c_pG hb (k := 2) (by decide) o0 o1 (by omega) q0 q1 h2) (fun q q0 q1 => ⟨(pG_b q1).1, (pG_b q1).2.1⟩) (fun A B k => bit_and) hr (by have := b.1; omega) b.2.1
  | d + 1, 2, M, p, o, hk, o0, o1, hd, p0, p1, h => by
    show Ret (fb_X5_readF (fx_rd d 0) (fx_rd d 1) (fx_rd d 2) M 46 o) (fun r => CP M0 r (if nxt tp e p = 33 ∨ nxt tp e p = 40 then (if 5 ≤ o then (false, p, [], fun _ _ _ => false) else if nxt tp e p = 33 then pNeg (pG tp e d 2 (p + 1) (o + 1)) else pClose tp e (pG tp e d 0 (p + 1) (o + 1))) else pTest tp e p))
    unfold fb_X5_readF f_X5_readF_17 f_X5_readF_29
    have hr := hb.rng p0
    rw [c_next hb h p0 p1, h.2.2, if_pos rfl, w32_id (x := o) (by omega) (by omega)]
    refine Ret.b ⟨_, rfl, ?_⟩
    dsimp only
    rw [w32_id (x := nxt tp e p) (by omega) (by omega)]
    refine Ret.i (fun c => Ret.t w32_0 (Ret.i (fun c2 => Ret.l (Ret.t c ?_)) (fun c2 => Ret.l (Ret.s ?_)))) (fun c => Ret.i (fun c3 => Ret.t w32_0 (Ret.i (fun c2 => Ret.l (Ret.f c ?_)) (fun c2 => Ret.l (Ret.s ?_)))) (fun c3 => ?_))
    · have hlt := nxt_lt (tp := tp) (e := e) (p := p) (by omega)
      rw [if_pos (Or.inl c), if_neg (by omega), if_pos c]
      refine Ret.bb (c_pG hb (k := 2) (by decide) (by omega) (by omega) (by omega) (by omega) (by omega) h.step) (fun r hr2 => Ret.s ⟨hr2.1, fun ok g sg dy g0 g1 s0 s1 d0 d1 => ?_⟩)
      show bitI (lxor r.1 (-1)) _ = !((pG tp e d 2 (p + 1) (o + 1)).2.2.2 g sg dy)
      rw [bit_not (by have := place_rng g0 g1 s0 s1 d0 d1; omega), hr2.2 ok g sg dy g0 g1 s0 s1 d0 d1]
    · rw [if_pos (Or.inl c), if_pos (by omega)]
      exact ⟨h.stuck, fun z => by cases z⟩
    · have hlt := nxt_lt (tp := tp) (e := e) (p := p) (by omega)
      rw [if_pos (Or.inr c3), if_neg (by omega), if_neg c]
      refine Ret.bb (c_pG hb (k := 0) (by decide) (by omega) (by omega) (by omega) (by omega) (by omega) h.step) (fun r hr2 => ?_)
      have b := pG_b (tp := tp) (e := e) (d := d) (k := 0) (p := p + 1) (o := o + 1) (by omega)
      refine Ret.bb (c_take (s := ((pG tp e d 0 (p + 1) (o + 1)).1, (pG tp e d 0 (p + 1) (o + 1)).2.1)) (c := 41) hb hr2.1 (by show 0 ≤ (pG tp e d 0 (p + 1) (o + 1)).2.1; have := b.1; omega) b.2.1 (by decide) (by decide)) (fun M' h' => Ret.s ?_)
      unfold takeS at h'
      unfold pClose
      dsimp only at h'
      by_cases c4 : (pG tp e d 0 (p + 1) (o + 1)).1 = true ∧ nxt tp e (pG tp e d 0 (p + 1) (o + 1)).2.1 = 41
      · rw [if_pos c4] at h' ⊢
        exact ⟨h', fun _ => hr2.2 c4.1⟩
      · rw [if_neg c4] at h' ⊢
        exact ⟨h', fun z => by cases z⟩
    · rw [if_pos (Or.inr c3), if_pos (by omega)]
      exact ⟨h.stuck, fun z => by cases z⟩
    · rw [if_neg (by omega)]
      exact Ret.m (c_F1 (rE := fx_rd d 0) (rT := fx_rd d 1) (rF := fx_rd d 2) hb h p0 p1) (fun r hr => hr.1 rfl)
  | d + 1, k + 3, M, p, o, hk, _, _, _, _, _, _ => by omega
