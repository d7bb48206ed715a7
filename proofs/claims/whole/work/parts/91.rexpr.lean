/-! the reference's E, T and F -/
theorem q_among {M0 M : jM} {tp : Int → Int} {e act txt c0 c1 c2 p o : Int} {ok : Bool} {l : List Int} (hb : QB M0 tp e act) (h : RQ M0 M act ok p o l) (p0 : 0 ≤ p) (p1 : p ≤ e) (hL : jtxL txt = 3) (e0 : jtxC txt 0 = c0) (e1 : jtxC txt 1 = c1) (e2 : jtxC txt 2 = c2) (hc : 0 ≤ c0 ∧ c0 ≤ 127 ∧ 0 ≤ c1 ∧ c1 ≤ 127 ∧ 0 ≤ c2 ∧ c2 ≤ 127) : Ret (f_X10_among M 62 txt) (fun r => (((nxt tp e p = c0 ∧ r.1 = 0) ∨ (nxt tp e p ≠ c0 ∧ nxt tp e p = c1 ∧ r.1 = 1) ∨ (nxt tp e p ≠ c0 ∧ nxt tp e p ≠ c1 ∧ nxt tp e p = c2 ∧ r.1 = 2)) ∧ RQ M0 r.2 act ok (p + 1) o l) ∨ (nxt tp e p ≠ c0 ∧ nxt tp e p ≠ c1 ∧ nxt tp e p ≠ c2 ∧ r.1 = -1 ∧ RQ M0 r.2 act ok p o l)) := by
  have hr := hb.rng p0
  unfold f_X10_among
  refine Ret.bb (P := fun x : Unit ⊕ Int => (x = .inl () ∧ nxt tp e p ≠ c0 ∧ nxt tp e p ≠ c1 ∧ nxt tp e p ≠ c2) ∨ (∃ k, x = .inr k ∧ ((nxt tp e p = c0 ∧ k = 0) ∨ (nxt tp e p ≠ c0 ∧ nxt tp e p = c1 ∧ k = 1) ∨ (nxt tp e p ≠ c0 ∧ nxt tp e p ≠ c1 ∧ nxt tp e p = c2 ∧ k = 2)))) ?_ ?_
  · refine Ret.it (fun k : Int => 0 ≤ k ∧ k ≤ 3 ∧ (0 < k → nxt tp e p ≠ c0) ∧ (1 < k → nxt tp e p ≠ c1) ∧ (2 < k → nxt tp e p ≠ c2)) (fun k => (3 - k).toNat) ?_ 5000 0 ⟨by omega, by omega, by omega, by omega, by omega⟩ (by decide)
    intro k ⟨k0, k1, q0, q1, q2⟩
    unfold f_X10_among_L2
    rw [hL, q_here hb h p0 p1, w32_id (x := 3) (by decide) (by decide), w32_id (x := k) (by omega) (by omega)]
    refine Ret.i (fun c => Rr (Or.inl ⟨rfl, q0 (by omega), q1 (by omega), q2 (by omega)⟩)) (fun c => Ret.b ⟨_, rfl, Ret.g ⟨k0, by omega⟩ ?_⟩)
    rw [w32_id (x := nxt tp e p) (by omega) (by omega)]
    have hk : k = 0 ∨ k = 1 ∨ k = 2 := by omega
    rcases hk with rfl | rfl | rfl
    · rw [e0, w32_id (x := c0) (by omega) (by omega)]
      exact Ret.i (fun c => Rr (Or.inr ⟨0, rfl, Or.inl ⟨c, rfl⟩⟩)) (fun c => Rl ⟨⟨by omega, by omega, fun _ => c, by omega, by omega⟩, by decide⟩)
    · rw [e1, w32_id (x := c1) (by omega) (by omega)]
      exact Ret.i (fun c => Rr (Or.inr ⟨1, rfl, Or.inr (Or.inl ⟨q0 (by omega), c, rfl⟩)⟩)) (fun c => Rl ⟨⟨by omega, by omega, fun _ => q0 (by omega), fun _ => c, by omega⟩, by decide⟩)
    · rw [e2, w32_id (x := c2) (by omega) (by omega)]
      exact Ret.i (fun c => Rr (Or.inr ⟨2, rfl, Or.inr (Or.inr ⟨q0 (by omega), q1 (by omega), c, rfl⟩)⟩)) (fun c => Rl ⟨⟨by omega, by omega, fun _ => q0 (by omega), fun _ => q1 (by omega), fun _ => c⟩, by decide⟩)
  · rintro x (⟨rfl, hx⟩ | ⟨k, rfl, hx⟩)
    · exact Ret.s (Or.inr ⟨hx.1, hx.2.1, hx.2.2, rfl, h⟩)
    · refine Ret.l (Ret.s (Or.inl ⟨hx, ?_⟩))
      rw [h.2.1]
      exact h.spot
theorem q_tail {M0 M : jM} {tp : Int → Int} {e act p o w k : Int} {ok : Bool} {l : List Int} (hb : QB M0 tp e act) (h : RQ M0 M act ok p o l) (p0 : 0 ≤ p) (p1 : p ≤ e) (hl : l.length < 140) {v : Int} {ok' : Bool} (hv : v = if ok' = true then 0 else 1) {rS rE rF : jM → Int → Option jM} : Ret (f_X10_factor_169 rS rE rF M 62 w k 62 v) (fun M' => RQ M0 M' act (numS tp e (ok', p)).1 (numS tp e (ok', p)).2.1 o (l ++ (if (numS tp e (ok', p)).1 = true then [w + 8 * k + 32 * (numS tp e (ok', p)).2.2] else []))) := by
  unfold f_X10_factor_169
  have h2 := h.wrong (ok' := ok') hv
  refine Ret.g (by rw [hv]; cases ok' <;> decide) (Ret.l ?_)
  refine Ret.bb (q_num (s := (ok', p)) hb h2 p0 p1) (fun r ⟨h3, h4, h5, h6⟩ => ?_)
  refine Ret.bb (q_emits (v := w + 8 * k + 32 * r.1) hb h3 hl) (fun M' h' => Ret.s ?_)
  by_cases c : (numS tp e (ok', p)).1 = true
  · rw [h4 c] at h'
    exact h'
  · have c2 : (numS tp e (ok', p)).1 = false := by simpa using c
    rw [if_neg c] at h' ⊢
    exact h'
theorem q_F1 {M0 M : jM} {tp : Int → Int} {e act p o : Int} {l : List Int} (hb : QB M0 tp e act) (h : RQ M0 M act true p o l) (p0 : 0 ≤ p) (p1 : p ≤ e) (hl : l.length < 140) {rS rE rF : jM → Int → Option jM} : Ret ((f_X10_among M 62 4).bind fun r17 => (if w32 r17.1 = (-1) then f_X10_factor_130 rS rE rF r17.2 62 r17.1 62 1 else f_X10_factor_130 rS rE rF r17.2 62 r17.1 62 0)) (fun M' => RQ M0 M' act (pTest tp e p).1 (pTest tp e p).2.1 o (l ++ (pTest tp e p).2.2.1)) := by
  refine Ret.bb (q_among (txt := 4) (c0 := 115) (c1 := 103) (c2 := 100) hb h p0 p1 rfl rfl rfl rfl (by decide)) (fun r hr => ?_)
  unfold f_X10_factor_130 f_X10_factor_150 f_X10_factor_164
  rcases hr with ⟨hw, h2⟩ | ⟨n0, n1, n2, hv, h2⟩
  · have hlet : nxt tp e p = 115 ∨ nxt tp e p = 103 ∨ nxt tp e p = 100 := by rcases hw with ⟨q, _⟩ | ⟨_, q, _⟩ | ⟨_, _, q, _⟩ <;> omega
    have hrv : r.1 = letN (nxt tp e p) := by
      unfold letN
      rcases hw with ⟨q, z⟩ | ⟨q, q', z⟩ | ⟨q, q', q2, z⟩
      · rw [if_pos q]; exact z
      · rw [if_neg q, if_pos q']; exact z
      · rw [if_neg q, if_neg q']; exact z
    have hlr : 0 ≤ r.1 ∧ r.1 ≤ 2 := by rcases hw with ⟨_, z⟩ | ⟨_, _, z⟩ | ⟨_, _, _, z⟩ <;> omega
    have hlt := nxt_lt (tp := tp) (e := e) (p := p) (by omega)
    rw [w32_id (x := r.1) (by omega) (by omega)]
    have h3 := h2.wrong (ok' := true) (v := 0) rfl
    refine Ret.f (by omega) (Ret.g (by decide) (Ret.l ?_))
    rw [h3.2.2.1]
    refine Ret.t w32_0 (Ret.bb (q_among (txt := 5) (c0 := 60) (c1 := 61) (c2 := 62) hb h3 (by omega) (by omega) rfl rfl rfl rfl (by decide)) (fun r2 hr2 => ?_))
    unfold pTest
    rw [if_pos hlet]
    rcases hr2 with ⟨hh, h4⟩ | ⟨m0, m1, m2, hv2, h4⟩
    · have c2 : 60 ≤ nxt tp e (p + 1) ∧ nxt tp e (p + 1) ≤ 62 := by rcases hh with ⟨q, _⟩ | ⟨_, q, _⟩ | ⟨_, _, q, _⟩ <;> omega
      have hk : r2.1 = nxt tp e (p + 1) - 60 := by rcases hh with ⟨q, z⟩ | ⟨_, q, z⟩ | ⟨_, _, q, z⟩ <;> omega
      have hlt2 := nxt_lt (tp := tp) (e := e) (p := p + 1) (by omega)
      rw [show p + 1 + 1 = p + 2 by omega] at h4
      rw [h4.2.2.1, w32_id (x := r2.1) (by omega) (by omega)]
      refine Ret.t w32_0 (Ret.f (by omega) ?_)
      refine Ret.m (q_tail (w := r.1) (k := r2.1) (ok' := true) hb h4 (by omega) (by omega) hl rfl) (fun M' h' => ?_)
      rw [if_pos c2]
      have en : numS tp e (true, p + 2) = pNum tp e (p + 2) := rfl
      rw [en] at h'
      by_cases c3 : (pNum tp e (p + 2)).1 = true
      · rw [if_pos c3]
        rw [if_pos c3, c3, hrv, hk] at h'
        exact h'
      · have c4 : (pNum tp e (p + 2)).1 = false := by simpa using c3
        rw [if_neg c3]
        rw [if_neg c3, c4] at h'
        exact h'
    · rw [if_neg (show ¬ (60 ≤ nxt tp e (p + 1) ∧ nxt tp e (p + 1) ≤ 62) by omega)]
      rw [h4.2.2.1, hv2]
      refine Ret.t w32_0 (Ret.t (by decide) ?_)
      exact Ret.m (q_tail (w := r.1) (k := -1) (ok' := false) hb h4 (by omega) (by omega) hl rfl) (fun M' h' => h')
  · rw [hv]
    have h3 := h2.wrong (ok' := false) (v := 1) rfl
    refine Ret.t (by decide) (Ret.g (by decide) (Ret.l ?_))
    rw [h3.2.2.1]
    refine Ret.f w32_1n (Ret.f w32_1n ?_)
    unfold pTest
    rw [if_neg (by omega)]
    exact Ret.m (q_tail (w := -1) (k := 0) (ok' := false) hb h3 p0 p1 hl rfl) (fun M' h' => h')
/-- once wrong, all stays -/
theorem q_wrong {M0 : jM} {act : Int} : ∀ {d k : Nat} {M : jM} {p o : Int} {l : List Int}, k ≤ 2 → 3 - k ≤ d → RQ M0 M act false p o l → Ret (fx_ev d k M 62) (fun M' => RQ M0 M' act false p o l)
  | 0, k, M, p, o, l, hk, hd, _ => by omega
  | d + 1, 0, M, p, o, l, hk, hd, h => by
    show Ret (fb_X10_some (fx_ev d 0) (fx_ev d 1) (fx_ev d 2) M 62) _
    unfold fb_X10_some
    refine Ret.bb (q_wrong (k := 1) (by decide) (by omega) h) (fun M2 h2 => ?_)
    have e1 : f_X10_some_L4 (fx_ev d 0) (fx_ev d 1) (fx_ev d 2) M2 62 M2 = some (.inr M2) := by
      unfold f_X10_some_L4
      rw [h2.2.2.1, if_neg (show ¬ w32 (if false = true then 0 else 1) = 0 from w32_1n)]
    rw [show (5000 : Nat) = 4999 + 1 from rfl, iter_0 e1]
    exact Ret.b ⟨_, rfl, Ret.s h2⟩
  | d + 1, 1, M, p, o, l, hk, hd, h => by
    show Ret (fb_X10_every (fx_ev d 0) (fx_ev d 1) (fx_ev d 2) M 62) _
    unfold fb_X10_every
    refine Ret.bb (q_wrong (k := 2) (by decide) (by omega) h) (fun M2 h2 => ?_)
    have e1 : f_X10_every_L4 (fx_ev d 0) (fx_ev d 1) (fx_ev d 2) M2 62 M2 = some (.inr M2) := by
      unfold f_X10_every_L4
      rw [h2.2.2.1, if_neg (show ¬ w32 (if false = true then 0 else 1) = 0 from w32_1n)]
    rw [show (5000 : Nat) = 4999 + 1 from rfl, iter_0 e1]
    exact Ret.b ⟨_, rfl, Ret.s h2⟩
  | d + 1, 2, M, p, o, l, hk, hd, h => by
    show Ret (fb_X10_factor (fx_ev d 0) (fx_ev d 1) (fx_ev d 2) M 62) _
    unfold fb_X10_factor
    rw [h.2.2.1]
    exact Ret.f w32_1n (Ret.s h)
  | d + 1, k + 3, M, p, o, l, hk, _, _ => by omega
/-- what a part of the reference's reading gives -/
def QP (M0 : jM) (act o : Int) (l : List Int) (M' : jM) (q : jPR) : Prop := RQ M0 M' act q.1 q.2.1 o (l ++ q.2.2.1)
theorem q_loop {M0 : jM} {tp : Int → Int} {e act : Int} (hb : QB M0 tp e act) {b : jM → Option (jM ⊕ jM)} {rec : jM → Option jM} {f : Int → jPR} {c stp o : Int} {l : List Int} {op : Bool → Bool → Bool} (hc0 : 0 ≤ c) (hc1 : c ≤ 127) (hbd : ∀ S, b S = (if w32 (S 62 7) = 0 then (f_X10_here S 62).bind fun r3 => (if w32 r3 = c then lt1 (sto S 62 5 ((S 62 5) + 1)) fun M5 => (rec M5).bind fun r6 => (f_X10_emits r6 62 stp).bind fun r7 => some (.inl r7) else some (.inr S)) else some (.inr S))) {p : Int} (p0 : 0 ≤ p) (hlp : (l.length : Int) ≤ p + 20) (hrec : ∀ M q l', p ≤ q → q ≤ e → (l'.length : Int) ≤ q + 20 → RQ M0 M act true q o l' → Ret (rec M) (fun M' => QP M0 act o l' M' (f q))) (hf : ∀ q, p ≤ q → q ≤ e → PB e q (f q)) {q0 : jPR} {M : jM} (h0 : QP M0 act o l M q0) (hq0 : PB e p q0) : Ret ((iter b 5000 M).bind (fun x8 => some x8)) (fun M' => QP M0 act o l M' (pL tp e f c stp op 100 q0)) := by
  have e100 := hb.2.2.2.2.2.1
  refine Ret.bb (P := fun M' => QP M0 act o l M' (pL tp e f c stp op 100 q0)) ?_ (fun M' h => Ret.s h)
  refine Ret.ig (fun i S => i ≤ 100 ∧ ∃ q : jPR, QP M0 act o l S q ∧ PB e p q ∧ p + (i : Int) ≤ q.2.1 ∧ pL tp e f c stp op (100 - i) q = pL tp e f c stp op 100 q0) 101 ?_ (fun i S h => by omega) 5000 0 M ⟨by decide, q0, h0, hq0, by have := hq0.1; omega, rfl⟩ (by decide)
  rintro i S ⟨i1, q, hq, hpb, hpos, hp⟩
  rw [hbd]
  have hrq : RQ M0 S act q.1 q.2.1 o (l ++ q.2.2.1) := hq
  rw [hrq.2.2.1]
  obtain ⟨pb1, pb2, pb3⟩ := hpb
  rcases hqo : q.1 with _ | _
  · rw [if_neg (show ¬ (false = true) by decide)]
    refine Ret.f w32_1n (Rr ?_)
    rw [pL_no (fun z => by rw [hqo] at z; cases z.1)] at hp
    rw [← hp]; exact hq
  · rw [if_pos rfl]
    have hrq2 := hrq
    rw [hqo] at hrq2
    have hr := hb.rng (p := q.2.1) (by omega)
    rw [q_here hb hrq2 (by omega) pb2, hrq2.2.1]
    refine Ret.t w32_0 (Ret.b ⟨_, rfl, ?_⟩)
    dsimp only
    rw [w32_id (x := nxt tp e q.2.1) (by omega) (by omega)]
    refine Ret.i (fun cc => Ret.l ?_) (fun cc => Rr ?_)
    · have hlt := nxt_lt (tp := tp) (e := e) (p := q.2.1) (by omega)
      have hll : ((l ++ q.2.2.1).length : Int) ≤ q.2.1 + 20 := by
        rw [List.length_append]; omega
      refine Ret.bb (hrec _ (q.2.1 + 1) (l ++ q.2.2.1) (by omega) (by omega) (by omega) hrq2.spot) (fun M2 h2 => ?_)
      have hfb := hf (q.2.1 + 1) (by omega) (by omega)
      obtain ⟨fb1, fb2, fb3⟩ := id hfb
      have h2 : RQ M0 M2 act (f (q.2.1 + 1)).1 (f (q.2.1 + 1)).2.1 o ((l ++ q.2.2.1) ++ (f (q.2.1 + 1)).2.2.1) := h2
      refine Ret.bb (q_emits (v := stp) hb h2 (by rw [List.length_append]; omega)) (fun M3 h3 => ?_)
      refine Rl ⟨by omega, pJoin stp op q (f (q.2.1 + 1)), ?_, PB.join ⟨pb1, pb2, pb3⟩ hfb, ?_, ?_⟩
      · show RQ M0 M3 act (f (q.2.1 + 1)).1 (f (q.2.1 + 1)).2.1 o (l ++ (q.2.2.1 ++ ((f (q.2.1 + 1)).2.2.1 ++ (if (f (q.2.1 + 1)).1 then [stp] else []))))
        rw [List.append_assoc, List.append_assoc] at h3
        exact h3
      · show p + ((i + 1 : Nat) : Int) ≤ (f (q.2.1 + 1)).2.1
        omega
      · rw [← hp, show 100 - i = (100 - (i + 1)) + 1 by omega, pL_go ⟨hqo, cc⟩]
    · rw [pL_no (fun z => cc z.2)] at hp
      rw [← hp]; exact hq
theorem q_pG {M0 : jM} {tp : Int → Int} {e act : Int} (hb : QB M0 tp e act) : ∀ {d k : Nat} {M : jM} {p o : Int} {l : List Int}, k ≤ 2 → 0 ≤ o → o ≤ 5 → 3 * (5 - o.toNat) + (3 - k) + 4 ≤ d → 0 ≤ p → p ≤ e → (l.length : Int) ≤ p + 20 → RQ M0 M act true p o l → Ret (fx_ev d k M 62) (fun M' => QP M0 act o l M' (pG tp e d k p o))
  | 0, k, M, p, o, l, hk, o0, o1, hd, _, _, _, _ => by omega
  | d + 1, 0, M, p, o, l, hk, o0, o1, hd, p0, p1, hl, h => by
    show Ret (fb_X10_some (fx_ev d 0) (fx_ev d 1) (fx_ev d 2) M 62) (fun M' => QP M0 act o l M' (pL tp e (fun q => pG tp e d 1 q o) 124 (-3) or 100 (pG tp e d 1 p o)))
    unfold fb_X10_some
    refine Ret.bb (q_pG hb (k := 1) (by decide) o0 o1 (by omega) p0 p1 hl h) (fun M2 h2 => ?_)
    exact q_loop hb (rec := fun M => fx_ev d 1 M 62) (by decide) (by decide) (fun S => rfl) p0 hl (fun M q l' q0 q1 hl' h3 => q_pG hb (k := 1) (by decide) o0 o1 (by omega) (by omega) q1 hl' h3) (fun q _ q1 => pG_b q1) h2 (pG_b p1)
  | d + 1, 1, M, p, o, l, hk, o0, o1, hd, p0, p1, hl, h => by
    show Ret (fb_X10_every (fx_ev d 0) (fx_ev d 1) (fx_ev d 2) M 62) (fun M' => QP M0 act o l M' (pL tp e (fun q => pG tp e d 2 q o) 38 (-2) and 100 (pG tp e d 2 p o)))
    unfold fb_X10_every
    refine Ret.bb (q_pG hb (k := 2) (by decide) o0 o1 (by omega) p0 p1 hl h) (fun M2 h2 => ?_)
    exact q_loop hb (rec := fun M => fx_ev d 2 M 62) (by decide) (by decide) (fun S => rfl) p0 hl (fun M q l' q0 q1 hl' h3 => q_pG hb (k := 2) (by decide) o0 o1 (by omega) (by omega) q1 hl' h3) (fun q _ q1 => pG_b q1) h2 (pG_b p1)
  | d + 1, 2, M, p, o, l, hk, o0, o1, hd, p0, p1, hl, h => by
    show Ret (fb_X10_factor (fx_ev d 0) (fx_ev d 1) (fx_ev d 2) M 62) (fun M' => QP M0 act o l M' (if nxt tp e p = 33 ∨ nxt tp e p = 40 then (if 5 ≤ o then (false, p, [], fun _ _ _ => false) else if nxt tp e p = 33 then pNeg (pG tp e d 2 (p + 1) (o + 1)) else pClose tp e (pG tp e d 0 (p + 1) (o + 1))) else pTest tp e p))
    have e100 := hb.2.2.2.2.2.1
    have hr := hb.rng p0
    unfold fb_X10_factor
    rw [h.2.2.1, if_pos rfl, q_here hb h p0 p1]
    refine Ret.t w32_0 (Ret.b ⟨_, rfl, ?_⟩)
    dsimp only
    rw [w32_id (x := nxt tp e p) (by omega) (by omega)]
    -- ! or (
    have br : ∀ cc, (cc = 33 ∨ cc = 40) → nxt tp e p = cc → Ret (f_X10_factor_25 (fx_ev d 0) (fx_ev d 1) (fx_ev d 2) M 62 cc) (fun M' => QP M0 act o l M' (if 5 ≤ o then (false, p, [], fun _ _ _ => false) else if cc = 33 then pNeg (pG tp e d 2 (p + 1) (o + 1)) else pClose tp e (pG tp e d 0 (p + 1) (o + 1)))) := by
      intro cc hcc hn
      have hlt := nxt_lt (tp := tp) (e := e) (p := p) (by omega)
      unfold f_X10_factor_25 f_X10_factor_39 f_X10_factor_69 f_X10_factor_101
      rw [h.2.2.2.1, w32_id (x := o) (by omega) (by omega), w32_id (x := cc) (by omega) (by omega)]
      refine Ret.i (fun c5 => ?_) (fun c5 => ?_)
      · -- too many are open
        rw [if_pos (by omega)]
        have h2 := h.wrong (ok' := false) (v := 1) rfl
        refine Ret.g (by decide) (Ret.l ?_)
        rw [h2.2.2.2.1]
        have h3 := h2.opn (q := o + 1)
        refine Ret.l ?_
        rw [h3.2.2.1, h3.2.1]
        refine Ret.f w32_1n (Ret.l ?_)
        rw [Int.add_zero]
        have h4 := h3.spot (q := p)
        have back : ∀ M5, RQ M0 M5 act false p (o + 1) l → QP M0 act o l (sto M5 62 8 (M5 62 8 - 1)) (false, p, [], fun _ _ _ => false) := fun M5 h5 => by
          have h6 := h5.opn (q := M5 62 8 - 1)
          rw [h5.2.2.2.1] at h6 ⊢
          rw [show o + 1 - 1 = o by omega] at h6 ⊢
          show RQ M0 _ act false p o (l ++ [])
          rw [List.append_nil]
          exact h6
        refine Ret.i (fun _ => Ret.bb (q_wrong (k := 2) (by decide) (by omega) h4) (fun M5 h5 => Ret.bb (q_emits hb h5 (by omega)) (fun M6 h6 => Ret.l (Ret.s (back M6 (by rw [if_neg (show ¬ (false = true) by decide), List.append_nil] at h6; exact h6)))))) (fun _ => Ret.bb (q_wrong (k := 0) (by decide) (by omega) h4) (fun M5 h5 => Ret.bb (q_must (s := (false, p)) (c := 41) hb h5 p0 p1 (by decide) (by decide)) (fun M6 h6 => Ret.l (Ret.s (back M6 h6)))))
      · rw [if_neg (by omega)]
        have h2 := h.wrong (ok' := true) (v := 0) rfl
        refine Ret.g (by decide) (Ret.l ?_)
        rw [h2.2.2.2.1]
        have h3 := h2.opn (q := o + 1)
        refine Ret.l ?_
        rw [h3.2.2.1, h3.2.1]
        refine Ret.t w32_0 (Ret.l ?_)
        have h4 := h3.spot (q := p + 1)
        refine Ret.i (fun c33 => ?_) (fun c33 => ?_)
        · rw [if_pos c33]
          refine Ret.bb (q_pG hb (k := 2) (by decide) (by omega) (by omega) (by omega) (by omega) (by omega) (by omega) h4) (fun M5 h5 => ?_)
          have b := pG_b (tp := tp) (e := e) (d := d) (k := 2) (p := p + 1) (o := o + 1) (by omega)
          obtain ⟨b1, b2, b3⟩ := b
          have h5 : RQ M0 M5 act (pG tp e d 2 (p + 1) (o + 1)).1 (pG tp e d 2 (p + 1) (o + 1)).2.1 (o + 1) (l ++ (pG tp e d 2 (p + 1) (o + 1)).2.2.1) := h5
          refine Ret.bb (q_emits (v := -1) hb h5 (by rw [List.length_append]; omega)) (fun M6 h6 => Ret.l (Ret.s ?_))
          have h7 := h6.opn (q := M6 62 8 - 1)
          rw [h6.2.2.2.1] at h7 ⊢
          rw [show o + 1 - 1 = o by omega] at h7 ⊢
          rw [List.append_assoc] at h7
          exact h7
        · rw [if_neg c33]
          refine Ret.bb (q_pG hb (k := 0) (by decide) (by omega) (by omega) (by omega) (by omega) (by omega) (by omega) h4) (fun M5 h5 => ?_)
          have b := pG_b (tp := tp) (e := e) (d := d) (k := 0) (p := p + 1) (o := o + 1) (by omega)
          obtain ⟨b1, b2, b3⟩ := b
          refine Ret.bb (q_must (s := ((pG tp e d 0 (p + 1) (o + 1)).1, (pG tp e d 0 (p + 1) (o + 1)).2.1)) (c := 41) hb h5 (by show 0 ≤ (pG tp e d 0 (p + 1) (o + 1)).2.1; omega) b2 (by decide) (by decide)) (fun M6 h6 => Ret.l (Ret.s ?_))
          have h7 := h6.opn (q := M6 62 8 - 1)
          rw [h6.2.2.2.1] at h7 ⊢
          rw [show o + 1 - 1 = o by omega] at h7 ⊢
          unfold takeS at h7
          unfold pClose
          dsimp only at h7
          by_cases c4 : (pG tp e d 0 (p + 1) (o + 1)).1 = true ∧ nxt tp e (pG tp e d 0 (p + 1) (o + 1)).2.1 = 41
          · rw [if_pos c4] at h7 ⊢
            exact h7
          · rw [if_neg c4] at h7 ⊢
            exact h7
    refine Ret.i (fun c => ?_) (fun c => Ret.i (fun c2 => ?_) (fun c2 => ?_))
    · rw [if_pos (Or.inl c)]
      exact br _ (Or.inl c) rfl
    · rw [if_pos (Or.inr c2)]
      exact br _ (Or.inr c2) rfl
    · rw [if_neg (by omega)]
      exact q_F1 hb h p0 p1 (by omega)
  | d + 1, k + 3, M, p, o, l, hk, _, _, _, _, _, _, _ => by omega
