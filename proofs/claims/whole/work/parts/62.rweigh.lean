/-! the reference's weights: its steps -/
def b2i (b : Bool) : Int := if b then 1 else 0
def Stk (M : jM) : List Bool → Prop
  | [] => True
  | b :: t => M 66 (t.length : Int) = b2i b ∧ Stk M t
theorem Stk.sto {M : jM} {k v : Int} : ∀ {t : List Bool}, Stk M t → (t.length : Int) ≤ k → Stk (sto M 66 k v) t
  | [], _, _ => trivial
  | b :: t, h, hk => by
    have hk : ((t.length + 1 : Nat) : Int) ≤ k := hk
    exact ⟨by rw [sto_ne (by omega)]; exact h.1, Stk.sto h.2 (by omega)⟩
def stepT (M : jM) (fr : Int) (j n : Nat) : List Int := (List.range' j n).map (fun i : Nat => M 63 (fr + (i : Int)))
theorem stepT_s {M : jM} {fr : Int} {j n : Nat} : stepT M fr j (n + 1) = M 63 (fr + (j : Int)) :: stepT M fr (j + 1) n := rfl
theorem jp_62_9 : jpt 62 9 = 65 := rfl
theorem jp_62_10 : jpt 62 10 = 66 := rfl
theorem w32_n8 : w32 8 = 8 := w32_id (by decide) (by decide)
theorem w32_n4 : w32 4 = 4 := w32_id (by decide) (by decide)
theorem w32_n32 : w32 32 = 32 := w32_id (by decide) (by decide)
theorem b2i_0 : ¬ b2i false = 1 ∧ b2i false = 0 := ⟨by decide, rfl⟩
theorem RlE {S X : Type} {x : Option (S ⊕ X)} {A : S → Prop} {Q : X → Prop} (h : ∃ t, x = some (Sum.inl t) ∧ A t) : Ret x (fun r => (∀ t, r = .inl t → A t) ∧ (∀ x, r = .inr x → Q x)) := by
  obtain ⟨t, h1, h2⟩ := h
  rw [h1]
  exact Rl h2
/-- the loop's state -/
def EvI (M : jM) (g dy sg fr many R : Int) (S : jM × Int × Int × Int) : Prop := ∃ st : List Bool, fr ≤ S.2.2.2 ∧ S.2.2.2 ≤ fr + many ∧ S.2.2.1 = (st.length : Int) ∧ st.length ≤ 64 ∧ Stk S.1 st ∧ (∀ a b, a ≠ 66 → S.1 a b = M a b) ∧ evS g dy sg (stepT M fr (S.2.2.2 - fr).toNat (fr + many - S.2.2.2).toNat) st S.2.1 = some R
set_option maxHeartbeats 4000000 in
theorem r_evs {M : jM} {g dy sg fr many R : Int} (b0 : M 65 0 = sg) (b1 : M 65 1 = g) (b2 : M 65 2 = dy) (hb : -2147483648 ≤ sg ∧ sg < 2147483648 ∧ -2147483648 ≤ g ∧ g < 2147483648 ∧ -2147483648 ≤ dy ∧ dy < 2147483648) (f0 : 0 ≤ fr) (m0 : 0 ≤ many) (f1 : fr + many ≤ 952) (hs : ∀ i, 0 ≤ i → i < many → -2147483648 ≤ M 63 (fr + i) ∧ M 63 (fr + i) < 2147483648) (hR : evS g dy sg (stepT M fr 0 many.toNat) [] 1 = some R) :
    Ret (iter (f_X10_weightOf_L87 M 62 many fr) 5000 (M, 1, 0, fr)) (fun x => x.2 = R ∧ ∀ a b, a ≠ 66 → x.1 a b = M a b) := by
  refine Ret.it (EvI M g dy sg fr many R) (fun S => (fr + many - S.2.2.2).toNat) ?_ 5000 (M, 1, 0, fr) ⟨[], by show fr ≤ fr; omega, by show fr ≤ fr + many; omega, rfl, by decide, trivial, fun _ _ _ => rfl, ?_⟩ (by show (fr + many - fr).toNat < 5000; omega)
  · rintro ⟨M1, sum, top, i⟩ ⟨st, i0, i1, ht, hl, hk, he, hv⟩
    dsimp only at i0 i1 ht hk he hv
    unfold f_X10_weightOf_L87 f_X10_weightOf_290 f_X10_weightOf_316 f_X10_weightOf_321 f_X10_weightOf_235 f_X10_weightOf_197 f_X10_weightOf_347 f_X10_weightOf_349
    dsimp +instances only
    rw [jp_62_1, jp_62_9, jp_62_10, w32_n8, w32_n4, w32_n32, he 63 _ (by decide), w32_id (x := fr + many) (by omega) (by omega), w32_id (x := i) (by omega) (by omega)]
    refine Ret.i (fun c => Rr ?_) (fun c => Ret.g ⟨by omega, by omega⟩ ?_)
    · have e : (fr + many - i).toNat = 0 := by omega
      rw [e] at hv
      exact ⟨Option.some.inj hv, he⟩
    · have e1 : (fr + many - i).toNat = (fr + many - (i + 1)).toNat + 1 := by omega
      have e2 : (i - fr).toNat + 1 = (i + 1 - fr).toNat := by omega
      have e3 : fr + ((i - fr).toNat : Int) = i := by omega
      rw [e1, stepT_s, e2, e3] at hv
      obtain ⟨x0, x1⟩ := hs (i - fr) (by omega) (by omega)
      rw [show fr + (i - fr) = i by omega] at x0 x1
      have mu : (fr + many - (i + 1)).toNat < (fr + many - i).toNat := by omega
      generalize M 63 i = x at hv x0 x1 ⊢
      generalize hr : stepT M fr (i + 1 - fr).toNat (fr + many - (i + 1)).toNat = r at hv
      rw [w32_id x0 x1]
      have put : ∀ (t : List Bool) (b' : Bool) (z top' : Int), Stk M1 t → t.length < 64 → top' = (t.length : Int) + 1 → evS g dy sg r (b' :: t) sum = some R → z = b2i b' → ∃ t', (grd (0 ≤ (t.length : Int) ∧ (t.length : Int) < 64) (grd (z = 0 ∨ z = 1) (lt1 (sto M1 66 (t.length : Int) z) fun M' => (some (Sum.inl (M', sum, top', i + 1)) : Option ((jM × Int × Int × Int) ⊕ (jM × Int)))))) = some (Sum.inl t') ∧ (EvI M g dy sg fr many R t' ∧ (fr + many - t'.2.2.2).toNat < (fr + many - i).toNat) := by
        intro t b' z top' hk ht he2 hv hz
        refine ⟨(sto M1 66 (t.length : Int) z, sum, top', i + 1), ?_, ⟨b' :: t, by show fr ≤ i + 1; omega, by show i + 1 ≤ fr + many; omega, by show top' = ((t.length + 1 : Nat) : Int); omega, by show t.length + 1 ≤ 64; omega, ⟨by show sto M1 66 (t.length : Int) z 66 (t.length : Int) = _; rw [sto_eq rfl rfl]; exact hz, hk.sto (Int.le_refl _)⟩, fun a b q => by show sto M1 66 (t.length : Int) z a b = _; rw [sto_ne (by omega)]; exact he a b q, by show evS g dy sg (stepT M fr (i + 1 - fr).toNat (fr + many - (i + 1)).toNat) _ _ = _; rw [hr]; exact hv⟩, mu⟩
        unfold grd
        rw [if_pos ⟨by omega, by omega⟩, if_pos (by cases b' <;> rw [hz] <;> decide)]
        rfl
      by_cases c0 : 0 ≤ x
      · refine Ret.f (by omega) ?_
        rw [evS.eq_def] at hv
        dsimp only at hv
        rw [if_pos c0] at hv
        have hc : st.length < 64 ∧ x % 8 < 3 := by
          by_cases q : st.length < 64 ∧ x % 8 < 3
          · exact q
          · rw [if_neg q] at hv; cases hv
        rw [if_pos hc] at hv
        have hby : M1 65 (x % 8) = (if x % 8 = 0 then sg else if x % 8 = 1 then g else dy) := by
          have q : x % 8 = 0 ∨ x % 8 = 1 ∨ x % 8 = 2 := by omega
          rcases q with q | q | q
          · rw [q, he 65 _ (by decide), b0, if_pos rfl]
          · rw [q, he 65 _ (by decide), b1, if_neg (by decide), if_pos rfl]
          · rw [q, he 65 _ (by decide), b2, if_neg (by decide), if_neg (by decide)]
        have hvr : -2147483648 ≤ (if x % 8 = 0 then sg else if x % 8 = 1 then g else dy) ∧ (if x % 8 = 0 then sg else if x % 8 = 1 then g else dy) < 2147483648 := by
          split
          · omega
          · split <;> omega
        generalize (if x % 8 = 0 then sg else if x % 8 = 1 then g else dy) = v at hv hby hvr
        rw [Int.tmod_eq_emod_of_nonneg c0, Int.tdiv_eq_ediv_of_nonneg c0, Int.tdiv_eq_ediv_of_nonneg c0, w32_id (x := x % 8) (by omega) (by omega), w32_id (x := x / 8) (by omega) (by omega), Int.tmod_eq_emod_of_nonneg (a := x / 8) (by omega), w32_id (x := x / 8 % 4) (by omega) (by omega), w32_id (x := x / 32) (by omega) (by omega), hby, w32_id (x := v) (by omega) (by omega), w32_id (x := top) (by omega) (by omega), ht]
        refine Ret.g (by decide) (Ret.g ⟨by omega, by omega⟩ (Ret.g (by decide) (Ret.g (by decide) (Ret.g (by decide) ?_))))
        refine Ret.i (fun c1 => ?_) (fun c1 => Ret.i (fun c2 => ?_) (fun c2 => ?_))
        · rw [if_pos c1] at hv
          refine Ret.i (fun c3 => RlE (put st false 0 _ hk hc.1 rfl ?_ rfl)) (fun c3 => RlE (put st true 1 _ hk hc.1 rfl ?_ rfl))
          · rw [decide_eq_false (by omega)] at hv; exact hv
          · rw [decide_eq_true (by omega)] at hv; exact hv
        · rw [if_neg c1, if_pos c2] at hv
          refine Ret.i (fun c3 => RlE (put st true 1 _ hk hc.1 rfl ?_ rfl)) (fun c3 => RlE (put st false 0 _ hk hc.1 rfl ?_ rfl))
          · rw [decide_eq_true c3] at hv; exact hv
          · rw [decide_eq_false c3] at hv; exact hv
        · rw [if_neg c1, if_neg c2] at hv
          refine Ret.i (fun c3 => RlE (put st false 0 _ hk hc.1 rfl ?_ rfl)) (fun c3 => RlE (put st true 1 _ hk hc.1 rfl ?_ rfl))
          · rw [decide_eq_false (by omega)] at hv; exact hv
          · rw [decide_eq_true (by omega)] at hv; exact hv
      · refine Ret.t (by omega) ?_
        rw [evS.eq_def] at hv
        dsimp only at hv
        rw [if_neg c0] at hv
        by_cases cm : x = -1
        · refine Ret.t cm ?_
          rw [if_pos cm] at hv
          rcases st with _ | ⟨b, t⟩
          · cases hv
          · dsimp only at hv
            have ht : top = ((t.length + 1 : Nat) : Int) := ht
            have hl : t.length + 1 ≤ 64 := hl
            have e5 : w32 (top - 1) = (t.length : Int) := by rw [ht, w32_id (by omega) (by omega)]; omega
            have e6 : w32 (b2i b) = b2i b := by cases b <;> exact w32_id (by decide) (by decide)
            rw [e5, hk.1, e6]
            refine Ret.g ⟨by omega, by omega⟩ (Ret.i (fun c3 => RlE (put t (!b) 1 _ hk.2 (by omega) (by omega) hv ?_)) (fun c3 => RlE (put t (!b) 0 _ hk.2 (by omega) (by omega) hv ?_)))
            · cases b
              · rfl
              · exact absurd c3 (by decide)
            · cases b
              · exact absurd rfl c3
              · rfl
        · refine Ret.f cm ?_
          rw [if_neg cm] at hv
          by_cases c10 : -10 < x
          · refine Ret.f (by omega) ?_
            rw [if_pos c10] at hv
            rcases st with _ | ⟨b, _ | ⟨a, t⟩⟩
            · cases hv
            · cases hv
            · dsimp only at hv
              have ht : top = ((t.length + 1 + 1 : Nat) : Int) := ht
              have hl : t.length + 1 + 1 ≤ 64 := hl
              obtain ⟨hkb, hka, hkt⟩ := hk
              have hkb : M1 66 ((t.length + 1 : Nat) : Int) = b2i b := hkb
              have e5 : w32 ((top + (-1)) - 1) = (t.length : Int) := by rw [ht, w32_id (by omega) (by omega)]; omega
              have e7 : w32 (top + (-1)) = ((t.length + 1 : Nat) : Int) := by rw [ht, w32_id (by omega) (by omega)]; omega
              have e6 : w32 (b2i b) = b2i b := by cases b <;> exact w32_id (by decide) (by decide)
              have e8 : w32 (b2i a) = b2i a := by cases a <;> exact w32_id (by decide) (by decide)
              rw [e5, e7, hkb, hka, e6, e8]
              have go : ∀ z : Int, z = b2i (if x = -2 then a && b else a || b) → _ := fun z hz => RlE (Q := fun x : jM × Int => x.2 = R ∧ ∀ a b, a ≠ 66 → x.1 a b = M a b) (put t (if x = -2 then a && b else a || b) z (top + (-1)) hkt (by omega) (by omega) hv hz)
              refine Ret.i (fun c2 => ?_) (fun c2 => ?_)
              · refine Ret.g ⟨by omega, by omega⟩ (Ret.i (fun c3 => go 0 ?_) (fun c3 => Ret.g ⟨by omega, by omega⟩ (Ret.i (fun c4 => go 0 ?_) (fun c4 => go 1 ?_)))) <;> rw [if_pos c2] <;> cases a <;> cases b <;> first | rfl | exact absurd c3 (by decide) | exact absurd rfl c3 | exact absurd c4 (by decide) | exact absurd rfl c4
              · refine Ret.g ⟨by omega, by omega⟩ (Ret.i (fun c3 => Ret.g ⟨by omega, by omega⟩ (Ret.i (fun c4 => go 0 ?_) (fun c4 => go 1 ?_))) (fun c3 => go 1 ?_)) <;> rw [if_neg c2] <;> cases a <;> cases b <;> first | rfl | exact absurd c3 (by decide) | exact absurd rfl c3 | exact absurd c4 (by decide) | exact absurd rfl c4
          · refine Ret.t (by omega) ?_
            rw [if_neg c10] at hv
            rcases st with _ | ⟨b, _ | ⟨a, t⟩⟩
            · cases hv
            · dsimp only at hv
              have hkb : M1 66 0 = b2i b := hk.1
              have e6 : w32 (b2i b) = b2i b := by cases b <;> exact w32_id (by decide) (by decide)
              rw [hkb, e6]
              have fin : ∀ z, evS g dy sg r [] z = some R → (EvI M g dy sg fr many R (M1, z, 0, i + 1) ∧ (fr + many - (i + 1)).toNat < (fr + many - i).toNat) := fun z hz => ⟨⟨[], by show fr ≤ i + 1; omega, by show i + 1 ≤ fr + many; omega, rfl, by decide, trivial, he, by show evS g dy sg (stepT M fr (i + 1 - fr).toNat (fr + many - (i + 1)).toNat) _ _ = _; rw [hr]; exact hz⟩, mu⟩
              refine Ret.i (fun c3 => Rl (fin _ ?_)) (fun c3 => Rl (fin _ ?_))
              · cases b
                · rw [Int.add_zero]; exact hv
                · exact absurd c3 (by decide)
              · cases b
                · exact absurd rfl c3
                · exact hv
            · cases hv
  · rw [show (fr - fr).toNat = 0 by omega, show (fr + many - fr).toNat = many.toNat by omega]
    exact hR
