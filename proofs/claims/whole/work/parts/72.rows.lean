/-! all rows of n signs, in their order -/
def dgN (g n i j : Nat) : Nat := i / g ^ (n - 1 - j) % g
def dg (g n : Int) (i : Nat) : Int → Int := fun j => ((dgN g.toNat n.toNat i j.toNat : Nat) : Int)
theorem dg_tab : ∀ g : Fin 2, ∀ n : Fin 5, ∀ i : Fin 81, i.val < (g.val + 2) ^ n.val → ∀ p : Fin 4, p.val < n.val → (∀ q : Fin 4, q.val < p.val → dgN (g.val + 2) n.val i.val (n.val - 1 - q.val) = g.val + 1) → dgN (g.val + 2) n.val i.val (n.val - 1 - p.val) + 1 < g.val + 2 → i.val + 1 < (g.val + 2) ^ n.val ∧ ∀ j : Fin 4, j.val < n.val → dgN (g.val + 2) n.val (i.val + 1) j.val = if j.val < n.val - 1 - p.val then dgN (g.val + 2) n.val i.val j.val else if j.val = n.val - 1 - p.val then dgN (g.val + 2) n.val i.val j.val + 1 else 0 := by decide +kernel
theorem dg_last : ∀ g : Fin 2, ∀ n : Fin 5, ∀ i : Fin 81, i.val < (g.val + 2) ^ n.val → (∀ q : Fin 4, q.val < n.val → dgN (g.val + 2) n.val i.val (n.val - 1 - q.val) = g.val + 1) → i.val + 1 = (g.val + 2) ^ n.val := by decide +kernel
theorem pw_81 : ∀ g : Fin 2, ∀ n : Fin 5, 0 < (g.val + 2) ^ n.val ∧ (g.val + 2) ^ n.val ≤ 81 := by decide +kernel
theorem pw_rng {g n : Int} (g0 : 2 ≤ g) (g1 : g ≤ 3) (n0 : 1 ≤ n) (n1 : n ≤ 4) : 0 < g.toNat ^ n.toNat ∧ g.toNat ^ n.toNat ≤ 81 := by
  have := pw_81 ⟨g.toNat - 2, by omega⟩ ⟨n.toNat, by omega⟩
  dsimp only at this
  rw [show g.toNat - 2 + 2 = g.toNat by omega] at this
  exact this
theorem dg_rng {g n : Int} {i : Nat} (g0 : 2 ≤ g) (g1 : g ≤ 3) (j : Int) : 0 ≤ dg g n i j ∧ dg g n i j ≤ 2 ∧ dg g n i j < g := by
  unfold dg dgN
  have := Nat.mod_lt (i / g.toNat ^ (n.toNat - 1 - j.toNat)) (show 0 < g.toNat by omega)
  omega
theorem pk4_upd {d : Int → Int} {q v : Int} (q0 : 0 ≤ q) : ∀ {n : Nat}, q < n → pk4 (fun j => if j = q then v else d j) n = pk4 d n + (v - d q) * 4 ^ (n - 1 - q.toNat)
  | 0, h => by omega
  | n + 1, h => by
    show 4 * pk4 (fun j => if j = q then v else d j) n + (if (n : Int) = q then v else d n) = 4 * pk4 d n + d n + (v - d q) * 4 ^ (n + 1 - 1 - q.toNat)
    by_cases c : (n : Int) = q
    · rw [if_pos c, pk4_cong (e := d) (fun i hi => by show (if (i : Int) = q then v else d i) = d i; rw [if_neg (by omega)])]
      have e : n + 1 - 1 - q.toNat = 0 := by omega
      rw [e, Int.pow_zero, c, Int.mul_one]
      omega
    · have e : n + 1 - 1 - q.toNat = (n - 1 - q.toNat) + 1 := by omega
      rw [if_neg c, pk4_upd q0 (by omega), e, Int.pow_succ, ← Int.mul_assoc, Int.mul_add]
      omega
theorem ln_digit {M : jM} {t : Int} {d : Int → Int} {n p : Int} (h : Ln M t d n) (p0 : 0 ≤ p) (p1 : p < n) : land (lshr (M t 1) (2 * p)) 3 = d (n - 1 - p) := by
  have hn := h.2.1
  have e1 := ln_first h (k := n - p) (by omega) (by omega)
  rw [show n - (n - p) = p by omega] at e1
  obtain ⟨b0, b1⟩ := pk_bd (d := d) (n := (n - p).toNat) (by omega) (fun i hi => h.2.2.2.2 i (by omega) (by omega))
  have e2 := land_m (a := pk4 d (n - p).toNat) (k := 2) b0 (by omega) (by decide)
  have e3 : (2 : Int) ^ 2 - 1 = 3 := by decide
  have e4 : (2 : Int) ^ 2 = 4 := by decide
  rw [e3, e4] at e2
  rw [e1, e2]
  have e5 : (n - p).toNat = (n - 1 - p).toNat + 1 := by omega
  obtain ⟨d0, d1⟩ := h.2.2.2.2 (n - 1 - p) (by omega) (by omega)
  rw [e5]
  show (4 * pk4 d (n - 1 - p).toNat + d ((n - 1 - p).toNat : Int)) % 4 = _
  rw [Int.toNat_of_nonneg (by omega)]
  omega
theorem lshl_4 {s p : Int} (s0 : 0 ≤ s) (s1 : s ≤ 2) (p0 : 0 ≤ p) (p1 : p ≤ 24) : lshl s (2 * p) = s * 4 ^ p.toNat := by
  have hb : (4 : Int) ^ p.toNat ≤ 4 ^ 24 := p4_le (by omega)
  have h4 : (4 : Int) ^ 24 = 281474976710656 := by decide
  have hp : (0 : Int) < 4 ^ p.toNat := Int.pow_pos (by decide)
  have hm := mul_bd s0 s1 (Int.le_of_lt hp) hb
  rw [lshl_e s0 (by omega) (by omega) (by rw [p4_e p0]; omega), p4_e p0]
theorem s_stepOn {M : jM} {t : Int} {d : Int → Int} {n g : Int} {i : Nat} (h : Ln M t d n) (n0 : 1 ≤ n) (n1 : n ≤ 4) (g0 : 2 ≤ g) (g1 : g ≤ 3) (hi : i < g.toNat ^ n.toNat) (hd : ∀ j, 0 ≤ j → j < n → d j = dg g n i j) : Ret (f_X3_stepOn M t g) (fun x => (∀ a b, ¬ (a = t ∧ b = 1) → x.2 a b = M a b) ∧ ((x.1 = 1 ∧ i + 1 < g.toNat ^ n.toNat ∧ Ln x.2 t (dg g n (i + 1)) n) ∨ (x.1 = 0 ∧ i + 1 = g.toNat ^ n.toNat))) := by
  have h81 := pw_rng g0 g1 n0 n1
  have hdN : ∀ q : Nat, q < n.toNat → d (n - 1 - (q : Int)) = ((dgN g.toNat n.toNat i (n.toNat - 1 - q) : Nat) : Int) := fun q hq => by
    rw [hd _ (by omega) (by omega)]
    unfold dg
    rw [show (n - 1 - (q : Int)).toNat = n.toNat - 1 - q by omega]
  unfold f_X3_stepOn
  refine Ret.bb (P := fun x : jM ⊕ (jM × Int) => (∃ M1, x = .inl M1 ∧ (∀ a b, ¬ (a = t ∧ b = 1) → M1 a b = M a b) ∧ i + 1 = g.toNat ^ n.toNat) ∨ (∃ M1 p, x = .inr (M1, p) ∧ (∀ a b, ¬ (a = t ∧ b = 1) → M1 a b = M a b) ∧ 0 ≤ p ∧ p < n ∧ Ln M1 t (fun j => if j < n - p then d j else 0) n ∧ d (n - 1 - p) + 1 < g ∧ ∀ j, n - p ≤ j → j < n → d j = g - 1)) ?_ ?_
  · refine Ret.it (fun S : jM × Int => 0 ≤ S.2 ∧ S.2 ≤ n ∧ (∀ a b, ¬ (a = t ∧ b = 1) → S.1 a b = M a b) ∧ Ln S.1 t (fun j => if j < n - S.2 then d j else 0) n ∧ ∀ j, n - S.2 ≤ j → j < n → d j = g - 1) (fun S => (n - S.2).toNat) ?_ 5000 (M, 0) ⟨by show (0 : Int) ≤ 0; omega, by show (0 : Int) ≤ n; omega, fun _ _ _ => rfl, ?_, fun j j0 j1 => by have j0 : n - 0 ≤ j := j0; omega⟩ (by show (n - 0).toNat < 5000; omega)
    · rintro ⟨M1, p⟩ ⟨p0, p1, he, hl, ha⟩
      dsimp only at p0 p1 he hl ha
      unfold f_X3_stepOn_L2
      dsimp +instances only
      rw [hl.2.2.1, w32_id (x := n) (by omega) (by omega), w32_id (x := p) (by omega) (by omega), w32_id (x := g) (by omega) (by omega), w64_id (x := g) (by omega) (by omega)]
      refine Ret.i (fun c => Rr (Or.inl ⟨M1, rfl, he, ?_⟩)) (fun c => ?_)
      · have k := dg_last ⟨g.toNat - 2, by omega⟩ ⟨n.toNat, by omega⟩ ⟨i, by omega⟩
        dsimp only at k
        rw [show g.toNat - 2 + 2 = g.toNat by omega] at k
        refine k hi (fun q hq => ?_)
        have e := hdN q.val hq
        rw [ha _ (by omega) (by omega)] at e
        omega
      · have hp := ln_digit hl p0 (by omega)
        rw [if_pos (by omega)] at hp
        obtain ⟨d0, d1⟩ := h.2.2.2.2 (n - 1 - p) (by omega) (by omega)
        rw [hp, w64_id (x := d (n - 1 - p) + 1) (by omega) (by omega)]
        refine Ret.i (fun c2 => Ret.l (Rl ⟨⟨by show 0 ≤ p + 1; omega, by show p + 1 ≤ n; omega, fun a b q => ?_, ?_, fun j j0 j1 => ?_⟩, by show (n - (p + 1)).toNat < (n - p).toNat; omega⟩)) (fun c2 => Rr (Or.inr ⟨M1, p, rfl, he, p0, by omega, hl, by omega, ha⟩))
        · dsimp only
          rw [sto_ne q]; exact he a b q
        · dsimp only
          have hdr := hd (n - 1 - p) (by omega) (by omega)
          refine ⟨hl.1, hl.2.1, by rw [sto_ne (by omega)]; exact hl.2.2.1, ?_, fun j j0 j1 => ?_⟩
          · have cg : pk4 (fun j => if j < n - (p + 1) then d j else 0) n.toNat = pk4 (fun j => if j = n - 1 - p then 0 else (fun j => if j < n - p then d j else 0) j) n.toNat := pk4_cong (fun j hj => by
              dsimp only
              by_cases q1 : (j : Int) = n - 1 - p
              · rw [if_pos q1, if_neg (by omega)]
              · rw [if_neg q1]
                by_cases q2 : (j : Int) < n - (p + 1)
                · rw [if_pos q2, if_pos (by omega)]
                · rw [if_neg q2, if_neg (by omega)])
            rw [sto_eq rfl rfl, cg, pk4_upd (by omega) (by omega), hl.2.2.2.1, lshl_4 d0 d1 p0 (by omega)]
            rw [if_pos (by omega), show n.toNat - 1 - (n - 1 - p).toNat = p.toNat by omega, Int.sub_mul, Int.zero_mul]
            omega
          · have := hl.2.2.2.2 j j0 j1
            dsimp only at this ⊢
            by_cases q2 : j < n - (p + 1)
            · rw [if_pos q2]; rw [if_pos (by omega)] at this; exact this
            · rw [if_neg q2]; decide
        · have j0 : n - (p + 1) ≤ j := j0
          by_cases q : j = n - 1 - p
          · rw [q]; have := hd (n - 1 - p) (by omega) (by omega); have := dg_rng (n := n) (i := i) g0 g1 (n - 1 - p); omega
          · exact ha j (by omega) j1
    · refine ⟨h.1, h.2.1, h.2.2.1, ?_, fun j j0 j1 => ?_⟩
      · show M t 1 = pk4 (fun j => if j < n - 0 then d j else 0) n.toNat
        rw [h.2.2.2.1]
        exact pk4_cong (fun j hj => by rw [if_pos (by omega)])
      · dsimp only; rw [if_pos (by omega)]; exact h.2.2.2.2 j j0 j1
  · rintro x (⟨M1, rfl, he, hx⟩ | ⟨M1, p, rfl, he, p0, p1, hl, hs, ha⟩)
    · exact Ret.s ⟨he, Or.inr ⟨rfl, hx⟩⟩
    · refine Ret.l (Ret.s ⟨fun a b q => ?_, Or.inl ⟨rfl, ?_⟩⟩)
      · dsimp only
        rw [sto_ne q]; exact he a b q
      · have k := dg_tab ⟨g.toNat - 2, by omega⟩ ⟨n.toNat, by omega⟩ ⟨i, by omega⟩
        dsimp only at k
        rw [show g.toNat - 2 + 2 = g.toNat by omega] at k
        have kp := k hi ⟨p.toNat, by omega⟩ (by show p.toNat < n.toNat; omega) (fun q hq => by
          have hq : q.val < p.toNat := hq
          have e := hdN q.val (by omega)
          rw [ha _ (by omega) (by omega)] at e
          omega) (by
          have e := hdN p.toNat (by omega)
          rw [Int.toNat_of_nonneg p0] at e
          show dgN g.toNat n.toNat i (n.toNat - 1 - p.toNat) + 1 < g.toNat
          omega)
        refine ⟨kp.1, ?_⟩
        have dnew : ∀ j : Int, 0 ≤ j → j < n → dg g n (i + 1) j = if j = n - 1 - p then d (n - 1 - p) + 1 else if j < n - p then d j else 0 := by
          intro j j0 j1
          have e := kp.2 ⟨j.toNat, by omega⟩ (by show j.toNat < n.toNat; omega)
          dsimp only at e
          have ed := hd j j0 j1
          unfold dg at ed ⊢
          rw [e]
          by_cases q1 : j = n - 1 - p
          · rw [if_pos q1, if_neg (by omega), if_pos (by omega), ← q1]
            omega
          · rw [if_neg q1]
            by_cases q2 : j < n - p
            · rw [if_pos q2, if_pos (by omega)]; exact ed.symm
            · rw [if_neg q2, if_neg (by omega), if_neg (by omega)]; rfl
        refine ⟨hl.1, hl.2.1, by dsimp only; rw [sto_ne (by omega)]; exact hl.2.2.1, ?_, fun j _ _ => ⟨(dg_rng g0 g1 j).1, (dg_rng g0 g1 j).2.1⟩⟩
        have cg : pk4 (dg g n (i + 1)) n.toNat = pk4 (fun j => if j = n - 1 - p then d (n - 1 - p) + 1 else (fun j => if j < n - p then d j else 0) j) n.toNat := pk4_cong (fun j hj => dnew j (by omega) (by omega))
        dsimp only
        rw [sto_eq rfl rfl, cg, pk4_upd (by omega) (by omega), hl.2.2.2.1, lshl_4 (by decide) (by decide) p0 (by omega)]
        rw [if_pos (by omega), show n.toNat - 1 - (n - 1 - p).toNat = p.toNat by omega]
        have : d (n - 1 - p) + 1 - d (n - 1 - p) = 1 := by omega
        rw [this]
