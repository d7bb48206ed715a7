def jNO : Int := -9223372036854775808
theorem r_meet {M0 M : jM} (h : jInv M0) (f : Fr8 M0 M) {a b p : Int} (a0 : -2147483648 ≤ a) (a1 : a < 2147483648) (b0 : -2147483648 ≤ b) (b1 : b < 2147483648) (p0 : -2147483648 ≤ p) (p1 : p < 2147483648) {K : Option (Int × jM)} {Q : Int × jM → Prop} (no : (¬ Meet M0 a b ∨ ¬ (p = 0 ∨ p = 1)) → Q ((-9223372036854775808), M)) (yes : Meet M0 a b → (p = 0 ∨ p = 1) → Ret K Q) : Ret ((f_X10_canMeet M 62 a b).bind fun r1 => (if w32 r1 = 0 then some ((-9223372036854775808), M) else (f_X10_in M p 0 1).bind fun r3 => (if w32 r3 = 0 then some ((-9223372036854775808), M) else K))) Q := by
  rw [r_isPart M p0 p1]
  refine Ret.bb (r_canMeet h f a0 a1 b0 b1) (fun v hv => ?_)
  rw [w32_id (x := v) (by omega) (by omega)]
  refine Ret.i (fun c => Ret.s (no (Or.inl (fun q => by have := hv.2.mpr q; omega)))) (fun c => ?_)
  by_cases cp : p = 0 ∨ p = 1
  · rw [if_pos cp]
    exact Ret.b ⟨1, rfl, Ret.f w32_1n (yes (hv.2.mp (by omega)) cp)⟩
  · rw [if_neg cp]
    exact Ret.b ⟨0, rfl, Ret.t w32_0 (Ret.s (no (Or.inr cp)))⟩
theorem s_meet {M0 M : jM} (h : jInv M0) (f : Fr M0 M) (pt : Pt M0 M) {a b p : Int} (a0 : -2147483648 ≤ a) (a1 : a < 2147483648) (b0 : -2147483648 ≤ b) (b1 : b < 2147483648) (p0 : -2147483648 ≤ p) (p1 : p < 2147483648) {K : Int × jM → Option (Int × jM)} {Q : Int × jM → Prop} (no : ∀ M', Fr M0 M' → Pt M0 M' → (¬ Meet M0 a b ∨ ¬ (p = 0 ∨ p = 1)) → Q ((-9223372036854775808), M')) (yes : ∀ M', Fr M0 M' → Pt M0 M' → SWt M' (M0 3 0) (wOf M0) (aOf M0) → Meet M0 a b → (p = 0 ∨ p = 1) → Duel M' (wOf M0) (aOf M0) (rowd M0 a) (rowz M0 a) (rowd M0 b) (rowz M0 b) → Ret (K (1, M')) Q) : Ret ((f_X9_isPart M p).bind fun r1 => (if w32 r1 = 0 then some ((-9223372036854775808), M) else (f_X9_measured M 0 a b).bind fun r3 => (if w32 r3.1 = 0 then some ((-9223372036854775808), r3.2) else K r3))) Q := by
  rw [s_isPart M p0 p1]
  by_cases cp : p = 0 ∨ p = 1
  · rw [if_pos cp]
    refine Ret.b ⟨1, rfl, Ret.f w32_1n (Ret.bb (s_measured h f pt a0 a1 b0 b1) ?_)⟩
    rintro ⟨v, M'⟩ ⟨f', p', w', hv⟩
    dsimp only at f' p' w' hv ⊢
    rcases hv with ⟨rfl, hm⟩ | ⟨rfl, hm, hd⟩
    · exact Ret.t w32_0 (Ret.s (no M' f' p' (Or.inl hm)))
    · exact Ret.f w32_1n (yes M' f' p' w' hm cp hd)
  · rw [if_neg cp]
    exact Ret.b ⟨0, rfl, Ret.t w32_0 (Ret.s (no M f pt (Or.inr cp)))⟩
/-- the reference's odds of two rows that meet, with the stall's own weights -/
theorem r_odds0 {M0 M : jM} (h : jInv M0) (f : Fr M0 M) {a b : Int} (hm : Meet M0 a b) : Ret (f_X10_looksForOdds M 62 a b) (fun M' => Ex5 M M' ∧ RWt M' (M0 3 0) (wOf M0) (aOf M0) ∧ M' 62 13 = proW (wOf M0) (aOf M0) (rowd M0 a) (rowz M0 a) (rowd M0 b) (rowz M0 b) ∧ M' 62 14 = proW (wOf M0) (aOf M0) (rowd M0 b) (rowz M0 b) (rowd M0 a) (rowz M0 a)) := by
  have k := r_odds h f.f8 (h.z8 f) (by decide) (by decide) (h.rr f hm.1.1 hm.1.2) (h.rr f hm.2.1.1 hm.2.1.2) hm.2.2.1 hm.2.2.2.1
  rw [wO_0, aO_0] at k
  exact k
theorem k_odds {M : jM} (h : jInv M) {a b p : Int} (a0 : -2147483648 ≤ a) (a1 : a < 2147483648) (b0 : -2147483648 ≤ b) (b1 : b < 2147483648) (p0 : -2147483648 ≤ p) (p1 : p < 2147483648) : Ret (f_X9_odds M 0 a b p) (fun x => Ret (f_X10_odds x.2 62 a b p) (fun y => w64 x.1 = w64 y.1 ∧ jInv y.2)) := by
  unfold f_X9_odds f_X10_odds
  refine s_meet h Fr.rfl Pt.rfl a0 a1 b0 b1 p0 p1 (fun M' f' p' hn => ?_) (fun M' f' p' w' hm cp hd => ?_)
  · exact r_meet h f'.f8 a0 a1 b0 b1 p0 p1 (fun _ => ⟨rfl, h.fp f' p'⟩) (fun q1 q2 => by
      rcases hn with hn | hn
      · exact absurd q1 hn
      · exact absurd q2 hn)
  · obtain ⟨z1, z2, z3, z4⟩ := hm.pos h h.wb
    obtain ⟨d0, d1, d2, d3⟩ := hd
    rw [jp_0_6]
    dsimp only
    rw [d0, d2]
    refine Ret.bb (s_fraction (by omega) (by omega) (by omega) (by omega) cp) (fun x hx => Ret.s ?_)
    refine r_meet h f'.f8 a0 a1 b0 b1 p0 p1 (fun hn => by
      rcases hn with hn | hn
      · exact absurd hm hn
      · exact absurd cp hn) (fun _ _ => Ret.bb (r_odds0 h f' hm) (fun M2 h2 => ?_))
    obtain ⟨e2, w2, m2, t2⟩ := h2
    rw [m2, t2]
    refine Ret.bb (r_lowest (by omega) (by omega) (by omega) (by omega) cp) (fun y hy => Ret.s ⟨?_, h.fp (e2.fr f') (e2.pt p')⟩)
    dsimp only
    rw [hx, hy]
/-! divided by what is common -/
theorem div_common {m t : Int} (hm : 0 < m) (ht : 0 < t) : ∃ g m' t' : Int, 0 < g ∧ ((Nat.gcd m.natAbs (m + t).natAbs : Nat) : Int) = g ∧ m.tdiv g = m' ∧ t.tdiv g = t' ∧ m = g * m' ∧ t = g * t' ∧ 0 < m' ∧ 0 < t' := by
  have p1 : 0 < Nat.gcd m.natAbs (m + t).natAbs := Nat.gcd_pos_of_pos_left _ (by omega)
  obtain ⟨a, ha⟩ : Nat.gcd m.natAbs (m + t).natAbs ∣ m.natAbs := Nat.gcd_dvd_left _ _
  obtain ⟨b, hb⟩ : Nat.gcd m.natAbs (m + t).natAbs ∣ (m + t).natAbs := Nat.gcd_dvd_right _ _
  generalize Nat.gcd m.natAbs (m + t).natAbs = G at p1 ha hb
  have e1 : m = (G : Int) * (a : Int) := by rw [← Int.natCast_mul, ← ha]; omega
  have e2 : m + t = (G : Int) * (b : Int) := by rw [← Int.natCast_mul, ← hb]; omega
  have e3 : t = (G : Int) * ((b : Int) - (a : Int)) := by rw [Int.mul_sub]; omega
  refine ⟨(G : Int), (a : Int), (b : Int) - (a : Int), by omega, rfl, ?_, ?_, e1, e3, ?_, ?_⟩
  · rw [e1]; exact Int.mul_tdiv_cancel_left _ (by omega)
  · rw [e3]; exact Int.mul_tdiv_cancel_left _ (by omega)
  · rcases Int.lt_or_le 0 (a : Int) with q | q
    · exact q
    · have : (a : Int) = 0 := by omega
      rw [this, Int.mul_zero] at e1; omega
  · rcases Int.lt_or_le 0 ((b : Int) - (a : Int)) with q | q
    · exact q
    · have := Int.mul_le_mul_of_nonneg_left q (show (0 : Int) ≤ G by omega)
      rw [Int.mul_zero] at this
      omega
theorem Meet.tight {M : jM} (h : jInv M) {a b : Int} (hm : Meet M a b) : ∃ laa lbb lba lab pa pb : Int, lapW (wOf M) (aOf M) (rowd M a) (rowz M a) (rowd M a) (rowz M a).toNat = laa ∧ lapW (wOf M) (aOf M) (rowd M b) (rowz M b) (rowd M b) (rowz M b).toNat = lbb ∧ lapW (wOf M) (aOf M) (rowd M b) (rowz M b) (rowd M a) (rowz M a).toNat = lba ∧ lapW (wOf M) (aOf M) (rowd M a) (rowz M a) (rowd M b) (rowz M b).toNat = lab ∧ prodW (wOf M) (rowd M a) (rowz M a).toNat = pa ∧ prodW (wOf M) (rowd M b) (rowz M b).toNat = pb ∧ proW (wOf M) (aOf M) (rowd M a) (rowz M a) (rowd M b) (rowz M b) = lbb * pa - lba * pb ∧ proW (wOf M) (aOf M) (rowd M b) (rowz M b) (rowd M a) (rowz M a) = laa * pb - lab * pa ∧ lenW (wOf M) (aOf M) (rowd M a) (rowz M a) (rowd M b) (rowz M b) = laa * lbb - lba * lab ∧ 0 < lbb * pa - lba * pb ∧ 0 < laa * pb - lab * pa ∧ 0 ≤ laa ∧ laa ≤ 4472832 ∧ 0 ≤ lbb ∧ lbb ≤ 4472832 ∧ 0 ≤ lba ∧ lba ≤ 4472832 ∧ 0 ≤ lab ∧ lab ≤ 4472832 ∧ 0 < pa ∧ pa ≤ 4096 ∧ 0 < pb ∧ pb ≤ 4096 := by
  obtain ⟨z1, z2, -, -⟩ := hm.pos h h.wb
  obtain ⟨ra, rb, la, lb, hA⟩ := hm
  obtain ⟨za, za'⟩ := rowz_rng h ra
  obtain ⟨zb, zb'⟩ := rowz_rng h rb
  have h4 : ∀ s, 0 ≤ s → wOf M s ≤ 4 := fun s s0 => (wOf_4 h s0).2
  obtain ⟨a1, a2, a3, a4⟩ := lap_bd h.wb (x := rowd M a) (n := rowz M a) za' (rowd_rng h ra)
  obtain ⟨b1, b2, b3, b4⟩ := lap_bd h.wb (x := rowd M b) (n := rowz M b) zb' (rowd_rng h rb)
  obtain ⟨c1, c2, c3, c4⟩ := lap_bd h.wb (x := rowd M b) (n := rowz M b) za' (rowd_rng h ra)
  obtain ⟨d1, d2, d3, d4⟩ := lap_bd h.wb (x := rowd M a) (n := rowz M a) zb' (rowd_rng h rb)
  obtain ⟨a5, a6⟩ := lap_bd4 h.wb h4 (x := rowd M a) (n := rowz M a) za' (rowd_rng h ra)
  obtain ⟨b5, b6⟩ := lap_bd4 h.wb h4 (x := rowd M b) (n := rowz M b) zb' (rowd_rng h rb)
  obtain ⟨c5, c6⟩ := lap_bd4 h.wb h4 (x := rowd M b) (n := rowz M b) za' (rowd_rng h ra)
  obtain ⟨d5, d6⟩ := lap_bd4 h.wb h4 (x := rowd M a) (n := rowz M a) zb' (rowd_rng h rb)
  have pa := (LawD.fine h.wb la (rowd_rng h ra)).pos
  have pb := (LawD.fine h.wb lb (rowd_rng h rb)).pos
  exact ⟨_, _, _, _, _, _, rfl, rfl, rfl, rfl, rfl, rfl, rfl, rfl, rfl, z1, z2, a1, a5, b1, b5, c1, c5, d1, d5, pa, a6, pb, b6⟩
/-- the algebra of lasts -/
theorem lasts_alg {laa lbb lba lab pa pb g m' t' : Int} (e1 : lbb * pa - lba * pb = g * m') (e2 : laa * pb - lab * pa = g * t') : g * (m' * (laa - lba) + lba * (m' + t')) = pa * (laa * lbb - lba * lab) := by
  have h1 : g * (m' * (laa - lba) + lba * (m' + t')) = (g * m') * laa + lba * (g * t') := by
    have : m' * (laa - lba) + lba * (m' + t') = m' * laa + lba * t' := by
      rw [Int.mul_sub, Int.mul_add, Int.mul_comm lba m']; omega
    rw [this, Int.mul_add, Int.mul_assoc, Int.mul_left_comm g lba t']
  rw [h1, ← e1, ← e2, Int.sub_mul, Int.mul_sub, Int.mul_sub]
  have x1 : lbb * pa * laa = pa * (laa * lbb) := by rw [Int.mul_comm lbb pa, Int.mul_assoc, Int.mul_comm lbb laa]
  have x2 : lba * pb * laa = lba * (laa * pb) := by rw [Int.mul_assoc, Int.mul_comm pb laa]
  have x3 : lba * (lab * pa) = pa * (lba * lab) := by rw [Int.mul_comm lab pa, Int.mul_left_comm]
  rw [x1, x2, x3]
  omega
theorem len_nn {laa lbb lba lab pa pb : Int} (h1 : 0 < lbb * pa - lba * pb) (h2 : 0 < laa * pb - lab * pa) (a0 : 0 ≤ laa) (b0 : 0 ≤ lba) (p0 : 0 < pa) : 0 ≤ laa * lbb - lba * lab := by
  have e := lasts_alg (laa := laa) (lbb := lbb) (lba := lba) (lab := lab) (pa := pa) (pb := pb) (g := 1) (m' := lbb * pa - lba * pb) (t' := laa * pb - lab * pa) (by rw [Int.one_mul]) (by rw [Int.one_mul])
  have e2 : (lbb * pa - lba * pb) * (laa - lba) + lba * ((lbb * pa - lba * pb) + (laa * pb - lab * pa)) = (lbb * pa - lba * pb) * laa + lba * (laa * pb - lab * pa) := by
    rw [Int.mul_sub, Int.mul_add, Int.mul_comm lba (lbb * pa - lba * pb)]; omega
  rw [Int.one_mul, e2] at e
  have x1 := Int.mul_nonneg (Int.le_of_lt h1) a0
  have x2 := Int.mul_nonneg b0 (Int.le_of_lt h2)
  have x3 : 0 * pa ≤ (laa * lbb - lba * lab) * pa := by rw [Int.zero_mul, Int.mul_comm]; omega
  exact Int.le_of_mul_le_mul_right x3 p0
/-- what lastsAbove answers -/
theorem r_lastsAbove {M0 M : jM} (h : jInv M0) (f : Fr M0 M) (pt : Pt M0 M) {a b : Int} (hm : Meet M0 a b) {laa lba pro con g m' t' : Int} (q1 : lapW (wOf M0) (aOf M0) (rowd M0 a) (rowz M0 a) (rowd M0 a) (rowz M0 a).toNat = laa) (q2 : lapW (wOf M0) (aOf M0) (rowd M0 b) (rowz M0 b) (rowd M0 a) (rowz M0 a).toNat = lba) (q3 : proW (wOf M0) (aOf M0) (rowd M0 a) (rowz M0 a) (rowd M0 b) (rowz M0 b) = pro) (q4 : proW (wOf M0) (aOf M0) (rowd M0 b) (rowz M0 b) (rowd M0 a) (rowz M0 a) = con) (hpro : 0 < pro ∧ pro ≤ 400000000000000) (hcon : 0 < con ∧ con ≤ 400000000000000) (g0 : 0 < g) (hg : ((Nat.gcd pro.natAbs (pro + con).natAbs : Nat) : Int) = g) (hm' : pro.tdiv g = m') (ht' : con.tdiv g = t') : Ret (f_X10_lastsAbove M 62 a b) (fun x => Fr M0 x.2 ∧ Pt M0 x.2 ∧ RWt x.2 (M0 3 0) (wOf M0) (aOf M0) ∧ x.2 62 13 = m' ∧ x.2 62 14 = t' ∧ x.1 = m' * (laa - lba) + lba * (m' + t')) := by
  unfold f_X10_lastsAbove
  refine Ret.bb (r_odds0 h f hm) (fun M2 h2 => ?_)
  obtain ⟨e2, w2, c2, d2⟩ := h2
  rw [q3] at c2
  rw [q4] at d2
  rw [c2, d2]
  have hd := r_divisor (M := M2) (u := pro) (y := (pro + con).natAbs) (by omega) (by omega) (by omega)
  rw [Int.natAbs_of_nonneg (by omega), hg] at hd
  have gb := gcd_rng (u := pro) (l := pro + con) (by omega) (by omega)
  refine Ret.bb hd (fun v hv => ?_)
  subst hv
  rw [w64_id (x := v) (by omega) (by omega), w64_id (x := pro) (by omega) (by omega), hm']
  refine Ret.g (by omega) (Ret.l (Ret.g (by omega) ?_))
  rw [sto_ne (by omega), d2, w64_id (x := con) (by omega) (by omega), ht']
  refine Ret.l ?_
  have z1 : ∀ x y, ¬ (x = 62 ∧ (y = 13 ∨ y = 14)) → sto (sto M2 62 13 m') 62 14 t' x y = M2 x y := fun x y q => by rw [sto_ne (by omega), sto_ne (by omega)]
  have z2 : sto (sto M2 62 13 m') 62 14 t' 62 13 = m' := by rw [sto_ne (by omega), sto_eq rfl rfl]
  have z3 : sto (sto M2 62 13 m') 62 14 t' 62 14 = t' := sto_eq rfl rfl
  generalize sto (sto M2 62 13 m') 62 14 t' = M3 at z1 z2 z3 ⊢
  have f3 : Fr M0 M3 := (e2.fr f).tr (fun x y k => z1 x y (by unfold kp at k; omega))
  have p3 : Pt M0 M3 := (e2.pt pt).tr ⟨z1 _ _ (by omega), z1 _ _ (by omega), z1 _ _ (by omega), z1 _ _ (by omega)⟩
  have w3 : RWt M3 (M0 3 0) (wOf M0) (aOf M0) := w2.fr (z1 _ _ (by omega)) (fun s => z1 _ _ (by omega))
  have ra := h.rr f3 hm.1.1 hm.1.2
  have rb := h.rr f3 hm.2.1.1 hm.2.1.2
  refine Ret.bb (r_lapOf rb ra hm.2.2.1 w3 h.wb) (fun x hx => Ret.bb (r_lapOf ra ra hm.2.2.1 w3 h.wb) (fun y hy => Ret.s ⟨f3, p3, w3, z2, z3, ?_⟩))
  dsimp only
  rw [hx, hy, z2, z3, q1, q2]
