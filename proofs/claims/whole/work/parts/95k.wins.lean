/-! many throws on both sides -/
theorem sumW_one {f c : Int → Int} {q : Int} {n : Nat} (hf : ∀ j : Int, 0 ≤ j → j < n → f j = if j = q then 1 else 0) (q0 : 0 ≤ q) (q1 : q < n) : sumW (fun j => f j * c j) n = c q := by
  have u := sumW_upd (f := fun _ => 0) (f' := f) (c := c) (q := q) (v := 1) (n := n) (fun j j0 j1 z => by rw [hf j j0 j1, if_neg z]) (fun a b => by rw [hf q a b, if_pos rfl]; rfl) q0
  rw [u, if_pos q1, sumW_0 (fun j _ _ => Int.zero_mul _)]
  omega
theorem pw_step {won al x1 : Int} {m : Nat} : (won * al + x1) * al ^ m = won * al ^ (m + 1) + x1 * al ^ m := by
  rw [Int.add_mul, Int.pow_succ, Int.mul_comm (al ^ m) al, Int.mul_assoc]
theorem Ek_m1 {M : jM} {w : Int → Int} {K K' : Int} {f : List Int → Int} {u : List Int} : Ek M w (-1) K f u = Ek M w (-1) K' f u := by
  unfold Ek
  refine sumW_cong (fun s _ _ => ?_)
  congr 1
  unfold Dk
  by_cases e : fe M (s :: u) = -1
  · rw [if_pos e, if_pos e]
  · rw [if_neg e, if_neg e, if_neg e, if_neg e]
def IvC (M0 Mb M : jM) (n : Int) (str : Int → List Int) (w : Int → Int) (al ro c0 N t won : Int) : Prop := 0 ≤ t ∧ t ≤ N ∧ (∀ a b, a ≠ 58 → a ≠ 59 → ¬ (a = 53 ∧ (b = 4 ∨ b = 5)) → M a b = Mb a b) ∧ ∃ pa pb, M 53 4 = pa ∧ M 53 5 = pb ∧ ((pa = 58 ∧ pb = 59) ∨ (pa = 59 ∧ pb = 58)) ∧ (∀ j, 0 ≤ j → j < n → 0 ≤ M pa j) ∧ sumW (fun j => M pa j * 1) n.toNat ≤ al ^ t.toNat ∧ won * al ^ (N - t).toNat + sumW (fun j => M pa j * Vv M0 w al ro c0 (N - t).toNat (str j)) n.toNat = Vv M0 w al ro c0 N.toNat []
theorem s_step {M0 Mb M : jM} {n : Int} {str : Int → List Int} {l1 l2 : Int} {w : Int → Int} {al ro c0 N t won : Int} (h : jInv M0) (A : Auto M0 Mb n str) (hB : WtB (M0 3 0) w al) (hw : WtC Mb (M0 3 0) w al l2) (hro : ∀ v, 0 ≤ v → v < 6 → (v = w32 l1 ↔ v = ro)) (hA : ∀ t : Nat, (t : Int) ≤ N → al ^ t < 9223372036854775808) (I : IvC M0 Mb M n str w al ro c0 N t won) (ht : t < N) : Ret (f_X4_throwOnce M 53 l1 l2) (fun x => IvC M0 Mb x.2 n str w al ro c0 N (t + 1) (won * al + x.1) ∧ (ro = -1 → IvC M0 Mb x.2 n str w al ro c0 N (t + 1) (won * al))) := by
  obtain ⟨t0, t1, e, pa, pb, ha, hb, hab, hc, hm, hv⟩ := I
  have hal := hB.al
  have n0 := A.2.2.2.1
  have hw' : WtC M (M0 3 0) w al l2 := by
    rcases hw with q | ⟨q, q2⟩
    · exact Or.inl q
    · refine Or.inr ⟨q, by rw [e _ _ (by decide) (by decide) (by omega)]; exact q2.1, by rw [e _ _ (by decide) (by decide) (by omega)]; exact q2.2.1, fun s s0 s1 => ?_⟩
      rw [e _ _ (by decide) (by decide) (by omega)]
      exact q2.2.2 s s0 s1
  have cell := sumW_cell (f := fun j => M pa j * 1) (n := n.toNat) (fun j j0 j1 => by rw [Int.mul_one]; exact hc j j0 (by omega))
  have hA1 := hA t.toNat (by omega)
  obtain ⟨m, em⟩ : ∃ m : Nat, (N - t).toNat = m + 1 := ⟨(N - t).toNat - 1, by omega⟩
  have em2 : (N - (t + 1)).toNat = m := by omega
  refine Ret.m (s_throwOnce h (A.fr e) ha hb hab hB hw' hro (fun j j0 j1 => ⟨hc j j0 j1, ?_⟩)) (fun x ⟨x1, x2, x3, x4, x5⟩ => ?_)
  · have := cell.2 j j0 (by omega)
    rw [Int.mul_one] at this
    omega
  · have fr : ∀ a b, a ≠ 58 → a ≠ 59 → ¬ (a = 53 ∧ (b = 4 ∨ b = 5)) → x.2 a b = Mb a b := fun a b q1 q2 q3 => (x3 a b (by omega) q3).trans (e a b q1 q2 q3)
    have mass : sumW (fun j => x.2 pb j * 1) n.toNat ≤ al ^ (t + 1).toNat := by
      have q := x5 0 (fun _ => 1) (fun _ _ _ => rfl)
      rw [Int.mul_zero, Int.add_zero] at q
      have q2 := sumW_bd (w := fun j => M pa j) (f := fun i => Ek M0 w ro 0 (fun _ => 1) (str i)) (B := al) (n := n.toNat) (fun s s0 s1 => ⟨hc s s0 (by omega), by
        have z := Ek_bd (M := M0) (ro := ro) (K := 0) (B := 1) (f := fun _ => 1) hB (by decide) (by decide) (fun _ => ⟨by decide, by decide⟩) (str s)
        rw [Int.mul_one] at z
        exact z⟩)
      have q3 : sumW (fun j => M pa j) n.toNat = sumW (fun j => M pa j * 1) n.toNat := sumW_cong (fun j _ _ => (Int.mul_one _).symm)
      rw [q3] at q2
      have q4 := Int.mul_le_mul_of_nonneg_right hm (show (0 : Int) ≤ al by omega)
      have et : (t + 1).toNat = t.toNat + 1 := by omega
      rw [et, Int.pow_succ, q]
      exact Int.le_trans q2.2 q4
    rw [em] at hv
    have q5 := x5 (al ^ m) (Vv M0 w al ro c0 m) (Vv_L h m)
    refine ⟨⟨by omega, by omega, fr, pb, pa, x1, x2, by omega, x4, mass, ?_⟩, fun er => ⟨by omega, by omega, fr, pb, pa, x1, x2, by omega, x4, mass, ?_⟩⟩
    · rw [em2, pw_step, ← hv]
      have q6 : sumW (fun i => M pa i * Vv M0 w al ro c0 (m + 1) (str i)) n.toNat = sumW (fun i => M pa i * Ek M0 w ro (al ^ m) (Vv M0 w al ro c0 m) (str i)) n.toNat := rfl
      rw [q6, ← q5]
      omega
    · have q6 := x5 0 (Vv M0 w al ro c0 m) (Vv_L h m)
      rw [Int.mul_zero, Int.add_zero] at q6
      have q7 : sumW (fun i => M pa i * Vv M0 w al ro c0 (m + 1) (str i)) n.toNat = sumW (fun i => M pa i * Ek M0 w ro 0 (Vv M0 w al ro c0 m) (str i)) n.toNat := by
        refine sumW_cong (fun i _ _ => ?_)
        refine congrArg (fun z => M pa i * z) ?_
        rw [er]
        exact Ek_m1
      have q8 : won * al * al ^ m = won * al ^ (m + 1) := by
        rw [Int.pow_succ, Int.mul_comm (al ^ m) al, Int.mul_assoc]
      rw [em2, q6, q8, ← hv, q7]
theorem s_beginC {M0 M : jM} {n : Int} {str : Int → List Int} {pa : Int} {pb : Int} {w : Int → Int} {al ro c0 N : Int} (A : Auto M0 M n str) (ha : M 53 4 = pa) (hb : M 53 5 = pb) (hab : (pa = 58 ∧ pb = 59) ∨ (pa = 59 ∧ pb = 58)) (hN : 0 ≤ N) : Ret (f_X4_begin M 53) (fun M' => IvC M0 M M' n str w al ro c0 N 0 0) := by
  obtain ⟨a1, a2, a3, a4, a5, a6, -⟩ := id A
  have ka : jkd pa = (12, 37) := by rcases hab with ⟨q, -⟩ | ⟨q, -⟩ <;> rw [q] <;> rfl
  unfold f_X4_begin
  refine Ret.bb (P := fun M1 : jM => (∀ a b, a ≠ pa → M1 a b = M a b) ∧ ∀ j, 0 ≤ j → j < n → M1 pa j = 0) ?_ (fun M1 ⟨z1, z2⟩ => ?_)
  · refine Ret.it (fun S : jM × Int => 0 ≤ S.2 ∧ S.2 ≤ n ∧ (∀ a b, a ≠ pa → S.1 a b = M a b) ∧ ∀ j, 0 ≤ j → j < S.2 → S.1 pa j = 0) (fun S => (n - S.2).toNat) ?_ 5000 (M, 0) ⟨Int.le_refl _, by show (0 : Int) ≤ n; omega, fun _ _ _ => rfl, fun j j0 j1 => by have j1 : j < 0 := j1; omega⟩ (by show (n - 0).toNat < 5000; omega)
    rintro ⟨M1, k⟩ ⟨k0, k1, e, g⟩
    dsimp only at k0 k1 e g
    unfold f_X4_begin_L2
    dsimp +instances only
    rw [e 53 6 (by omega), a1, e 53 4 (by omega), ha, w32_id (x := n) (by omega) (by omega), w32_id (x := k) (by omega) (by omega)]
    refine Ret.i (fun c => Rr ⟨e, fun j j0 j1 => g j j0 (by omega)⟩) (fun c => Ret.g ka (Ret.g ⟨by omega, by omega⟩ (Ret.l (Rl ⟨⟨by show 0 ≤ k + 1; omega, by show k + 1 ≤ n; omega, fun a b q => ?_, fun j j0 j1 => ?_⟩, by show (n - (k + 1)).toNat < (n - k).toNat; omega⟩))))
    · dsimp only
      rw [sto_ne (by omega)]
      exact e a b q
    · have j1 : j < k + 1 := j1
      dsimp only
      by_cases q : j = k
      · rw [q, sto_eq rfl rfl]
      · rw [sto_ne (by omega)]
        exact g j j0 (by omega)
  · rw [z1 53 4 (by omega), ha]
    have hone : ∀ j : Int, 0 ≤ j → j < n.toNat → sto M1 pa 0 1 pa j = if j = 0 then 1 else 0 := fun j j0 j1 => by
      by_cases q : j = 0
      · rw [q, sto_eq rfl rfl, if_pos rfl]
      · rw [sto_ne (by omega), if_neg q]
        exact z2 j j0 (by omega)
    refine Ret.g ka (Ret.l (Ret.s ⟨Int.le_refl _, hN, fun a b q1 q2 q3 => ?_, pa, pb, ?_, ?_, hab, fun j j0 j1 => ?_, ?_, ?_⟩))
    · rw [sto_ne (by omega)]
      exact z1 a b (by omega)
    · rw [sto_ne (by omega)]
      exact (z1 _ _ (by omega)).trans ha
    · rw [sto_ne (by omega)]
      exact (z1 _ _ (by omega)).trans hb
    · rw [hone j j0 (by omega)]
      split <;> decide
    · rw [sumW_one (c := fun _ => 1) hone (Int.le_refl _) (by omega)]
      show (1 : Int) ≤ al ^ 0
      rw [Int.pow_zero]
      exact Int.le_refl _
    · rw [sumW_one (c := fun j => Vv M0 w al ro c0 (N - 0).toNat (str j)) hone (Int.le_refl _) (by omega), a6, Int.sub_zero, Int.zero_mul, Int.zero_add]
theorem IvC.ptr {M0 Mb M : jM} {n : Int} {str : Int → List Int} {w : Int → Int} {al ro c0 N t won : Int} (I : IvC M0 Mb M n str w al ro c0 N t won) : (M 53 4 = 58 ∧ M 53 5 = 59) ∨ (M 53 4 = 59 ∧ M 53 5 = 58) := by
  obtain ⟨-, -, -, pa, pb, ha, hb, hab, -⟩ := I
  rw [ha, hb]
  exact hab
theorem IvC.fr {M0 Mb M : jM} {n : Int} {str : Int → List Int} {w : Int → Int} {al ro c0 N t won : Int} (I : IvC M0 Mb M n str w al ro c0 N t won) (f : Fr M0 Mb) : Fr M0 M := fun a b k => (I.2.2.1 a b (by unfold kp at k; omega) (by unfold kp at k; omega) (by unfold kp at k; omega)).trans (f a b k)
theorem s_winsOf {M0 M : jM} {n : Int} {str : Int → List Int} {w : Int → Int} {al r N : Int} (h : jInv M0) (A : Auto M0 M n str) (hp : (M 53 4 = 58 ∧ M 53 5 = 59) ∨ (M 53 4 = 59 ∧ M 53 5 = 58)) (hB : WtB (M0 3 0) w al) (hw : SWt M (M0 3 0) w al) (r0 : 0 ≤ r) (r1 : r < 6) (N0 : 0 ≤ N) (N1 : N ≤ 15) (hA : ∀ t : Nat, (t : Int) ≤ N → al ^ t < 9223372036854775808) : Ret (f_X4_winsOf M 53 r N) (fun x => IvC M0 M x.2 n str w al r 0 N N x.1 ∧ x.1 = Vv M0 w al r 0 N.toNat []) := by
  have hal := hB.al
  unfold f_X4_winsOf
  refine Ret.bb (s_beginC (w := w) (al := al) (ro := r) (c0 := 0) (N := N) A rfl rfl hp N0) (fun M1 I1 => Ret.bb (P := fun x : jM × Int => IvC M0 M x.1 n str w al r 0 N N x.2) ?_ (fun x I => Ret.s ⟨I, ?_⟩))
  · refine Ret.it (fun S : jM × Int × Int => IvC M0 M S.1 n str w al r 0 N S.2.2 S.2.1) (fun S => (N - S.2.2).toNat) ?_ 5000 (M1, 0, 0) I1 (by show (N - 0).toNat < 5000; omega)
    rintro ⟨M2, won, t⟩ I
    dsimp only at I
    have t0 := I.1
    have t1 := I.2.1
    have e := I.2.2.1
    unfold f_X4_winsOf_L9
    dsimp +instances only
    rw [e 53 8 (by decide) (by decide) (by omega), A.2.2.1, e 47 1 (by decide) (by decide) (by omega), hw.2.1, w32_id (x := al) (by omega) (by omega), w32_id (x := N) (by omega) (by omega), w32_id (x := t) (by omega) (by omega)]
    refine Ret.i (fun q => Rr ?_) (fun q => Ret.g rfl (Ret.bb (s_step (l1 := r) (l2 := 1) h A hB (Or.inr ⟨rfl, hw⟩) (fun v _ _ => by rw [w32_id (x := r) (by omega) (by omega)]) hA I (by omega)) (fun x hx => Rl ⟨hx.1, by show (N - (t + 1)).toNat < (N - t).toNat; omega⟩)))
    have e2 : t = N := by omega
    rw [e2] at I
    exact I
  · obtain ⟨-, -, -, pa, pb, -, -, -, -, -, hv⟩ := I
    rw [Int.sub_self] at hv
    have q : sumW (fun j => x.1 pa j * Vv M0 w al r 0 (0 : Int).toNat (str j)) n.toNat = 0 := sumW_0 (fun j _ _ => Int.mul_zero _)
    rw [q] at hv
    have q2 : al ^ (0 : Int).toNat = 1 := Int.pow_zero al
    rw [q2] at hv
    dsimp only
    omega
theorem s_rowsWithNone {M0 M : jM} {n : Int} {str : Int → List Int} {w : Int → Int} {al N : Int} (h : jInv M0) (A : Auto M0 M n str) (hp : (M 53 4 = 58 ∧ M 53 5 = 59) ∨ (M 53 4 = 59 ∧ M 53 5 = 58)) (hB : WtB (M0 3 0) w al) (hw : ∀ s, 0 ≤ s → s < M0 3 0 → w s = 1) (N0 : 0 ≤ N) (N1 : N ≤ 30) (hA : ∀ t : Nat, (t : Int) ≤ N → al ^ t < 9223372036854775808) : Ret (f_X4_rowsWithNone M 53 N) (fun x => IvC M0 M x.2 n str w al (-1) 1 N N 0 ∧ x.1 = Vv M0 w al (-1) 1 N.toNat []) := by
  have w6 : w32 6 = 6 := w32_id (by decide) (by decide)
  unfold f_X4_rowsWithNone
  refine Ret.bb (s_beginC (w := w) (al := al) (ro := -1) (c0 := 1) (N := N) A rfl rfl hp N0) (fun M1 I1 => Ret.bb (P := fun x : jM => IvC M0 M x n str w al (-1) 1 N N 0) ?_ (fun x I => ?_))
  · refine Ret.it (fun S : jM × Int => IvC M0 M S.1 n str w al (-1) 1 N S.2 0) (fun S => (N - S.2).toNat) ?_ 5000 (M1, 0) I1 (by show (N - 0).toNat < 5000; omega)
    rintro ⟨M2, t⟩ I
    dsimp only at I
    have t0 := I.1
    have t1 := I.2.1
    unfold f_X4_rowsWithNone_L6
    dsimp +instances only
    rw [w32_id (x := N) (by omega) (by omega), w32_id (x := t) (by omega) (by omega)]
    refine Ret.i (fun q => Rr ?_) (fun q => Ret.bb (s_step (l1 := 6) (l2 := 0) h A hB (Or.inl ⟨rfl, hw⟩) (fun v _ _ => by rw [w6]; omega) hA I (by omega)) (fun x hx => Rl ⟨?_, by show (N - (t + 1)).toNat < (N - t).toNat; omega⟩))
    · have e2 : t = N := by omega
      rw [e2] at I
      exact I
    · have z := hx.2 rfl
      rw [Int.zero_mul] at z
      exact z
  · obtain ⟨-, -, e, pa, pb, ha, hb, hab, hc, hm, hv⟩ := id I
    have a1 := A.1
    have a4 := A.2.2.2.1
    have a5 := A.2.2.2.2.1
    have ka : jkd pa = (12, 37) := by rcases hab with ⟨q, -⟩ | ⟨q, -⟩ <;> rw [q] <;> rfl
    rw [Int.sub_self, Int.zero_mul, Int.zero_add] at hv
    refine Ret.bb (P := fun v => v = sumW (fun j => x pa j * 1) n.toNat) ?_ (fun v ev => Ret.s ⟨I, ev.trans hv⟩)
    refine Ret.it (fun S : Int × Int => 0 ≤ S.2 ∧ S.2 ≤ n ∧ S.1 = sumW (fun j => x pa j * 1) S.2.toNat) (fun S => (n - S.2).toNat) ?_ 5000 (0, 0) ⟨Int.le_refl _, by show (0 : Int) ≤ n; omega, rfl⟩ (by show (n - 0).toNat < 5000; omega)
    rintro ⟨v, k⟩ ⟨k0, k1, ev⟩
    dsimp only at k0 k1 ev
    unfold f_X4_rowsWithNone_L30
    dsimp +instances only
    rw [e 53 6 (by decide) (by decide) (by omega), a1, ha, w32_id (x := n) (by omega) (by omega), w32_id (x := k) (by omega) (by omega)]
    refine Ret.i (fun q => Rr ?_) (fun q => Ret.g ka (Ret.g ⟨by omega, by omega⟩ (Rl ⟨⟨by show 0 ≤ k + 1; omega, by show k + 1 ≤ n; omega, ?_⟩, by show (n - (k + 1)).toNat < (n - k).toNat; omega⟩)))
    · have e2 : k = n := by omega
      rw [ev, e2]
    · dsimp only
      rw [sumW_n k0, ev, Int.mul_one]
/-- the reference -/
def IvR (M0 Mb M : jM) (w : Int → Int) (al ro c0 N t won : Int) : Prop := 0 ≤ t ∧ t ≤ N ∧ (∀ a b, a ≠ 68 → a ≠ 69 → ¬ (a = 62 ∧ (b = 15 ∨ b = 16)) → M a b = Mb a b) ∧ ∃ pa pb, M 62 15 = pa ∧ M 62 16 = pb ∧ ((pa = 68 ∧ pb = 69) ∨ (pa = 69 ∧ pb = 68)) ∧ M pa 0 = 0 ∧ (∀ j, 0 ≤ j → j < 486 → 0 ≤ M pa j) ∧ sumW (fun j => M pa j * 1) 486 ≤ al ^ t.toNat ∧ won * al ^ (N - t).toNat + sumW (fun j => M pa j * Vv M0 w al ro c0 (N - t).toNat (uc j.toNat)) 486 = Vv M0 w al ro c0 N.toNat []
theorem IvR.f8 {M0 Mb M : jM} {w : Int → Int} {al ro c0 N t won : Int} (I : IvR M0 Mb M w al ro c0 N t won) (f : Fr8 M0 Mb) : Fr8 M0 M := fun a b k k2 => (I.2.2.1 a b (by unfold kp at k; omega) (by unfold kp at k; omega) (by unfold kp at k; omega)).trans (f a b k k2)
theorem IvR.fr {M0 Mb M : jM} {w : Int → Int} {al ro c0 N t won : Int} (I : IvR M0 Mb M w al ro c0 N t won) (f : Fr M0 Mb) : Fr M0 M := fun a b k => (I.2.2.1 a b (by unfold kp at k; omega) (by unfold kp at k; omega) (by unfold kp at k; omega)).trans (f a b k)
theorem IvR.ptr {M0 Mb M : jM} {w : Int → Int} {al ro c0 N t won : Int} (I : IvR M0 Mb M w al ro c0 N t won) : (M 62 15 = 68 ∧ M 62 16 = 69) ∨ (M 62 15 = 69 ∧ M 62 16 = 68) := by
  obtain ⟨-, -, -, pa, pb, ha, hb, hab, -⟩ := I
  rw [ha, hb]
  exact hab
theorem r_step {M0 Mb M : jM} {l1 l2 : Int} {w : Int → Int} {al ro c0 N t won : Int} (h : jInv M0) (f : Fr8 M0 Mb) (F : FEnds M0 Mb) (hB : WtB (M0 3 0) w al) (hw : WtR Mb (M0 3 0) w al l2) (hro : ∀ v, 0 ≤ v → v < 6 → (v = w32 l1 ↔ v = ro)) (hA : ∀ t : Nat, (t : Int) ≤ N → al ^ t < 9223372036854775808) (I : IvR M0 Mb M w al ro c0 N t won) (ht : t < N) : Ret (f_X10_throwsOn M 62 l1 l2) (fun x => IvR M0 Mb x.2 w al ro c0 N (t + 1) (won * al + x.1) ∧ (ro = -1 → IvR M0 Mb x.2 w al ro c0 N (t + 1) (won * al))) := by
  have f2 := I.f8 f
  obtain ⟨t0, t1, e, pa, pb, ha, hb, hab, hz, hc, hm, hv⟩ := I
  have hal := hB.al
  have hw' : WtR M (M0 3 0) w al l2 := by
    rcases hw with q | ⟨q, q2⟩
    · exact Or.inl q
    · exact Or.inr ⟨q, q2.fr (e _ _ (by decide) (by decide) (by omega)) (fun s => e _ _ (by decide) (by decide) (by omega))⟩
  have F' : FEnds M0 M := fun c c0 c1 => by
    rw [e _ _ (by decide) (by decide) (by omega)]
    exact F c c0 c1
  have cell := sumW_cell (f := fun j => M pa j * 1) (n := 486) (fun j j0 j1 => by rw [Int.mul_one]; exact hc j j0 (by omega))
  have hA1 := hA t.toNat (by omega)
  obtain ⟨m, em⟩ : ∃ m : Nat, (N - t).toNat = m + 1 := ⟨(N - t).toNat - 1, by omega⟩
  have em2 : (N - (t + 1)).toNat = m := by omega
  refine Ret.m (r_throwsOn h f2 F' ha hb hab hB hw' hro hz (fun j j0 j1 => ⟨hc j j0 j1, ?_⟩)) (fun x ⟨x1, x2, x3, xz, x4, x5⟩ => ?_)
  · have := cell.2 j j0 (by omega)
    rw [Int.mul_one] at this
    omega
  · have fr : ∀ a b, a ≠ 68 → a ≠ 69 → ¬ (a = 62 ∧ (b = 15 ∨ b = 16)) → x.2 a b = Mb a b := fun a b q1 q2 q3 => (x3 a b (by omega) q3).trans (e a b q1 q2 q3)
    have mass : sumW (fun j => x.2 pb j * 1) 486 ≤ al ^ (t + 1).toNat := by
      have q := x5 0 (fun _ => 1) (fun _ _ _ => rfl)
      rw [Int.mul_zero, Int.add_zero] at q
      have q2 := sumW_bd (w := fun j => M pa j) (f := fun i => Ek M0 w ro 0 (fun _ => 1) (uc i.toNat)) (B := al) (n := 486) (fun s s0 s1 => ⟨hc s s0 (by omega), by
        have z := Ek_bd (M := M0) (ro := ro) (K := 0) (B := 1) (f := fun _ => 1) hB (by decide) (by decide) (fun _ => ⟨by decide, by decide⟩) (uc s.toNat)
        rw [Int.mul_one] at z
        exact z⟩)
      have q3 : sumW (fun j => M pa j) 486 = sumW (fun j => M pa j * 1) 486 := sumW_cong (fun j _ _ => (Int.mul_one _).symm)
      rw [q3] at q2
      have q4 := Int.mul_le_mul_of_nonneg_right hm (show (0 : Int) ≤ al by omega)
      have et : (t + 1).toNat = t.toNat + 1 := by omega
      rw [et, Int.pow_succ, q]
      exact Int.le_trans q2.2 q4
    rw [em] at hv
    have q5 := x5 (al ^ m) (Vv M0 w al ro c0 m) (Vv_L h m)
    refine ⟨⟨by omega, by omega, fr, pb, pa, x1, x2, by omega, xz, x4, mass, ?_⟩, fun er => ⟨by omega, by omega, fr, pb, pa, x1, x2, by omega, xz, x4, mass, ?_⟩⟩
    · rw [em2, pw_step, ← hv]
      have q6 : sumW (fun i => M pa i * Vv M0 w al ro c0 (m + 1) (uc i.toNat)) 486 = sumW (fun i => M pa i * Ek M0 w ro (al ^ m) (Vv M0 w al ro c0 m) (uc i.toNat)) 486 := rfl
      rw [q6, ← q5]
      omega
    · have q6 := x5 0 (Vv M0 w al ro c0 m) (Vv_L h m)
      rw [Int.mul_zero, Int.add_zero] at q6
      have q7 : sumW (fun i => M pa i * Vv M0 w al ro c0 (m + 1) (uc i.toNat)) 486 = sumW (fun i => M pa i * Ek M0 w ro 0 (Vv M0 w al ro c0 m) (uc i.toNat)) 486 := by
        refine sumW_cong (fun i _ _ => ?_)
        refine congrArg (fun z => M pa i * z) ?_
        rw [er]
        exact Ek_m1
      have q8 : won * al * al ^ m = won * al ^ (m + 1) := by
        rw [Int.pow_succ, Int.mul_comm (al ^ m) al, Int.mul_assoc]
      rw [em2, q6, q8, ← hv, q7]
theorem r_begins {M0 M : jM} {al ro c0 N : Int} {w : Int → Int} (h : jInv M0) (f : Fr M0 M) (hp : (M 62 15 = 68 ∧ M 62 16 = 69) ∨ (M 62 15 = 69 ∧ M 62 16 = 68)) (hN : 0 ≤ N) : Ret (f_X10_beginsThrows M 62) (fun M' => ∃ Mb, (∀ a b, a ≠ 65 → a ≠ 66 → a ≠ 67 → a ≠ 70 → ¬ (a = 62 ∧ b = 12) → Mb a b = M a b) ∧ RWt Mb (M0 3 0) (wOf M0) (aOf M0) ∧ FEnds M0 Mb ∧ IvR M0 Mb M' w al ro c0 N 0 0) := by
  unfold f_X10_beginsThrows
  refine Ret.bb (r_looks0 h f) (fun M1 ⟨h1, w1⟩ => Ret.bb (r_looksForEnds h (h1.f8 f.f8)) (fun M2 ⟨h2, F⟩ => ?_))
  have w2 : RWt M2 (M0 3 0) (wOf M0) (aOf M0) := w1.fr (h2 _ _ (by decide)) (fun s => h2 _ _ (by decide))
  have e2 : ∀ a b, a ≠ 65 → a ≠ 66 → a ≠ 67 → a ≠ 70 → ¬ (a = 62 ∧ b = 12) → M2 a b = M a b := fun a b q1 q2 q3 q4 q5 => (h2 a b q4).trans (h1 a b q1 q2 q3 q5)
  have hp2 : (M2 62 15 = 68 ∧ M2 62 16 = 69) ∨ (M2 62 15 = 69 ∧ M2 62 16 = 68) := by
    rw [e2 _ _ (by decide) (by decide) (by decide) (by decide) (by omega), e2 62 16 (by decide) (by decide) (by decide) (by decide) (by omega)]
    exact hp
  obtain ⟨pa, ha⟩ : ∃ pa, M2 62 15 = pa := ⟨_, rfl⟩
  obtain ⟨pb, hb⟩ : ∃ pb, M2 62 16 = pb := ⟨_, rfl⟩
  have hab : (pa = 68 ∧ pb = 69) ∨ (pa = 69 ∧ pb = 68) := by
    rw [← ha, ← hb]
    exact hp2
  have ka : jkd pa = (12, 486) := by rcases hab with ⟨q, -⟩ | ⟨q, -⟩ <;> rw [q] <;> rfl
  refine Ret.bb (P := fun M' : jM => (∀ a b, a ≠ pa → M' a b = M2 a b) ∧ ∀ j, 0 ≤ j → j < 486 → M' pa j = if j = 1 then 1 else 0) ?_ (fun M3 ⟨z1, z2⟩ => Ret.s ⟨M2, e2, w2, F, Int.le_refl _, hN, fun a b q1 q2 q3 => z1 a b (by omega), pa, pb, (z1 _ _ (by omega)).trans ha, (z1 _ _ (by omega)).trans hb, hab, ?_, fun j j0 j1 => ?_, ?_, ?_⟩)
  · refine Ret.it (fun S : jM × Int => 0 ≤ S.2 ∧ S.2 ≤ 486 ∧ (∀ a b, a ≠ pa → S.1 a b = M2 a b) ∧ ∀ j, 0 ≤ j → j < S.2 → S.1 pa j = if j = 1 then 1 else 0) (fun S => (486 - S.2).toNat) ?_ 5000 (M2, 0) ⟨Int.le_refl _, by show (0 : Int) ≤ 486; decide, fun _ _ _ => rfl, fun j j0 j1 => by have j1 : j < 0 := j1; omega⟩ (by show (486 - 0 : Int).toNat < 5000; decide)
    rintro ⟨M3, k⟩ ⟨k0, k1, e, g⟩
    dsimp only at k0 k1 e g
    unfold f_X10_beginsThrows_L10 f_X10_beginsThrows_32
    dsimp +instances only
    rw [e 62 15 (by omega), ha, w32_id (x := k) (by omega) (by omega)]
    have mu : (486 - (k + 1)).toNat < (486 - k).toNat ∨ 486 ≤ k := by omega
    have fin : ∀ v : Int, v = (if k = 1 then 1 else 0) → ∀ j, 0 ≤ j → j < k + 1 → sto M3 pa k v pa j = if j = 1 then 1 else 0 := fun v ev j j0 j1 => by
      by_cases q : j = k
      · rw [q, sto_eq rfl rfl, ev]
      · rw [sto_ne (by omega)]
        exact g j j0 (by omega)
    refine Ret.i (fun c => Rr ⟨e, fun j j0 j1 => g j j0 (by omega)⟩) (fun c => Ret.g ka (Ret.i (fun q => Ret.g ⟨by omega, by omega⟩ (Ret.l (Rl ⟨⟨by show 0 ≤ k + 1; omega, by show k + 1 ≤ 486; omega, fun a b z => ?_, fin 1 (by rw [if_pos q])⟩, by show (486 - (k + 1)).toNat < (486 - k).toNat; omega⟩))) (fun q => Ret.g ⟨by omega, by omega⟩ (Ret.l (Rl ⟨⟨by show 0 ≤ k + 1; omega, by show k + 1 ≤ 486; omega, fun a b z => ?_, fin 0 (by rw [if_neg q])⟩, by show (486 - (k + 1)).toNat < (486 - k).toNat; omega⟩)))))
    · dsimp only
      rw [sto_ne (by omega)]
      exact e a b z
    · dsimp only
      rw [sto_ne (by omega)]
      exact e a b z
  · rw [z2 0 (by decide) (by decide)]
    rfl
  · rw [z2 j j0 j1]
    split <;> decide
  · rw [sumW_one (c := fun _ => 1) (q := 1) z2 (by decide) (by decide)]
    show (1 : Int) ≤ al ^ 0
    rw [Int.pow_zero]
    exact Int.le_refl _
  · have u1 : uc (1 : Int).toNat = [] := uc_0 (by decide)
    rw [sumW_one (c := fun j => Vv M0 w al ro c0 (N - 0).toNat (uc j.toNat)) (q := 1) z2 (by decide) (by decide), u1, Int.sub_zero, Int.zero_mul, Int.zero_add]
