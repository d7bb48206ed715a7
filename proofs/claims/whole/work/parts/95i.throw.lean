/-! one throw on the class's side -/
theorem sumW_n {f : Int → Int} {i : Int} (i0 : 0 ≤ i) : sumW f (i + 1).toNat = sumW f i.toNat + f i := by
  have e : (i + 1).toNat = i.toNat + 1 := by omega
  rw [e, sumW, Int.toNat_of_nonneg i0]
def WtC (M : jM) (g : Int) (w : Int → Int) (al l2 : Int) : Prop := (l2 = 0 ∧ ∀ s, 0 ≤ s → s < g → w s = 1) ∨ (l2 = 1 ∧ SWt M g w al)
theorem Auto.fr {M0 M M' : jM} {n : Int} {str : Int → List Int} (A : Auto M0 M n str) (e : ∀ a b, a ≠ 58 → a ≠ 59 → ¬ (a = 53 ∧ (b = 4 ∨ b = 5)) → M' a b = M a b) : Auto M0 M' n str := by
  obtain ⟨a1, a2, a3, a4, a5, a6, a7, a8⟩ := A
  refine ⟨by rw [e _ _ (by decide) (by decide) (by omega)]; exact a1, by rw [e _ _ (by decide) (by decide) (by omega)]; exact a2, by rw [e _ _ (by decide) (by decide) (by omega)]; exact a3, a4, a5, a6, fun i s i0 i1 s0 s1 => ?_, fun j j0 j1 => ?_⟩
  · rw [e _ _ (by decide) (by decide) (by omega)]
    exact a7 i s i0 i1 s0 s1
  · rw [e _ _ (by decide) (by decide) (by omega)]
    exact a8 j j0 j1
theorem s_throwOnce {M0 M : jM} {n : Int} {str : Int → List Int} {pa pb l1 l2 ro : Int} {w : Int → Int} {al : Int} (h : jInv M0) (A : Auto M0 M n str) (ha : M 53 4 = pa) (hb : M 53 5 = pb) (hab : (pa = 58 ∧ pb = 59) ∨ (pa = 59 ∧ pb = 58)) (hB : WtB (M0 3 0) w al) (hw : WtC M (M0 3 0) w al l2) (hro : ∀ v, 0 ≤ v → v < 6 → (v = w32 l1 ↔ v = ro)) (hc : ∀ j, 0 ≤ j → j < n → 0 ≤ M pa j ∧ M pa j < 9223372036854775808) :
    Ret (f_X4_throwOnce M 53 l1 l2) (fun x => x.2 53 4 = pb ∧ x.2 53 5 = pa ∧ (∀ a b, a ≠ pb → ¬ (a = 53 ∧ (b = 4 ∨ b = 5)) → x.2 a b = M a b) ∧ (∀ j, 0 ≤ j → j < n → 0 ≤ x.2 pb j) ∧ ∀ K f, RespL M0 f → sumW (fun j => x.2 pb j * f (str j)) n.toNat + x.1 * K = sumW (fun i => M pa i * Ek M0 w ro K f (str i)) n.toNat) := by
  obtain ⟨a1, a2, a3, a4, a5, a6, a7, a8⟩ := id A
  obtain ⟨g0, g1, -⟩ := h.st
  have ka : jkd pa = (12, 37) := by rcases hab with ⟨q, -⟩ | ⟨q, -⟩ <;> rw [q] <;> rfl
  have kb : jkd pb = (12, 37) := by rcases hab with ⟨-, q⟩ | ⟨-, q⟩ <;> rw [q] <;> rfl
  have pne : pa ≠ pb := by omega
  have p5 : pa ≠ 53 ∧ pb ≠ 53 ∧ pb ≠ 54 ∧ pb ≠ 56 ∧ pb ≠ 47 ∧ pb ≠ 48 := by omega
  unfold f_X4_throwOnce
  refine Ret.bb (P := fun M1 : jM => (∀ a b, a ≠ pb → M1 a b = M a b) ∧ ∀ j, 0 ≤ j → j < n → M1 pb j = 0) ?_ (fun M1 ⟨z1, z2⟩ => ?_)
  · refine Ret.it (fun S : jM × Int => 0 ≤ S.2 ∧ S.2 ≤ n ∧ (∀ a b, a ≠ pb → S.1 a b = M a b) ∧ ∀ j, 0 ≤ j → j < S.2 → S.1 pb j = 0) (fun S => (n - S.2).toNat) ?_ 5000 (M, 0) ⟨Int.le_refl _, by show (0 : Int) ≤ n; omega, fun _ _ _ => rfl, fun j j0 j1 => by have j1 : j < 0 := j1; omega⟩ (by show (n - 0).toNat < 5000; omega)
    rintro ⟨M1, k⟩ ⟨k0, k1, e, g⟩
    dsimp only at k0 k1 e g
    unfold f_X4_throwOnce_L5
    dsimp +instances only
    rw [e 53 6 (by omega), a1, e 53 5 (by omega), hb, w32_id (x := n) (by omega) (by omega), w32_id (x := k) (by omega) (by omega)]
    refine Ret.i (fun c => Rr ⟨e, fun j j0 j1 => g j j0 (by omega)⟩) (fun c => Ret.g kb (Ret.g ⟨by omega, by omega⟩ (Ret.l (Rl ⟨⟨by show 0 ≤ k + 1; omega, by show k + 1 ≤ n; omega, fun a b q => ?_, fun j j0 j1 => ?_⟩, by show (n - (k + 1)).toNat < (n - k).toNat; omega⟩))))
    · dsimp only
      rw [sto_ne (by omega)]
      exact e a b q
    · have j1 : j < k + 1 := j1
      dsimp only
      by_cases q : j = k
      · rw [q, sto_eq rfl rfl]
      · rw [sto_ne (by omega)]
        exact g j j0 (by omega)
  · refine Ret.bb (P := fun x : jM × Int => (∀ a b, a ≠ pb → x.1 a b = M a b) ∧ (∀ j, 0 ≤ j → j < n → 0 ≤ x.1 pb j) ∧ ∀ K f, RespL M0 f → sumW (fun j => x.1 pb j * f (str j)) n.toNat + x.2 * K = sumW (fun i => M pa i * Ek M0 w ro K f (str i)) n.toNat) ?_ (fun x ⟨e, c, t⟩ => ?_)
    · refine Ret.it (fun S : jM × Int × Int => 0 ≤ S.2.2 ∧ S.2.2 ≤ n ∧ (∀ a b, a ≠ pb → S.1 a b = M a b) ∧ (∀ j, 0 ≤ j → j < n → 0 ≤ S.1 pb j) ∧ ∀ K f, RespL M0 f → sumW (fun j => S.1 pb j * f (str j)) n.toNat + S.2.1 * K = sumW (fun i => M pa i * Ek M0 w ro K f (str i)) S.2.2.toNat) (fun S => (n - S.2.2).toNat) ?_ 5000 (M1, 0, 0) ⟨Int.le_refl _, by show (0 : Int) ≤ n; omega, z1, fun j j0 j1 => by dsimp only; rw [z2 j j0 j1]; exact Int.le_refl _, fun K f _ => ?_⟩ (by show (n - 0).toNat < 5000; omega)
      · rintro ⟨M2, won, i⟩ ⟨i0, i1, e, c, t⟩
        dsimp only at i0 i1 e c t
        unfold f_X4_throwOnce_L31
        dsimp +instances only
        rw [e 53 6 (by omega), a1, w32_id (x := n) (by omega) (by omega), w32_id (x := i) (by omega) (by omega)]
        refine Ret.i (fun q => Rr ⟨e, c, ?_⟩) (fun q => ?_)
        · have e2 : i = n := by omega
          rw [e2] at t
          exact t
        · refine Ret.bb (P := fun x : jM × Int => (∀ a b, a ≠ pb → x.1 a b = M a b) ∧ (∀ j, 0 ≤ j → j < n → 0 ≤ x.1 pb j) ∧ ∀ K f, RespL M0 f → sumW (fun j => x.1 pb j * f (str j)) n.toNat + x.2 * K = sumW (fun i => M pa i * Ek M0 w ro K f (str i)) (i + 1).toNat) ?_ (fun x ⟨e, c, t⟩ => Rl ⟨⟨by show 0 ≤ i + 1; omega, by show i + 1 ≤ n; omega, e, c, t⟩, by show (n - (i + 1)).toNat < (n - i).toNat; omega⟩)
          have hci := hc i i0 (by omega)
          refine Ret.it (fun S : jM × Int × Int => 0 ≤ S.2.2 ∧ S.2.2 ≤ M0 3 0 ∧ (∀ a b, a ≠ pb → S.1 a b = M a b) ∧ (∀ j, 0 ≤ j → j < n → 0 ≤ S.1 pb j) ∧ ∀ K f, RespL M0 f → sumW (fun j => S.1 pb j * f (str j)) n.toNat + S.2.1 * K = sumW (fun i => M pa i * Ek M0 w ro K f (str i)) i.toNat + M pa i * sumW (fun s => w s * Dk M0 ro K f (s :: str i)) S.2.2.toNat) (fun S => (3 - S.2.2).toNat) ?_ 5000 (M2, won, 0) ⟨Int.le_refl _, by show (0 : Int) ≤ M0 3 0; omega, e, c, fun K f hf => ?_⟩ (by show (3 - 0 : Int).toNat < 5000; decide)
          · rintro ⟨M3, won3, s⟩ ⟨s0, s1, e3, c3, t3⟩
            dsimp only at s0 s1 e3 c3 t3
            unfold f_X4_throwOnce_L43
            dsimp +instances only
            rw [e3 53 7 (by omega), a2, e3 53 4 (by omega), ha, e3 53 8 (by omega), a3, jp_53_0, w32_id (x := M0 3 0) (by omega) (by omega), w32_id (x := s) (by omega) (by omega), w32_id (x := i) (by omega) (by omega), w32_id (x := i * 3 + s) (by omega) (by omega), e3 pa i pne, e3 54 (i * 3 + s) (by omega), w64_id (x := M pa i) (by omega) (by omega)]
            refine Ret.i (fun q2 => Rr ⟨e3, c3, fun K f hf => ?_⟩) (fun q2 => Ret.g ka (Ret.g ⟨by omega, by omega⟩ (Ret.i (fun q3 => Rr ⟨e3, c3, fun K f hf => ?_⟩) (fun q3 => Ret.g ⟨by omega, by omega⟩ (Ret.g ka (Ret.g ⟨by omega, by omega⟩ ?_))))))
            · have e2 : s = M0 3 0 := by omega
              rw [e2] at t3
              rw [sumW_n i0]
              exact t3 K f hf
            · have t4 := t3 K f hf
              rw [sumW_n i0]
              rw [q3, Int.zero_mul] at t4 ⊢
              exact t4
            · obtain ⟨b1, b2, b3⟩ := a7 i s i0 (by omega) s0 (by omega)
              have hwin := a8 _ b1 b2
              have hfe := fe_lon h b3
              have ws := hB.w s0
              have b4 := fe_of h hwin
              generalize M 54 (i * 3 + s) = to at b1 b2 b3 hwin hfe b4 ⊢
              have go : Ret (f_X4_throwOnce_102 M3 53 l1 l2 won3 i s to (M pa i) (w s)) (fun r => (∀ t, r = .inl t → ((0 ≤ t.2.2 ∧ t.2.2 ≤ M0 3 0 ∧ (∀ a b, a ≠ pb → t.1 a b = M a b) ∧ (∀ j, 0 ≤ j → j < n → 0 ≤ t.1 pb j) ∧ ∀ K f, RespL M0 f → sumW (fun j => t.1 pb j * f (str j)) n.toNat + t.2.1 * K = sumW (fun i => M pa i * Ek M0 w ro K f (str i)) i.toNat + M pa i * sumW (fun s => w s * Dk M0 ro K f (s :: str i)) t.2.2.toNat) ∧ (3 - t.2.2).toNat < (3 - s).toNat)) ∧ (∀ x, r = .inr x → (∀ a b, a ≠ pb → x.1 a b = M a b) ∧ (∀ j, 0 ≤ j → j < n → 0 ≤ x.1 pb j) ∧ ∀ K f, RespL M0 f → sumW (fun j => x.1 pb j * f (str j)) n.toNat + x.2 * K = sumW (fun i => M pa i * Ek M0 w ro K f (str i)) (i + 1).toNat)) := by
                have mu : (3 - (s + 1)).toNat < (3 - s).toNat := by omega
                have nn : 0 ≤ M pa i * w s := Int.mul_nonneg hci.1 ws.1
                unfold f_X4_throwOnce_102 f_X4_throwOnce_149
                rw [jp_53_2, e3 53 5 (by omega), hb, w32_id (x := to) (by omega) (by omega), e3 56 to (by omega), w32_id (x := w s) (by omega) (by omega)]
                generalize M 56 to = v at hwin b4 ⊢
                rw [w32_id (x := v) (by omega) (by omega)]
                refine Ret.g ⟨by omega, by omega⟩ (Ret.i (fun q4 => Ret.g kb (Ret.g ⟨by omega, by omega⟩ (Ret.g ⟨by omega, by omega⟩ (Ret.l (Rl ⟨⟨by show 0 ≤ s + 1; omega, by show s + 1 ≤ _; omega, fun a b z => ?_, fun j j0 j1 => ?_, fun K f hf => ?_⟩, mu⟩))))) (fun q4 => Ret.g ⟨by omega, by omega⟩ (Ret.i (fun q5 => Rl ⟨⟨by show 0 ≤ s + 1; omega, by show s + 1 ≤ _; omega, e3, c3, fun K f hf => ?_⟩, mu⟩) (fun q5 => Rl ⟨⟨by show 0 ≤ s + 1; omega, by show s + 1 ≤ _; omega, e3, c3, fun K f hf => ?_⟩, mu⟩))))
                · dsimp only
                  rw [sto_ne (by omega)]
                  exact e3 a b z
                · dsimp only
                  have := c3 j j0 j1
                  by_cases z : j = to
                  · rw [z, sto_eq rfl rfl]
                    rw [z] at this
                    omega
                  · rw [sto_ne (by omega)]
                    exact this
                · dsimp only
                  have fm : fe M0 (s :: str i) = -1 := by omega
                  have eD : Dk M0 ro K f (s :: str i) = f (str to) := by
                    unfold Dk
                    rw [if_pos fm]
                    exact hf _ _ b3
                  have up := sumW_upd (f := fun j => M3 pb j) (f' := fun j => sto M3 pb to (M3 pb to + M pa i * w s) pb j) (c := fun j => f (str j)) (q := to) (v := M pa i * w s) (n := n.toNat) (fun j _ _ z => sto_ne (by omega)) (fun _ _ => sto_eq rfl rfl) b1
                  rw [if_pos (by omega)] at up
                  have t4 := t3 K f hf
                  rw [up, sumW_n s0, eD, Int.mul_add, ← Int.mul_assoc, ← Int.add_assoc, ← t4]
                  omega
                · dsimp only
                  have fm : fe M0 (s :: str i) = v ∧ 0 ≤ v ∧ v < 6 := by omega
                  have eD : Dk M0 ro K f (s :: str i) = K := by
                    unfold Dk
                    rw [if_neg (by omega), if_pos (fm.1.trans ((hro v fm.2.1 fm.2.2).mp q5))]
                  have t4 := t3 K f hf
                  rw [sumW_n s0, eD, Int.mul_add, ← Int.mul_assoc, ← Int.add_assoc, ← t4, Int.add_mul]
                  omega
                · dsimp only
                  have fm : fe M0 (s :: str i) = v ∧ 0 ≤ v ∧ v < 6 := by omega
                  have eD : Dk M0 ro K f (s :: str i) = 0 := by
                    unfold Dk
                    rw [if_neg (by omega), if_neg (fun z => q5 ((hro v fm.2.1 fm.2.2).mpr (fm.1.symm.trans z)))]
                  have t4 := t3 K f hf
                  rw [sumW_n s0, eD, Int.mul_zero, Int.add_zero]
                  exact t4
              rcases hw with ⟨l, l'⟩ | ⟨l, l'⟩
              · have w1 := l' s s0 (by omega)
                rw [w1] at go
                refine Ret.t ?_ go
                rw [l]
                exact w32_0
              · refine Ret.f ?_ (Ret.g rfl (Ret.b ⟨w s, s_weightOf (g := M0 3 0) (al := al) ?_ s0 (by omega), go⟩))
                · rw [l]
                  exact w32_1n
                · refine ⟨by rw [e3 _ _ (by omega)]; exact l'.1, by rw [e3 _ _ (by omega)]; exact l'.2.1, fun x x0 x1 => ?_⟩
                  rw [e3 _ _ (by omega)]
                  exact l'.2.2 x x0 x1
          · dsimp only
            show _ = _ + M pa i * 0
            rw [Int.mul_zero, Int.add_zero]
            exact t K f hf
      · dsimp only
        show _ + 0 * K = 0
        rw [Int.zero_mul, sumW_0 (fun j j0 j1 => by rw [z2 j j0 (by omega), Int.zero_mul])]
        rfl
    · rw [e 53 4 (by omega), ha, e 53 5 (by omega), hb]
      refine Ret.g ka (Ret.g kb (Ret.l (Ret.l (Ret.s ⟨?_, ?_, fun a b q1 q2 => ?_, fun j j0 j1 => ?_, fun K f hf => ?_⟩))))
      · dsimp only
        rw [sto_ne (by omega), sto_eq rfl rfl]
      · dsimp only
        rw [sto_eq rfl rfl]
      · dsimp only
        rw [sto_ne (by omega), sto_ne (by omega)]
        exact e a b q1
      · dsimp only
        rw [sto_ne (by omega), sto_ne (by omega)]
        exact c j j0 j1
      · dsimp only
        rw [← t K f hf]
        congr 1
        refine sumW_cong (fun j _ _ => ?_)
        rw [sto_ne (by omega), sto_ne (by omega)]
