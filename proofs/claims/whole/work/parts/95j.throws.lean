/-! one throw on the reference's side -/
theorem FEnds.fe {M0 M : jM} (h : jInv M0) (F : FEnds M0 M) {c : Nat} (c0 : 1 ≤ c) (c1 : c < 1458) : M 70 c = fe M0 (uc c) := by
  rcases (F c c0 c1).uq (fe_spec h (x := uc c)) with ⟨q, q2⟩ | ⟨q, -⟩
  · rw [q, q2]
  · exact q
theorem fe_rng {M : jM} (h : jInv M) (x : List Int) : -1 ≤ fe M x ∧ fe M x < 6 := by
  rcases fe_of h (fe_spec h (x := x)) with ⟨q, -⟩ | ⟨-, q⟩ <;> omega
def WtR (M : jM) (g : Int) (w : Int → Int) (al l2 : Int) : Prop := (l2 = 0 ∧ ∀ s, 0 ≤ s → s < g → w s = 1) ∨ (l2 = 1 ∧ RWt M g w al)
theorem w32_243 : w32 243 = 243 := w32_id (by decide) (by decide)
theorem r_throwsOn {M0 M : jM} {pa pb l1 l2 ro : Int} {w : Int → Int} {al : Int} (h : jInv M0) (f0 : Fr8 M0 M) (F : FEnds M0 M) (ha : M 62 15 = pa) (hb : M 62 16 = pb) (hab : (pa = 68 ∧ pb = 69) ∨ (pa = 69 ∧ pb = 68)) (hB : WtB (M0 3 0) w al) (hw : WtR M (M0 3 0) w al l2) (hro : ∀ v, 0 ≤ v → v < 6 → (v = w32 l1 ↔ v = ro)) (hz : M pa 0 = 0) (hc : ∀ j, 0 ≤ j → j < 486 → 0 ≤ M pa j ∧ M pa j < 9223372036854775808) :
    Ret (f_X10_throwsOn M 62 l1 l2) (fun x => x.2 62 15 = pb ∧ x.2 62 16 = pa ∧ (∀ a b, a ≠ pb → ¬ (a = 62 ∧ (b = 15 ∨ b = 16)) → x.2 a b = M a b) ∧ x.2 pb 0 = 0 ∧ (∀ j, 0 ≤ j → j < 486 → 0 ≤ x.2 pb j) ∧ ∀ K f, RespL M0 f → sumW (fun j => x.2 pb j * f (uc j.toNat)) 486 + x.1 * K = sumW (fun i => M pa i * Ek M0 w ro K f (uc i.toNat)) 486) := by
  obtain ⟨g0, g1, -⟩ := h.st
  have ka : jkd pa = (12, 486) := by rcases hab with ⟨q, -⟩ | ⟨q, -⟩ <;> rw [q] <;> rfl
  have kb : jkd pb = (12, 486) := by rcases hab with ⟨-, q⟩ | ⟨-, q⟩ <;> rw [q] <;> rfl
  have pne : pa ≠ pb := by omega
  have p5 : pa ≠ 62 ∧ pb ≠ 62 ∧ pb ≠ 67 ∧ pb ≠ 70 ∧ pb = 68 ∨ pb = 69 := by omega
  have kpb : ∀ a b, kp a b → a ≠ pb := fun a b q => by unfold kp at q; omega
  unfold f_X10_throwsOn
  refine Ret.bb (P := fun M1 : jM => (∀ a b, a ≠ pb → M1 a b = M a b) ∧ ∀ j, 0 ≤ j → j < 486 → M1 pb j = 0) ?_ (fun M1 ⟨z1, z2⟩ => ?_)
  · refine Ret.it (fun S : jM × Int => 0 ≤ S.2 ∧ S.2 ≤ 486 ∧ (∀ a b, a ≠ pb → S.1 a b = M a b) ∧ ∀ j, 0 ≤ j → j < S.2 → S.1 pb j = 0) (fun S => (486 - S.2).toNat) ?_ 5000 (M, 0) ⟨Int.le_refl _, by show (0 : Int) ≤ 486; decide, fun _ _ _ => rfl, fun j j0 j1 => by have j1 : j < 0 := j1; omega⟩ (by show (486 - 0 : Int).toNat < 5000; decide)
    rintro ⟨M1, k⟩ ⟨k0, k1, e, g⟩
    dsimp only at k0 k1 e g
    unfold f_X10_throwsOn_L5
    dsimp +instances only
    rw [e 62 16 (by omega), hb, w32_id (x := k) (by omega) (by omega)]
    refine Ret.i (fun c => Rr ⟨e, fun j j0 j1 => g j j0 (by omega)⟩) (fun c => Ret.g kb (Ret.g ⟨by omega, by omega⟩ (Ret.l (Rl ⟨⟨by show 0 ≤ k + 1; omega, by show k + 1 ≤ 486; omega, fun a b q => ?_, fun j j0 j1 => ?_⟩, by show (486 - (k + 1)).toNat < (486 - k).toNat; omega⟩))))
    · dsimp only
      rw [sto_ne (by omega)]
      exact e a b q
    · have j1 : j < k + 1 := j1
      dsimp only
      by_cases q : j = k
      · rw [q, sto_eq rfl rfl]
      · rw [sto_ne (by omega)]
        exact g j j0 (by omega)
  · refine Ret.bb (P := fun x : jM × Int => (∀ a b, a ≠ pb → x.1 a b = M a b) ∧ x.1 pb 0 = 0 ∧ (∀ j, 0 ≤ j → j < 486 → 0 ≤ x.1 pb j) ∧ ∀ K f, RespL M0 f → sumW (fun j => x.1 pb j * f (uc j.toNat)) 486 + x.2 * K = sumW (fun i => M pa i * Ek M0 w ro K f (uc i.toNat)) 486) ?_ (fun x ⟨e, cz, c, t⟩ => ?_)
    · refine Ret.it (fun S : jM × Int × Int => 1 ≤ S.2.2 ∧ S.2.2 ≤ 486 ∧ (∀ a b, a ≠ pb → S.1 a b = M a b) ∧ S.1 pb 0 = 0 ∧ (∀ j, 0 ≤ j → j < 486 → 0 ≤ S.1 pb j) ∧ ∀ K f, RespL M0 f → sumW (fun j => S.1 pb j * f (uc j.toNat)) 486 + S.2.1 * K = sumW (fun i => M pa i * Ek M0 w ro K f (uc i.toNat)) S.2.2.toNat) (fun S => (486 - S.2.2).toNat) ?_ 5000 (M1, 0, 1) ⟨Int.le_refl _, by show (1 : Int) ≤ 486; decide, z1, z2 0 (by decide) (by decide), fun j j0 j1 => by dsimp only; rw [z2 j j0 j1]; exact Int.le_refl _, fun K f _ => ?_⟩ (by show (486 - 1 : Int).toNat < 5000; decide)
      · rintro ⟨M2, won, i⟩ ⟨i0, i1, e, cz, c, t⟩
        dsimp only at i0 i1 e cz c t
        obtain ⟨i, rfl⟩ : ∃ x : Nat, i = x := ⟨i.toNat, by omega⟩
        unfold f_X10_throwsOn_L30
        dsimp +instances only
        rw [w32_id (x := (i : Int)) (by omega) (by omega)]
        refine Ret.i (fun q => Rr ⟨e, cz, c, ?_⟩) (fun q => ?_)
        · have e2 : (i : Int) = 486 := by omega
          rw [e2] at t
          exact t
        · refine Ret.bb (P := fun x : jM × Int => (∀ a b, a ≠ pb → x.1 a b = M a b) ∧ x.1 pb 0 = 0 ∧ (∀ j, 0 ≤ j → j < 486 → 0 ≤ x.1 pb j) ∧ ∀ K f, RespL M0 f → sumW (fun j => x.1 pb j * f (uc j.toNat)) 486 + x.2 * K = sumW (fun i => M pa i * Ek M0 w ro K f (uc i.toNat)) ((i : Int) + 1).toNat) ?_ (fun x ⟨e, cz, c, t⟩ => Rl ⟨⟨by show 1 ≤ (i : Int) + 1; omega, by show (i : Int) + 1 ≤ 486; omega, e, cz, c, t⟩, by show (486 - ((i : Int) + 1)).toNat < (486 - (i : Int)).toNat; omega⟩)
          have hci := hc i (by omega) (by omega)
          refine Ret.it (fun S : jM × Int × Int => 0 ≤ S.2.2 ∧ S.2.2 ≤ M0 3 0 ∧ (∀ a b, a ≠ pb → S.1 a b = M a b) ∧ S.1 pb 0 = 0 ∧ (∀ j, 0 ≤ j → j < 486 → 0 ≤ S.1 pb j) ∧ ∀ K f, RespL M0 f → sumW (fun j => S.1 pb j * f (uc j.toNat)) 486 + S.2.1 * K = sumW (fun i => M pa i * Ek M0 w ro K f (uc i.toNat)) (i : Int).toNat + M pa i * sumW (fun s => w s * Dk M0 ro K f (s :: uc i)) S.2.2.toNat) (fun S => (3 - S.2.2).toNat) ?_ 5000 (M2, won, 0) ⟨Int.le_refl _, by show (0 : Int) ≤ M0 3 0; omega, e, cz, c, fun K f hf => ?_⟩ (by show (3 - 0 : Int).toNat < 5000; decide)
          · rintro ⟨M3, won3, s⟩ ⟨s0, s1, e3, cz3, c3, t3⟩
            dsimp only at s0 s1 e3 cz3 c3 t3
            have f3 : Fr8 M0 M3 := fun a b q1 q2 => (e3 a b (kpb a b q1)).trans (f0 a b q1 q2)
            unfold f_X10_throwsOn_L41
            dsimp +instances only
            refine Ret.b ⟨M0 3 0, r_signs h f3, ?_⟩
            dsimp +instances only
            rw [e3 62 15 (by omega), ha, jp_62_11, w32_id (x := M0 3 0) (by omega) (by omega), w32_id (x := s) (by omega) (by omega), w32_id (x := (i : Int)) (by omega) (by omega), e3 pa i pne, w64_id (x := M pa i) (by omega) (by omega)]
            refine Ret.i (fun q2 => Rr ⟨e3, cz3, c3, fun K f hf => ?_⟩) (fun q2 => Ret.g ka (Ret.g ⟨by omega, by omega⟩ (Ret.i (fun q3 => Rr ⟨e3, cz3, c3, fun K f hf => ?_⟩) (fun q3 => Ret.g ka (Ret.g ⟨by omega, by omega⟩ ?_)))))
            · have e2 : s = M0 3 0 := by omega
              rw [e2] at t3
              rw [sumW_n (by omega)]
              exact t3 K f hf
            · have t4 := t3 K f hf
              have q4 : M pa i = 0 := by omega
              rw [sumW_n (by omega)]
              rw [q4, Int.zero_mul] at t4 ⊢
              exact t4
            · have ws := hB.w s0
              obtain ⟨s, rfl⟩ : ∃ x : Nat, s = x := ⟨s.toNat, by omega⟩
              have eu : uc (3 * i + s) = (s : Int) :: uc i := uc_c (by omega) (by omega)
              have hfe := F.fe h (c := 3 * i + s) (by omega) (by omega)
              have frg := fe_rng h (uc (3 * i + s))
              have ec : ((3 * i + s : Nat) : Int) = 3 * (i : Int) + (s : Int) := by omega
              rw [eu] at hfe frg
              have go : Ret (f_X10_throwsOn_93 M3 62 l1 l2 won3 i s (3 * (i : Int) + (s : Int)) (M pa i) (w s)) (fun r => (∀ t, r = .inl t → ((0 ≤ t.2.2 ∧ t.2.2 ≤ M0 3 0 ∧ (∀ a b, a ≠ pb → t.1 a b = M a b) ∧ t.1 pb 0 = 0 ∧ (∀ j, 0 ≤ j → j < 486 → 0 ≤ t.1 pb j) ∧ ∀ K f, RespL M0 f → sumW (fun j => t.1 pb j * f (uc j.toNat)) 486 + t.2.1 * K = sumW (fun i => M pa i * Ek M0 w ro K f (uc i.toNat)) (i : Int).toNat + M pa i * sumW (fun s => w s * Dk M0 ro K f (s :: uc i)) t.2.2.toNat) ∧ (3 - t.2.2).toNat < (3 - (s : Int)).toNat)) ∧ (∀ x, r = .inr x → (∀ a b, a ≠ pb → x.1 a b = M a b) ∧ x.1 pb 0 = 0 ∧ (∀ j, 0 ≤ j → j < 486 → 0 ≤ x.1 pb j) ∧ ∀ K f, RespL M0 f → sumW (fun j => x.1 pb j * f (uc j.toNat)) 486 + x.2 * K = sumW (fun i => M pa i * Ek M0 w ro K f (uc i.toNat)) ((i : Int) + 1).toNat)) := by
                have mu : (3 - ((s : Int) + 1)).toNat < (3 - (s : Int)).toNat := by omega
                have nn : 0 ≤ M pa i * w s := Int.mul_nonneg hci.1 ws.1
                have put : ∀ (ix : Nat) (won' : Int), 3 ≤ ix → ix < 486 → won' = won3 → fe M0 ((s : Int) :: uc i) = -1 → (∀ f, RespL M0 f → f (uc ix) = f ((s : Int) :: uc i)) → Ret (f_X10_throwsOn_160 M3 62 l1 l2 won' i s (M pa i * w s) pb ix) (fun r => (∀ t, r = .inl t → ((0 ≤ t.2.2 ∧ t.2.2 ≤ M0 3 0 ∧ (∀ a b, a ≠ pb → t.1 a b = M a b) ∧ t.1 pb 0 = 0 ∧ (∀ j, 0 ≤ j → j < 486 → 0 ≤ t.1 pb j) ∧ ∀ K f, RespL M0 f → sumW (fun j => t.1 pb j * f (uc j.toNat)) 486 + t.2.1 * K = sumW (fun i => M pa i * Ek M0 w ro K f (uc i.toNat)) (i : Int).toNat + M pa i * sumW (fun s => w s * Dk M0 ro K f (s :: uc i)) t.2.2.toNat) ∧ (3 - t.2.2).toNat < (3 - (s : Int)).toNat)) ∧ (∀ x, r = .inr x → (∀ a b, a ≠ pb → x.1 a b = M a b) ∧ x.1 pb 0 = 0 ∧ (∀ j, 0 ≤ j → j < 486 → 0 ≤ x.1 pb j) ∧ ∀ K f, RespL M0 f → sumW (fun j => x.1 pb j * f (uc j.toNat)) 486 + x.2 * K = sumW (fun i => M pa i * Ek M0 w ro K f (uc i.toNat)) ((i : Int) + 1).toNat)) := by
                  intro ix won' x0 x1 ew fm hf2
                  subst ew
                  unfold f_X10_throwsOn_160 f_X10_throwsOn_166
                  rw [w32_id (x := (ix : Int)) (by omega) (by omega)]
                  refine Ret.g ⟨by omega, by omega⟩ (Ret.g ⟨by omega, by omega⟩ (Ret.l (Rl ⟨⟨by show 0 ≤ (s : Int) + 1; omega, by show (s : Int) + 1 ≤ _; omega, fun a b z => ?_, ?_, fun j j0 j1 => ?_, fun K f hf => ?_⟩, mu⟩)))
                  · dsimp only
                    rw [sto_ne (by omega)]
                    exact e3 a b z
                  · dsimp only
                    rw [sto_ne (by omega)]
                    exact cz3
                  · dsimp only
                    have := c3 j j0 j1
                    by_cases z : j = ix
                    · rw [z, sto_eq rfl rfl]
                      rw [z] at this
                      omega
                    · rw [sto_ne (by omega)]
                      exact this
                  · dsimp only
                    have eD : Dk M0 ro K f ((s : Int) :: uc i) = f (uc ix) := by
                      unfold Dk
                      rw [if_pos fm]
                      exact (hf2 f hf).symm
                    have up := sumW_upd (f := fun j => M3 pb j) (f' := fun j => sto M3 pb ix (M3 pb ix + M pa i * w s) pb j) (c := fun j => f (uc j.toNat)) (q := ix) (v := M pa i * w s) (n := 486) (fun j _ _ z => sto_ne (by omega)) (fun _ _ => sto_eq rfl rfl) (by omega)
                    rw [if_pos (by omega), Int.toNat_natCast] at up
                    have t4 := t3 K f hf
                    rw [up, sumW_n (i := (s : Int)) (by omega), eD, Int.mul_add, ← Int.mul_assoc, ← Int.add_assoc, ← t4]
                    omega
                unfold f_X10_throwsOn_93 f_X10_throwsOn_124 f_X10_throwsOn_125 f_X10_throwsOn_166
                have hb3 : M3 62 16 = pb := (e3 _ _ (by omega)).trans hb
                rw [jp_62_17, w32_id (x := 3 * (i : Int) + (s : Int)) (by omega) (by omega), e3 70 _ (by omega), ← ec, hfe, hb3, w32_id (x := w s) (by omega) (by omega)]
                generalize hv : fe M0 ((s : Int) :: uc i) = v at frg put
                rw [w32_id (x := v) (by omega) (by omega), w32_243]
                refine Ret.g ⟨by omega, by omega⟩ (Ret.i (fun q4 => ?_) (fun q4 => Ret.i (fun q5 => ?_) (fun q5 => ?_)))
                · refine Ret.t q4 (Ret.g kb (Ret.i (fun q6 => Ret.g (by decide) ?_) (fun q6 => ?_)))
                  · have em : (((3 * i + s : Nat) : Int)).tmod 243 = (((3 * i + s) % 243 : Nat) : Int) := rfl
                    rw [em, show (243 : Int) + (((3 * i + s) % 243 : Nat) : Int) = ((243 + (3 * i + s) % 243 : Nat) : Int) by omega]
                    refine put (243 + (3 * i + s) % 243) _ (by omega) (by omega) (by omega) q4 (fun f hf => ?_)
                    have et := uc_take (c := 3 * i + s) (by omega) (n := 5) (by show 243 ≤ 3 * i + s; omega)
                    have e5 : (3 : Nat) ^ 5 = 243 := rfl
                    rw [e5, eu] at et
                    rw [← et]
                    exact Resp_LT h hf _ (hv.trans q4)
                  · refine put (3 * i + s) _ (by omega) (by omega) (by omega) q4 (fun f hf => ?_)
                    rw [eu]
                · refine Ret.f q4 (Rl ⟨⟨by show 0 ≤ (s : Int) + 1; omega, by show (s : Int) + 1 ≤ _; omega, e3, cz3, c3, fun K f hf => ?_⟩, mu⟩)
                  dsimp only
                  have eD : Dk M0 ro K f ((s : Int) :: uc i) = K := by
                    unfold Dk
                    rw [hv, if_neg q4, if_pos ((hro v (by omega) (by omega)).mp q5)]
                  have t4 := t3 K f hf
                  rw [sumW_n (i := (s : Int)) (by omega), eD, Int.mul_add, ← Int.mul_assoc, ← Int.add_assoc, ← t4, Int.add_mul]
                  omega
                · refine Ret.f q4 (Rl ⟨⟨by show 0 ≤ (s : Int) + 1; omega, by show (s : Int) + 1 ≤ _; omega, e3, cz3, c3, fun K f hf => ?_⟩, mu⟩)
                  dsimp only
                  have eD : Dk M0 ro K f ((s : Int) :: uc i) = 0 := by
                    unfold Dk
                    rw [hv, if_neg q4, if_neg (fun z => q5 ((hro v (by omega) (by omega)).mpr z))]
                  have t4 := t3 K f hf
                  rw [sumW_n (i := (s : Int)) (by omega), eD, Int.mul_zero, Int.add_zero, Int.add_zero]
                  exact t4
              rcases hw with ⟨l, l'⟩ | ⟨l, l'⟩
              · have w1 := l' s s0 (by omega)
                rw [w1] at go
                refine Ret.t ?_ go
                rw [l]
                exact w32_0
              · refine Ret.f ?_ (Ret.g ⟨by omega, by omega⟩ ?_)
                · rw [l]
                  exact w32_1n
                · rw [e3 _ _ (by omega), l'.2 s s0 (by omega)]
                  exact go
          · dsimp only
            show _ = _ + M pa i * 0
            rw [Int.mul_zero, Int.add_zero]
            exact t K f hf
      · dsimp only
        show _ + 0 * K = 0 + M pa ((0 : Nat) : Int) * _
        rw [Int.zero_mul, sumW_0 (fun j j0 j1 => by rw [z2 j j0 (by omega), Int.zero_mul]), show (((0 : Nat) : Int)) = 0 from rfl, hz, Int.zero_mul]
    · rw [e 62 15 (by omega), ha, e 62 16 (by omega), hb]
      refine Ret.g ka (Ret.g kb (Ret.l (Ret.l (Ret.s ⟨?_, ?_, fun a b q1 q2 => ?_, ?_, fun j j0 j1 => ?_, fun K f hf => ?_⟩))))
      · dsimp only
        rw [sto_ne (by omega), sto_eq rfl rfl]
      · dsimp only
        rw [sto_eq rfl rfl]
      · dsimp only
        rw [sto_ne (by omega), sto_ne (by omega)]
        exact e a b q1
      · dsimp only
        rw [sto_ne (by omega), sto_ne (by omega)]
        exact cz
      · dsimp only
        rw [sto_ne (by omega), sto_ne (by omega)]
        exact c j j0 j1
      · dsimp only
        refine Eq.trans (congrArg (fun z => z + x.2 * K) (sumW_cong (fun j _ _ => ?_))) (t K f hf)
        rw [sto_ne (by omega), sto_ne (by omega)]
