theorem Rl {S X : Type} {t : S} {A : S → Prop} {Q : X → Prop} (h : A t) : Ret (some (Sum.inl t) : Option (S ⊕ X)) (fun r => (∀ t, r = .inl t → A t) ∧ (∀ x, r = .inr x → Q x)) := ⟨_, rfl, fun t e => by cases e; exact h, fun x e => by cases e⟩
theorem Rr {S X : Type} {x : X} {A : S → Prop} {Q : X → Prop} (h : Q x) : Ret (some (Sum.inr x) : Option (S ⊕ X)) (fun r => (∀ t, r = .inl t → A t) ∧ (∀ x, r = .inr x → Q x)) := ⟨_, rfl, fun t e => (by cases e), fun y e => by cases e; exact h⟩
theorem r_endsWith {M : jM} {fr sz row k : Int} (s0 : 0 ≤ sz) (s1 : sz ≤ 24) (f0 : 0 ≤ fr) (f1 : fr + sz ≤ 952) (k0 : 0 ≤ k) (k1 : k ≤ 24) (w0 : 0 ≤ row) (w1 : 10 + 6 * row + k ≤ 952) (hd : ∀ i, 0 ≤ i → i < sz → 0 ≤ M 63 (fr + i) ∧ M 63 (fr + i) ≤ 2) (he : ∀ j, 0 ≤ j → j < k → 0 ≤ M 63 (10 + 6 * row + j) ∧ M 63 (10 + 6 * row + j) ≤ 2) :
    ∃ r : Int, f_X10_endsWith M 62 fr sz row k = some r ∧ (r = 0 ∨ r = 1) ∧ (r = 1 ↔ k ≤ sz ∧ EndsW (fun i => M 63 (fr + i)) sz (fun j => M 63 (10 + 6 * row + j)) k) := by
  have loop : ∀ is : Int, (is = 0 ∨ is = 1) → (is = 1 ↔ k ≤ sz) → Ret (f_X10_endsWith_11 M 62 fr sz row k is) (fun r => (r = 0 ∨ r = 1) ∧ (r = 1 ↔ k ≤ sz ∧ EndsW (fun i => M 63 (fr + i)) sz (fun j => M 63 (10 + 6 * row + j)) k)) := by
    intro is h1 h2
    unfold f_X10_endsWith_11
    refine Ret.bb (P := fun r : Int => (r = 0 ∨ r = 1) ∧ (r = 1 ↔ k ≤ sz ∧ EndsW (fun i => M 63 (fr + i)) sz (fun j => M 63 (10 + 6 * row + j)) k)) ?_ ?_
    · refine Ret.it (fun S : Int × Int => 0 ≤ S.2 ∧ S.2 ≤ k ∧ (S.1 = 0 ∨ S.1 = 1) ∧ (S.1 = 1 ↔ k ≤ sz ∧ ∀ j, 0 ≤ j → j < S.2 → M 63 (fr + (sz - k + j)) = M 63 (10 + 6 * row + j))) (fun S => (k - S.2).toNat) ?_ 5000 (is, 0) ⟨Int.le_refl 0, k0, h1, ⟨fun h => ⟨h2.mp h, fun j j0 j1 => absurd j1 (by show ¬ j < 0; omega)⟩, fun h => h2.mpr h.1⟩⟩ (by show (k - 0).toNat < 5000; omega)
      rintro ⟨a, j⟩ ⟨j0, j1, a0, ha⟩
      dsimp only at j0 j1 a0 ha
      unfold f_X10_endsWith_L16
      dsimp only
      rw [w32_id (x := k) (by omega) (by omega), w32_id (x := j) (by omega) (by omega), w32_id (x := a) (by omega) (by omega)]
      refine Ret.i (fun c => Rr ?_) (fun c => Ret.i (fun c2 => Rr ?_) (fun c2 => ?_))
      · have : j = k := by omega
        subst this
        exact ⟨a0, ha⟩
      · refine ⟨a0, ⟨fun h => by omega, fun h => ha.mpr ⟨h.1, fun j' h1 h2 => h.2 j' h1 (by omega)⟩⟩⟩
      · have a1 : a = 1 := by omega
        obtain ⟨g1, g2⟩ := ha.mp a1
        have e1 : fr + sz - k + j = fr + (sz - k + j) := by omega
        rw [w32_id (x := fr + sz - k + j) (by omega) (by omega), w32_id (x := 10 + 6 * row + j) (by omega) (by omega), show jpt 62 1 = 63 from rfl]
        refine Ret.g ⟨by omega, by omega⟩ (Ret.g ⟨by omega, by omega⟩ ?_)
        obtain ⟨d0, d1⟩ := hd (sz - k + j) (by omega) (by omega)
        obtain ⟨e0, e2⟩ := he j j0 (by omega)
        rw [e1, w32_id (x := M 63 (fr + (sz - k + j))) (by omega) (by omega), w32_id (x := M 63 (10 + 6 * row + j)) (by omega) (by omega)]
        unfold f_X10_endsWith_65
        refine Ret.i (fun c3 => Rl ⟨⟨by show 0 ≤ j + 1; omega, by show j + 1 ≤ k; omega, Or.inr rfl, ⟨fun _ => ⟨g1, fun j' h3 h4 => ?_⟩, fun _ => rfl⟩⟩, by show (k - (j + 1)).toNat < (k - j).toNat; omega⟩) (fun c3 => Rl ⟨⟨by show 0 ≤ j + 1; omega, by show j + 1 ≤ k; omega, Or.inl rfl, ⟨fun h => absurd h (by show ¬ (0 : Int) = 1; omega), fun h => absurd (h.2 j j0 (by show j < j + 1; omega)) c3⟩⟩, by show (k - (j + 1)).toNat < (k - j).toNat; omega⟩)
        have h4 : j' < j + 1 := h4
        by_cases q : j' = j
        · rw [q]; exact c3
        · exact g2 j' h3 (by omega)
    · intro r hr
      refine Ret.g hr.1 (Ret.s hr)
  unfold f_X10_endsWith
  rw [w32_id (x := sz) (by omega) (by omega), w32_id (x := k) (by omega) (by omega)]
  by_cases c : sz < k
  · rw [if_pos c]
    obtain ⟨r, h1, h2⟩ := loop 0 (Or.inl rfl) ⟨fun h => by omega, fun h => by omega⟩
    exact ⟨r, h1, h2⟩
  · rw [if_neg c]
    obtain ⟨r, h1, h2⟩ := loop 1 (Or.inr rfl) ⟨fun h => by omega, fun h => rfl⟩
    exact ⟨r, h1, h2⟩
