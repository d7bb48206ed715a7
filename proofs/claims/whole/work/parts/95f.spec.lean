/-! the ways from a string of signs on -/
theorem Win.ex {M : jM} (h : jInv M) (x : List Int) : ∃ v, Win M x v (-1) := by
  have k : ∀ n : Nat, n ≤ 6 → (∀ r : Int, r < n → LwR M r → ¬ pre (wr M r) x) ∨ ∃ v, LwR M v ∧ pre (wr M v) x ∧ ∀ r, LwR M r → pre (wr M r) x → v ≤ r := by
    intro n
    induction n with
    | zero =>
      refine fun _ => Or.inl (fun r r0 hr => ?_)
      have := (LwR.rng h hr).1
      omega
    | succ n ih =>
      intro hn
      rcases ih (by omega) with q | q
      · by_cases c : LwR M n ∧ pre (wr M n) x
        · refine Or.inr ⟨n, c.1, c.2, fun r hr hp => ?_⟩
          by_cases e : r < n
          · exact absurd hp (q r e hr)
          · omega
        · refine Or.inl (fun r hr hl hp => ?_)
          by_cases e : r < n
          · exact q r e hl hp
          · have e2 : r = n := by omega
            rw [e2] at hl hp
            exact c ⟨hl, hp⟩
      · exact Or.inr q
  rcases k 6 (by omega) with q | ⟨v, q⟩
  · refine ⟨-1, Or.inl ⟨rfl, fun r hr hp => q r ?_ hr hp⟩⟩
    have := (LwR.rng h hr).2
    omega
  · exact ⟨v, Or.inr q⟩
theorem Win.uq {M : jM} {x : List Int} {u v a b : Int} (h : Win M x u a) (h2 : Win M x v b) : (u = a ∧ v = b) ∨ (u = v ∧ LwR M u) := by
  rcases h with ⟨h, h3⟩ | ⟨h, h3, h4⟩
  · rcases h2 with ⟨g, g3⟩ | ⟨g, g3, g4⟩
    · exact Or.inl ⟨h, g⟩
    · exact absurd g3 (h3 v g)
  · rcases h2 with ⟨g, g3⟩ | ⟨g, g3, g4⟩
    · exact absurd h3 (g3 u h)
    · have := h4 v g g3
      have := g4 u h h3
      exact Or.inr ⟨by omega, h⟩
theorem Win.cong {M : jM} {x y : List Int} {v no : Int} (e : ∀ r, LwR M r → (pre (wr M r) x ↔ pre (wr M r) y)) (h : Win M x v no) : Win M y v no := by
  rcases h with ⟨h, h3⟩ | ⟨h, h3, h4⟩
  · exact Or.inl ⟨h, fun r hr hp => h3 r hr ((e r hr).mpr hp)⟩
  · exact Or.inr ⟨h, (e v h).mp h3, fun r hr hp => h4 r hr ((e r hr).mpr hp)⟩
noncomputable def fe (M : jM) (x : List Int) : Int := Classical.epsilon (fun v => Win M x v (-1))
theorem fe_spec {M : jM} (h : jInv M) {x : List Int} : Win M x (fe M x) (-1) := Classical.epsilon_spec (Win.ex h x)
theorem fe_of {M : jM} (h : jInv M) {x : List Int} {v no : Int} (hw : Win M x v no) : (v = no ∧ fe M x = -1) ∨ (v = fe M x ∧ 0 ≤ v ∧ v < 6) := by
  rcases hw.uq (fe_spec h) with q | ⟨q, q2⟩
  · exact Or.inl q
  · have := LwR.rng h q2
    exact Or.inr ⟨q, this⟩
def Nd (M : jM) (x : List Int) : Prop := x = [] ∨ ∃ (r : Int) (q : Nat), LwR M r ∧ q ≤ (rowz M r).toNat ∧ x = rv (rowd M r) q
theorem Nd.o {M : jM} : Nd M [] := Or.inl rfl
theorem Nd.s {M : jM} (a : Int) (y : List Int) (h : Nd M (a :: y)) : Nd M y := by
  rcases h with h | ⟨r, q, h1, h2, h3⟩
  · cases h
  · cases q with
    | zero => cases h3
    | succ q =>
      rw [rv] at h3
      injection h3 with h4 h5
      exact Or.inr ⟨r, q, h1, by omega, h5⟩
theorem Nd.w {M : jM} {r : Int} (h : LwR M r) : Nd M (wr M r) := Or.inr ⟨r, _, h, Nat.le_refl _, rfl⟩
theorem pre_lon {M : jM} {u x : List Int} (h : Lon (Nd M) u x) {r : Int} (hr : LwR M r) : pre (wr M r) u ↔ pre (wr M r) x := ⟨fun p => h.2.2 _ p (Nd.w hr), fun p => pre_tr p h.1⟩
theorem fe_cong {M : jM} (h : jInv M) {x y : List Int} (e : ∀ r, LwR M r → (pre (wr M r) x ↔ pre (wr M r) y)) : fe M x = fe M y := by
  rcases ((fe_spec h (x := x)).cong e).uq (fe_spec h (x := y)) with q | q
  · omega
  · exact q.1
theorem fe_lon {M : jM} (h : jInv M) {u x : List Int} (l : Lon (Nd M) u x) : fe M u = fe M x := fe_cong h (fun _ hr => pre_lon l hr)
theorem sumW_cong {f g : Int → Int} : ∀ {n : Nat}, (∀ i : Int, 0 ≤ i → i < n → f i = g i) → sumW f n = sumW g n
  | 0, _ => rfl
  | n + 1, h => by
    rw [sumW, sumW, sumW_cong (n := n) (fun i i0 i1 => h i i0 (by omega)), h n (by omega) (by omega)]
noncomputable def Dk (M : jM) (ro K : Int) (f : List Int → Int) (x : List Int) : Int := if fe M x = -1 then f x else if fe M x = ro then K else 0
noncomputable def Ek (M : jM) (w : Int → Int) (ro K : Int) (f : List Int → Int) (u : List Int) : Int := sumW (fun s => w s * Dk M ro K f (s :: u)) (M 3 0).toNat
noncomputable def Vv (M : jM) (w : Int → Int) (al ro c0 : Int) : Nat → (List Int → Int)
  | 0 => fun _ => c0
  | m + 1 => Ek M w ro (al ^ m) (Vv M w al ro c0 m)
def RespL (M : jM) (f : List Int → Int) : Prop := ∀ u x, Lon (Nd M) u x → f u = f x
def RespT (M : jM) (f : List Int → Int) : Prop := ∀ u, fe M u = -1 → f (u.take 5) = f u
theorem Dk_lon {M : jM} (h : jInv M) {ro K : Int} {f : List Int → Int} (hf : RespL M f) {u x : List Int} (l : Lon (Nd M) u x) : Dk M ro K f u = Dk M ro K f x := by
  unfold Dk
  rw [fe_lon h l, hf _ _ l]
theorem Vv_L {M : jM} (h : jInv M) {w : Int → Int} {al ro c0 : Int} : ∀ m, RespL M (Vv M w al ro c0 m)
  | 0 => fun _ _ _ => rfl
  | m + 1 => fun u x l => by
    show sumW _ _ = sumW _ _
    refine sumW_cong (fun s _ _ => ?_)
    obtain ⟨z, hz⟩ := Lon.ex (Nd.o (M := M)) (s :: x)
    rw [Dk_lon h (Vv_L h m) (l.push Nd.s hz), Dk_lon h (Vv_L h m) hz]
theorem Nd_len {M : jM} (h : jInv M) {x : List Int} (hx : Nd M x) : x.length ≤ 6 ∧ (x.length = 6 → ∃ r, LwR M r ∧ x = wr M r) := by
  rcases hx with rfl | ⟨r, q, h1, h2, rfl⟩
  · exact ⟨by decide, fun e => absurd e (by decide)⟩
  · rw [rv_len]
    have := rowz_rng h h1.1
    refine ⟨by omega, fun e => ⟨r, h1, ?_⟩⟩
    unfold wr
    congr 1
    omega
theorem Resp_LT {M : jM} (h : jInv M) {f : List Int → Int} (hf : RespL M f) : RespT M f := fun u hu => by
  obtain ⟨x, hx⟩ := Lon.ex (Nd.o (M := M)) u
  obtain ⟨l1, l2⟩ := Nd_len h hx.2.1
  have h5 : x.length ≤ 5 := by
    by_cases e : x.length = 6
    · exfalso
      obtain ⟨r, hr, er⟩ := l2 e
      rcases fe_spec h (x := u) with ⟨_, q⟩ | ⟨q, _⟩
      · exact q r hr (by rw [← er]; exact hx.1)
      · have := (LwR.rng h q).1
        omega
    · omega
  rw [hf _ _ (hx.take h5), hf _ _ hx]
theorem sumW_bd {w f : Int → Int} {B : Int} : ∀ {n : Nat}, (∀ s : Int, 0 ≤ s → s < n → 0 ≤ w s ∧ 0 ≤ f s ∧ f s ≤ B) → 0 ≤ sumW (fun s => w s * f s) n ∧ sumW (fun s => w s * f s) n ≤ sumW w n * B
  | 0, _ => ⟨Int.le_refl _, by show (0 : Int) ≤ 0 * B; rw [Int.zero_mul]; exact Int.le_refl _⟩
  | n + 1, h => by
    obtain ⟨i1, i2⟩ := sumW_bd (n := n) (fun s s0 s1 => h s s0 (by omega))
    obtain ⟨a, b, c⟩ := h n (by omega) (by omega)
    rw [sumW, sumW, Int.add_mul]
    have := mul_bd a (Int.le_refl _) b c
    omega
theorem sumW_wb {g : Int} {w : Int → Int} {al : Int} (h : WtB g w al) : sumW w g.toNat = al := by
  obtain ⟨g0, g1, h1, h2, h3⟩ := h
  by_cases e : g = 2
  · subst e
    have := h2 2 (by decide)
    show 0 + w 0 + w 1 = al
    omega
  · have e : g = 3 := by omega
    subst e
    show 0 + w 0 + w 1 + w 2 = al
    omega
theorem Ek_bd {M : jM} {w : Int → Int} {al ro K B : Int} {f : List Int → Int} (hB : WtB (M 3 0) w al) (k0 : 0 ≤ K) (k1 : K ≤ B) (hf : ∀ x, 0 ≤ f x ∧ f x ≤ B) (u : List Int) : 0 ≤ Ek M w ro K f u ∧ Ek M w ro K f u ≤ al * B := by
  have h := sumW_bd (w := w) (f := fun s => Dk M ro K f (s :: u)) (B := B) (n := (M 3 0).toNat) (fun s s0 s1 => by
    refine ⟨(hB.w s0).1, ?_⟩
    have := hf (s :: u)
    unfold Dk
    split
    · exact this
    · split
      · exact ⟨k0, k1⟩
      · omega)
  rw [sumW_wb hB] at h
  exact h
theorem Vv_bd {M : jM} {w : Int → Int} {al ro c0 : Int} (hB : WtB (M 3 0) w al) (c1 : 0 ≤ c0) (c2 : c0 ≤ 1) : ∀ (m : Nat) (u : List Int), 0 ≤ Vv M w al ro c0 m u ∧ Vv M w al ro c0 m u ≤ al ^ m
  | 0, _ => ⟨c1, by rw [Int.pow_zero]; exact c2⟩
  | m + 1, u => by
    have hal := hB.al
    have hp : 0 < al ^ m := Int.pow_pos (by omega)
    have := Ek_bd (ro := ro) (K := al ^ m) hB (by omega) (Int.le_refl _) (Vv_bd (ro := ro) hB c1 c2 m) u
    rw [Int.pow_succ, Int.mul_comm (al ^ m) al]
    exact this
/-- a sum of products, one factor changed at one place -/
theorem sumW_upd {f f' c : Int → Int} {q v : Int} : ∀ {n : Nat}, (∀ j : Int, 0 ≤ j → j < n → j ≠ q → f' j = f j) → (0 ≤ q → q < n → f' q = f q + v) → 0 ≤ q → sumW (fun j => f' j * c j) n = sumW (fun j => f j * c j) n + (if q < n then v * c q else 0)
  | 0, _, _, q0 => by
    rw [if_neg (by omega)]
    rfl
  | n + 1, h, h2, q0 => by
    have ih := sumW_upd (c := c) (n := n) (fun j j0 j1 j2 => h j j0 (by omega) j2) (fun _ b => h2 q0 (by omega)) q0
    rw [sumW, sumW, ih]
    by_cases e : q = n
    · have e2 := h2 q0 (by omega)
      rw [if_neg (by omega), if_pos (by omega), ← e, e2, Int.add_mul]
      omega
    · rw [h n (by omega) (by omega) (fun z => e z.symm)]
      by_cases e2 : q < n
      · rw [if_pos e2, if_pos (by omega)]
        omega
      · rw [if_neg e2, if_neg (by omega)]
        omega
theorem sumW_0 {f : Int → Int} : ∀ {n : Nat}, (∀ j : Int, 0 ≤ j → j < n → f j = 0) → sumW f n = 0
  | 0, _ => rfl
  | n + 1, h => by
    rw [sumW, sumW_0 (n := n) (fun j j0 j1 => h j j0 (by omega)), h n (by omega) (by omega)]
    rfl
theorem sumW_cell {f : Int → Int} : ∀ {n : Nat}, (∀ j : Int, 0 ≤ j → j < n → 0 ≤ f j) → 0 ≤ sumW f n ∧ ∀ j : Int, 0 ≤ j → j < n → f j ≤ sumW f n
  | 0, _ => ⟨Int.le_refl _, fun j j0 j1 => by omega⟩
  | n + 1, h => by
    obtain ⟨a, b⟩ := sumW_cell (n := n) (fun j j0 j1 => h j j0 (by omega))
    have := h n (by omega) (by omega)
    rw [sumW]
    refine ⟨by omega, fun j j0 j1 => ?_⟩
    by_cases e : j = n
    · rw [e]
      omega
    · have := b j j0 (by omega)
      omega
