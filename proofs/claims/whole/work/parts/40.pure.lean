/-! pure: what a function gives, as a claim that composes -/
def Ret {α : Type} (x : Option α) (Q : α → Prop) : Prop := ∃ a, x = some a ∧ Q a
theorem Ret.s {α : Type} {a : α} {Q : α → Prop} (h : Q a) : Ret (some a) Q := ⟨a, rfl, h⟩
theorem Ret.g {β : Type} {c : Prop} [Decidable c] {x : Option β} {Q : β → Prop} (hc : c) (h : Ret x Q) : Ret (grd c x) Q := by
  unfold grd; rw [if_pos hc]; exact h
theorem Ret.b {α β : Type} {x : Option α} {k : α → Option β} {Q : β → Prop} (h : Ret x (fun a => Ret (k a) Q)) : Ret (x.bind k) Q := by
  obtain ⟨a, h1, b, h2, h3⟩ := h
  exact ⟨b, by rw [h1]; exact h2, h3⟩
theorem Ret.bb {α β : Type} {x : Option α} {k : α → Option β} {P : α → Prop} {Q : β → Prop} (h : Ret x P) (hk : ∀ a, P a → Ret (k a) Q) : Ret (x.bind k) Q := by
  obtain ⟨a, h1, h2⟩ := h
  obtain ⟨b, h3, h4⟩ := hk a h2
  exact ⟨b, by rw [h1]; exact h3, h4⟩
theorem Ret.l {α β : Type} {x : α} {k : α → Option β} {Q : β → Prop} (h : Ret (k x) Q) : Ret (lt1 x k) Q := h
theorem Ret.i {β : Type} {c : Prop} [Decidable c] {x y : Option β} {Q : β → Prop} (h1 : c → Ret x Q) (h2 : ¬ c → Ret y Q) : Ret (if c then x else y) Q := by
  by_cases h : c
  · rw [if_pos h]; exact h1 h
  · rw [if_neg h]; exact h2 h
theorem Ret.t {β : Type} {c : Prop} [Decidable c] {x y : Option β} {Q : β → Prop} (hc : c) (h1 : Ret x Q) : Ret (if c then x else y) Q := by rw [if_pos hc]; exact h1
theorem Ret.f {β : Type} {c : Prop} [Decidable c] {x y : Option β} {Q : β → Prop} (hc : ¬ c) (h1 : Ret y Q) : Ret (if c then x else y) Q := by rw [if_neg hc]; exact h1
theorem Ret.m {α : Type} {x : Option α} {P Q : α → Prop} (h : Ret x P) (hq : ∀ a, P a → Q a) : Ret x Q := by
  obtain ⟨a, h1, h2⟩ := h
  exact ⟨a, h1, hq a h2⟩
theorem Ret.e {α : Type} {x : Option α} {a : α} (h : x = some a) : Ret x (fun b => b = a) := ⟨a, h, rfl⟩
theorem Ret.it {S X : Type} {b : S → Option (S ⊕ X)} {Q : X → Prop} (I : S → Prop) (μ : S → Nat) (h : ∀ s, I s → Ret (b s) (fun r => (∀ t, r = .inl t → I t ∧ μ t < μ s) ∧ (∀ x, r = .inr x → Q x))) : ∀ (n : Nat) (s : S), I s → μ s < n → Ret (iter b n s) Q := by
  intro n
  induction n with
  | zero => intro s _ h0; exact absurd h0 (Nat.not_lt_zero _)
  | succ n ih =>
    intro s hs hn
    obtain ⟨r, h1, h2, h3⟩ := h s hs
    unfold iter
    rw [h1]
    match r, h2, h3 with
    | .inl t, h2, _ =>
      obtain ⟨g1, g2⟩ := h2 t rfl
      exact ih t g1 (by omega)
    | .inr x, _, h3 => exact ⟨x, rfl, h3 x rfl⟩
theorem Ret.il {S X : Type} {s : S} {t : S} {I : S → Prop} {μ : S → Nat} {Q : X → Prop} (h : I t ∧ μ t < μ s) : Ret (some (Sum.inl t) : Option (S ⊕ X)) (fun r => (∀ t, r = .inl t → I t ∧ μ t < μ s) ∧ (∀ x, r = .inr x → Q x)) := ⟨_, rfl, fun t e => by cases e; exact h, fun x e => by cases e⟩
theorem Ret.ir {S X : Type} {s : S} {x : X} {I : S → Prop} {μ : S → Nat} {Q : X → Prop} (h : Q x) : Ret (some (Sum.inr x) : Option (S ⊕ X)) (fun r => (∀ t, r = .inl t → I t ∧ μ t < μ s) ∧ (∀ x, r = .inr x → Q x)) := ⟨_, rfl, fun t e => (by cases e), fun y e => by cases e; exact h⟩
/-! the memory after a write -/
theorem sto_eq {M : jM} {a b v x y : Int} (h1 : x = a) (h2 : y = b) : sto M a b v x y = v := by unfold sto; rw [if_pos ⟨h1, h2⟩]
theorem sto_ne {M : jM} {a b v x y : Int} (h : ¬ (x = a ∧ y = b)) : sto M a b v x y = M x y := by unfold sto; rw [if_neg h]
/-! digits of 4 -/
def pk4 (d : Int → Int) : Nat → Int
  | 0 => 0
  | n + 1 => 4 * pk4 d n + d n
theorem pk4_cong {d e : Int → Int} : ∀ {n : Nat}, (∀ i : Nat, i < n → d i = e i) → pk4 d n = pk4 e n
  | 0, _ => rfl
  | n + 1, h => by
    show 4 * pk4 d n + d n = 4 * pk4 e n + e n
    rw [pk4_cong (fun i hi => h i (by omega)), h n (by omega)]
theorem pk4_rng {d : Int → Int} : ∀ {n : Nat}, (∀ i : Nat, i < n → 0 ≤ d i ∧ d i ≤ 2) → 0 ≤ pk4 d n ∧ pk4 d n < 4 ^ n
  | 0, _ => ⟨Int.le_refl 0, by show (0 : Int) < 4 ^ 0; decide⟩
  | n + 1, h => by
    obtain ⟨h1, h2⟩ := pk4_rng (fun i hi => h i (by omega)) (n := n)
    obtain ⟨h3, h4⟩ := h n (by omega)
    have e : (4 : Int) ^ (n + 1) = 4 ^ n * 4 := Int.pow_succ 4 n
    show 0 ≤ 4 * pk4 d n + d n ∧ 4 * pk4 d n + d n < 4 ^ (n + 1)
    rw [e]
    omega
/-- the first k digits: the rest divided off -/
theorem pk4_div {d : Int → Int} : ∀ {n : Nat}, (∀ i : Nat, i < n → 0 ≤ d i ∧ d i ≤ 2) → ∀ k, k ≤ n → pk4 d n / 4 ^ (n - k) = pk4 d k
  | 0, _, k, hk => by
    have : k = 0 := by omega
    subst this; rfl
  | n + 1, h, k, hk => by
    rcases Nat.lt_or_ge k (n + 1) with q | q
    · have e : n + 1 - k = (n - k) + 1 := by omega
      have ih := pk4_div (fun i hi => h i (by omega)) k (n := n) (by omega)
      obtain ⟨h3, h4⟩ := h n (by omega)
      rw [e, Int.pow_succ, Int.mul_comm, ← Int.ediv_ediv_of_nonneg (by decide)]
      show (4 * pk4 d n + d n) / 4 / 4 ^ (n - k) = pk4 d k
      have e2 : (4 * pk4 d n + d n) / 4 = pk4 d n := by omega
      rw [e2, ih]
    · have : k = n + 1 := by omega
      subst this
      rw [Nat.sub_self]
      show _ / (4 : Int) ^ 0 = _
      rw [Int.pow_zero, Int.ediv_one]
/-- the last k digits -/
theorem pk4_mod {d : Int → Int} : ∀ {n : Nat}, (∀ i : Nat, i < n → 0 ≤ d i ∧ d i ≤ 2) → ∀ k, k ≤ n → pk4 d n % 4 ^ k = pk4 (fun i => d ((n : Int) - k + i)) k := by
  intro n h k hk
  induction k generalizing n with
  | zero => show pk4 d n % (4 : Int) ^ 0 = 0; rw [Int.pow_zero, Int.emod_one]
  | succ k ih =>
    obtain ⟨m, rfl⟩ : ∃ m, n = m + 1 := ⟨n - 1, by omega⟩
    have ih' := ih (n := m) (fun i hi => h i (by omega)) (by omega)
    obtain ⟨h3, h4⟩ := h m (by omega)
    show (4 * pk4 d m + d m) % (4 : Int) ^ (k + 1) = 4 * pk4 (fun i => d (((m + 1 : Nat) : Int) - ((k + 1 : Nat) : Int) + i)) k + d (((m + 1 : Nat) : Int) - ((k + 1 : Nat) : Int) + (k : Int))
    have e1 : pk4 (fun i => d (((m + 1 : Nat) : Int) - ((k + 1 : Nat) : Int) + i)) k = pk4 (fun i => d ((m : Int) - (k : Int) + i)) k := pk4_cong (fun i _ => by show d _ = d _; congr 1; omega)
    have e2 : (((m + 1 : Nat) : Int) - ((k + 1 : Nat) : Int) + (k : Int)) = (m : Int) := by omega
    rw [e1, ← ih', e2, Int.pow_succ]
    have hp : (0 : Int) < 4 ^ k := Int.pow_pos (by decide)
    have e3 : 4 * pk4 d m + d m = (4 * (pk4 d m % 4 ^ k) + d m) + (4 ^ k * 4) * (pk4 d m / 4 ^ k) := by
      have := Int.emod_add_mul_ediv (pk4 d m) (4 ^ k)
      have e4 : (4 : Int) ^ k * 4 * (pk4 d m / 4 ^ k) = 4 * (4 ^ k * (pk4 d m / 4 ^ k)) := by
        rw [Int.mul_comm (4 ^ k) 4, Int.mul_assoc]
      rw [e4]
      omega
    rw [e3, Int.add_mul_emod_self_left]
    have h5 := Int.emod_nonneg (pk4 d m) (by omega : (4 : Int) ^ k ≠ 0)
    have h6 := Int.emod_lt_of_pos (pk4 d m) hp
    exact Int.emod_eq_of_lt (by omega) (by omega)
theorem pk4_inj {d e : Int → Int} : ∀ {n : Nat}, (∀ i : Nat, i < n → 0 ≤ d i ∧ d i ≤ 2) → (∀ i : Nat, i < n → 0 ≤ e i ∧ e i ≤ 2) → pk4 d n = pk4 e n → ∀ i : Nat, i < n → d i = e i
  | 0, _, _, _, i, hi => absurd hi (Nat.not_lt_zero i)
  | n + 1, hd, he, h, i, hi => by
    obtain ⟨h3, h4⟩ := hd n (by omega)
    obtain ⟨h5, h6⟩ := he n (by omega)
    have h : 4 * pk4 d n + d n = 4 * pk4 e n + e n := h
    rcases Nat.lt_or_ge i n with q | q
    · exact pk4_inj (fun i hi => hd i (by omega)) (fun i hi => he i (by omega)) (by omega) i q
    · have : i = n := by omega
      subst this
      omega
