/-! strings of signs, the last one first; the longest beginning that is a node -/
def pre : List Int → List Int → Prop
  | [], _ => True
  | _ :: _, [] => False
  | a :: x, b :: u => a = b ∧ pre x u
theorem pre_nil {u : List Int} : pre [] u := by unfold pre; trivial
theorem pre_cc {a b : Int} {x u : List Int} : pre (a :: x) (b :: u) ↔ a = b ∧ pre x u := by rw [pre]
theorem pre_cn {a : Int} {x : List Int} : ¬ pre (a :: x) [] := by rw [pre]; exact id
theorem pre_rfl : ∀ {u : List Int}, pre u u
  | [] => pre_nil
  | _ :: _ => pre_cc.mpr ⟨rfl, pre_rfl⟩
theorem pre_tr : ∀ {x y z : List Int}, pre x y → pre y z → pre x z
  | [], _, _, _, _ => pre_nil
  | _ :: _, [], _, h, _ => absurd h pre_cn
  | _ :: _, _ :: _, [], _, h => absurd h pre_cn
  | _ :: _, _ :: _, _ :: _, h, h2 => by
    rw [pre_cc] at h h2 ⊢
    exact ⟨h.1.trans h2.1, pre_tr h.2 h2.2⟩
theorem pre_len : ∀ {x y : List Int}, pre x y → x.length ≤ y.length
  | [], _, _ => Nat.zero_le _
  | _ :: _, [], h => absurd h pre_cn
  | _ :: _, _ :: _, h => Nat.succ_le_succ (pre_len (pre_cc.mp h).2)
theorem pre_lin : ∀ {x y u : List Int}, pre x u → pre y u → x.length ≤ y.length → pre x y
  | [], _, _, _, _, _ => pre_nil
  | _ :: _, [], _, _, _, h => absurd h (Nat.not_succ_le_zero _)
  | _ :: _, _ :: _, [], h, _, _ => absurd h pre_cn
  | _ :: _, _ :: _, _ :: _, h, h2, h3 => by
    rw [pre_cc] at h h2 ⊢
    exact ⟨h.1.trans h2.1.symm, pre_lin h.2 h2.2 (Nat.le_of_succ_le_succ h3)⟩
theorem pre_eq : ∀ {x y : List Int}, pre x y → y.length ≤ x.length → x = y
  | [], [], _, _ => rfl
  | [], _ :: _, _, h => absurd h (Nat.not_succ_le_zero _)
  | _ :: _, [], h, _ => absurd h pre_cn
  | _ :: _, _ :: _, h, h2 => by
    rw [pre_cc] at h
    rw [h.1, pre_eq h.2 (Nat.le_of_succ_le_succ h2)]
theorem pre_take : ∀ {x u : List Int} {n : Nat}, pre x u → x.length ≤ n → pre x (u.take n)
  | [], _, _, _, _ => pre_nil
  | _ :: _, [], _, h, _ => absurd h pre_cn
  | _ :: _, _ :: _, 0, _, h => absurd h (Nat.not_succ_le_zero _)
  | _ :: _, _ :: _, n + 1, h, h2 => by
    rw [pre_cc] at h
    rw [List.take_succ_cons, pre_cc]
    exact ⟨h.1, pre_take h.2 (Nat.le_of_succ_le_succ h2)⟩
theorem take_pre : ∀ {u : List Int} {n : Nat}, pre (u.take n) u
  | [], n => by rw [List.take_nil]; exact pre_nil
  | _ :: _, 0 => pre_nil
  | _ :: _, n + 1 => by rw [List.take_succ_cons, pre_cc]; exact ⟨rfl, take_pre⟩
/-- x is the longest beginning of u that is in N -/
def Lon (N : List Int → Prop) (u x : List Int) : Prop := pre x u ∧ N x ∧ ∀ y, pre y u → N y → pre y x
theorem Lon.uq {N : List Int → Prop} {u x y : List Int} (h : Lon N u x) (h2 : Lon N u y) : x = y := pre_eq (h2.2.2 x h.1 h.2.1) (pre_len (h.2.2 y h2.1 h2.2.1))
theorem Lon.self {N : List Int → Prop} {u : List Int} (h : N u) : Lon N u u := ⟨pre_rfl, h, fun _ p _ => p⟩
theorem Lon.push {N : List Int → Prop} (hN : ∀ a y, N (a :: y) → N y) {u x z : List Int} {a : Int} (h : Lon N u x) (h2 : Lon N (a :: x) z) : Lon N (a :: u) z := by
  refine ⟨pre_tr h2.1 (pre_cc.mpr ⟨rfl, h.1⟩), h2.2.1, fun y hy ny => ?_⟩
  cases y with
  | nil => exact pre_nil
  | cons b q =>
    rw [pre_cc] at hy
    exact h2.2.2 _ (pre_cc.mpr ⟨hy.1, h.2.2 q hy.2 (hN _ _ ny)⟩) ny
theorem Lon.ex {N : List Int → Prop} (h0 : N []) (u : List Int) : ∃ x, Lon N u x := by
  have h : ∀ n : Nat, ∃ x, pre x u ∧ N x ∧ ∀ y, pre y u → N y → y.length ≤ n → pre y x := fun n => by
    induction n with
    | zero => exact ⟨[], pre_nil, h0, fun y _ _ hl => by
        cases y with
        | nil => exact pre_nil
        | cons a q => exact absurd hl (Nat.not_succ_le_zero _)⟩
    | succ n ih =>
      obtain ⟨x, x1, x2, x3⟩ := ih
      by_cases c : N (u.take (n + 1))
      · exact ⟨_, take_pre, c, fun y hy _ hl => pre_take hy hl⟩
      · refine ⟨x, x1, x2, fun y hy ny hl => ?_⟩
        by_cases e : y.length ≤ n
        · exact x3 y hy ny e
        · exfalso
          apply c
          have e1 : pre y (u.take (n + 1)) := pre_take hy hl
          have e2 : (u.take (n + 1)).length ≤ n + 1 := by rw [List.length_take]; omega
          rw [← pre_eq e1 (by omega)]
          exact ny
  obtain ⟨x, x1, x2, x3⟩ := h u.length
  exact ⟨x, x1, x2, fun y hy ny => x3 y hy ny (pre_len hy)⟩
theorem Lon.take {N : List Int → Prop} {u x : List Int} {n : Nat} (h : Lon N u x) (hx : x.length ≤ n) : Lon N (u.take n) x := ⟨pre_take h.1 hx, h.2.1, fun y hy ny => h.2.2 y (pre_tr hy take_pre) ny⟩
/-- the longest proper beginning -/
def PLon (N : List Int → Prop) (a : Int) (u z : List Int) : Prop := pre z (a :: u) ∧ z.length ≤ u.length ∧ N z ∧ ∀ y, pre y (a :: u) → y.length ≤ u.length → N y → pre y z
theorem PLon.lon {N : List Int → Prop} {a : Int} {u z : List Int} (h : PLon N a u z) (hn : ¬ N (a :: u)) : Lon N (a :: u) z := ⟨h.1, h.2.2.1, fun y hy ny => h.2.2.2 y hy (by
  have h1 := pre_len hy
  have h2 : (a :: u).length = u.length + 1 := rfl
  rw [h2] at h1
  by_cases e : y.length = u.length + 1
  · exfalso
    apply hn
    rw [← pre_eq hy (by rw [h2]; omega)]
    exact ny
  · omega) ny⟩
theorem PLon.push {N : List Int → Prop} (hN : ∀ a y, N (a :: y) → N y) {a b : Int} {u x z : List Int} (h : PLon N b u x) (h2 : Lon N (a :: x) z) : PLon N a (b :: u) z := by
  refine ⟨pre_tr h2.1 (pre_cc.mpr ⟨rfl, h.1⟩), ?_, h2.2.1, fun y hy hl ny => ?_⟩
  · have h3 := pre_len h2.1
    have h4 : (a :: x).length = x.length + 1 := rfl
    have h5 : (b :: u).length = u.length + 1 := rfl
    have := h.2.1
    omega
  · cases y with
    | nil => exact pre_nil
    | cons c q =>
      rw [pre_cc] at hy
      have h5 : (b :: u).length = u.length + 1 := rfl
      have h6 : (c :: q).length = q.length + 1 := rfl
      exact h2.2.2 _ (pre_cc.mpr ⟨hy.1, h.2.2.2 q hy.2 (by omega) (hN _ _ ny)⟩) ny
theorem PLon.root {N : List Int → Prop} (h0 : N []) {a : Int} : PLon N a [] [] := ⟨pre_nil, Nat.le_refl _, h0, fun y hy hl _ => by
  cases y with
  | nil => exact pre_nil
  | cons c q => exact absurd hl (Nat.not_succ_le_zero _)⟩
/-- the first signs of a row -/
def rv (d : Int → Int) : Nat → List Int
  | 0 => []
  | n + 1 => d n :: rv d n
theorem rv_len {d : Int → Int} : ∀ {n : Nat}, (rv d n).length = n
  | 0 => rfl
  | n + 1 => by
    show (rv d n).length + 1 = n + 1
    rw [rv_len]
theorem rv_inj {d e : Int → Int} {n m : Nat} (h : rv d n = rv e m) : n = m := by rw [← rv_len (d := d) (n := n), h, rv_len]
/-- the string of a code -/
def uc (k : Nat) : List Int := if h : k < 3 then [] else ((k % 3 : Nat) : Int) :: uc (k / 3)
termination_by k
decreasing_by omega
theorem uc_0 {k : Nat} (h : k < 3) : uc k = [] := by rw [uc, dif_pos h]
theorem uc_s {k : Nat} (h : ¬ k < 3) : uc k = ((k % 3 : Nat) : Int) :: uc (k / 3) := by rw [uc, dif_neg h]
theorem uc_c {k s : Nat} (h : 1 ≤ k) (hs : s ≤ 2) : uc (3 * k + s) = (s : Int) :: uc k := by
  rw [uc_s (by omega), show (3 * k + s) % 3 = s by omega, show (3 * k + s) / 3 = k by omega]
def hv (d : Int → Int) : Nat → Int
  | 0 => 0
  | n + 1 => 3 * hv d n + d n
theorem uc_pre {d : Int → Int} : ∀ {n c : Nat}, (∀ j : Int, 0 ≤ j → j < n → 0 ≤ d j ∧ d j ≤ 2) → (1 ≤ c) → (pre (rv d n) (uc c) ↔ 3 ^ n ≤ c ∧ ((c % 3 ^ n : Nat) : Int) = hv d n)
  | 0, c, _, hc => by
    rw [rv, hv]
    refine ⟨fun _ => ⟨by rw [Nat.pow_zero]; exact hc, by rw [Nat.pow_zero, Nat.mod_one]; rfl⟩, fun _ => pre_nil⟩
  | n + 1, c, hd, hc => by
    rw [rv, hv]
    have e1 : 3 ^ (n + 1) = 3 * 3 ^ n := by rw [Nat.pow_succ, Nat.mul_comm]
    have p0 : 0 < 3 ^ n := Nat.pow_pos (by decide)
    by_cases q : c < 3
    · rw [uc_0 q]
      refine ⟨fun h => absurd h pre_cn, fun h => ?_⟩
      rw [e1] at h
      omega
    · rw [uc_s q, pre_cc, uc_pre (n := n) (c := c / 3) (fun j j0 j1 => hd j j0 (by omega)) (by omega), e1, Nat.mod_mul]
      have h0 := hd n (by omega) (by omega)
      refine ⟨fun h => ⟨by omega, ?_⟩, fun h => ?_⟩
      · obtain ⟨h1, h2, h3⟩ := h
        rw [← h3, h1]
        omega
      · obtain ⟨h1, h2⟩ := h
        have h3 : 3 ^ n ≤ c / 3 := by omega
        generalize c / 3 % 3 ^ n = w at h2 ⊢
        have hv0 : d n = ((c % 3 : Nat) : Int) := by omega
        exact ⟨hv0, h3, by omega⟩
theorem uc_len : ∀ {n c : Nat}, (uc c).length ≤ n ↔ c < 3 ^ (n + 1)
  | 0, c => by
    by_cases q : c < 3
    · rw [uc_0 q]
      exact ⟨fun _ => q, fun _ => Nat.le_refl _⟩
    · rw [uc_s q]
      exact ⟨fun h => absurd h (Nat.not_succ_le_zero _), fun h => absurd h q⟩
  | n + 1, c => by
    have e1 : 3 ^ (n + 1 + 1) = 3 * 3 ^ (n + 1) := by rw [Nat.pow_succ, Nat.mul_comm]
    have p0 : 0 < 3 ^ (n + 1) := Nat.pow_pos (by decide)
    by_cases q : c < 3
    · rw [uc_0 q]
      exact ⟨fun _ => by omega, fun _ => Nat.zero_le _⟩
    · rw [uc_s q, List.length_cons, Nat.succ_le_succ_iff, uc_len (n := n) (c := c / 3)]
      omega
theorem uc_take {c : Nat} (h : 1 ≤ c) : ∀ {n : Nat}, 3 ^ n ≤ c → (uc c).take n = uc (3 ^ n + c % 3 ^ n) := by
  intro n
  induction n generalizing c with
  | zero =>
    intro _
    rw [Nat.pow_zero, Nat.mod_one, uc_0 (k := 1 + 0) (by omega)]
    rfl
  | succ n ih =>
    intro hc
    have e1 : 3 ^ (n + 1) = 3 * 3 ^ n := by rw [Nat.pow_succ, Nat.mul_comm]
    have p0 : 0 < 3 ^ n := Nat.pow_pos (by decide)
    rw [uc_s (by omega), List.take_succ_cons, ih (by omega) (by omega), e1, Nat.mod_mul, ← uc_c (k := 3 ^ n + c / 3 % 3 ^ n) (s := c % 3) (by omega) (by omega)]
    congr 1
    omega
