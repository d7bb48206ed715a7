/-! the invariant between the class's part (things at T) and the reference's part (its row of numbers A) -/
def RTape (M : jM) (T A : Int) : Prop := M T 1 = M A 5 ∧ 0 ≤ M A 5 ∧ M A 5 ≤ 100 ∧ ∀ i, 0 ≤ i → i < M A 5 → M (T + 1) i = M A (132 + i) ∧ 0 ≤ M A (132 + i) ∧ M A (132 + i) ≤ 127
def RNums (M : jM) (T A : Int) : Prop := M T 3 = M A 2 ∧ 0 ≤ M A 2 ∧ M A 2 ≤ 5 ∧ M T 4 = M A 7 ∧ 0 ≤ M A 7 ∧ M A 7 ≤ 9 ∧ M A 8 = 0
def RelLn (M : jM) (ln A base sz : Int) : Prop := Ln M ln (fun i => M A (base + i)) sz
def RStrip (M : jM) (T A : Int) : Prop := RelLn M (T + 5) A 66 (M A 3) ∧ M A 3 ≤ 6
def RRows (M : jM) (T A : Int) : Prop := M T 7 = M A 0 ∧ 0 ≤ M A 0 ∧ M A 0 ≤ 6 ∧ ∀ r, 0 ≤ r → r < M A 0 → RelLn M (T + 7 + r) A (10 + 6 * r) (M A (58 + r)) ∧ 1 ≤ M A (58 + r) ∧ M A (58 + r) ≤ 6
def RThrown (M : jM) (T A : Int) : Prop := RelLn M (T + 20) A 72 (M A 4)
def RPlay (M : jM) (T A : Int) : Prop := M T 11 = M A 1 ∧ 0 ≤ M A 1 ∧ M A 1 ≤ 4 ∧ (∀ p, 0 ≤ p → p < M A 1 → M (T + 13) p = M A (96 + p) ∧ 0 ≤ M A (96 + p) ∧ M A (96 + p) ≤ 6 ∧ M (T + 14) p = M A (100 + p) ∧ 0 ≤ M A (100 + p) ∧ M A (100 + p) ≤ 9 ∧ RelLn M (T + 16 + p) A (104 + 6 * p) (M A (128 + p)) ∧ M A (128 + p) ≤ 6) ∧ ∀ p, M A 1 ≤ p → p < 4 → M (T + 16 + p) 0 = 0 ∧ M (T + 16 + p) 1 = 0
/-- what the reference's steps come to: SIGNS g, DAY dy, SIGN sg -/
def evS (g dy sg : Int) : List Int → List Bool → Int → Option Int
  | [], _, sum => some sum
  | s :: r, st, sum =>
    if 0 ≤ s then
      (if st.length < 64 ∧ s % 8 < 3 then
        evS g dy sg r ((let x := if s % 8 = 0 then sg else if s % 8 = 1 then g else dy
          if s / 8 % 4 = 0 then decide (x < s / 32) else if s / 8 % 4 = 1 then decide (x = s / 32) else decide (s / 32 < x)) :: st) sum
      else none)
    else if s = -1 then (match st with
      | b :: t => evS g dy sg r ((!b) :: t) sum
      | [] => none)
    else if -10 < s then (match st with
      | b :: a :: t => evS g dy sg r ((if s = -2 then a && b else a || b) :: t) sum
      | _ => none)
    else (match st with
      | [b] => evS g dy sg r [] (if b then sum + (-10 - s) else sum)
      | _ => none)
def stepsOf (M : jM) (A h : Int) : List Int := (List.range (M A (247 + h)).toNat).map (fun i : Nat => M A (252 + 140 * h + (i : Int)))
def placeOf (g sg dy : Int) : Int := ((g - 2) * 3 + sg) * 10 + dy
def loadSum (M : jM) (H g sg dy : Int) : Nat → Int
  | 0 => 0
  | n + 1 => loadSum M H g sg dy n + (if land (lshr (M (H + 2) n) (placeOf g sg dy)) 1 = 0 then 0 else M (H + 1) n)
def StallOK (M : jM) (H A : Int) : Prop :=
  (M A 6 = -1 ∧ M H 0 = 2 ∧ M H 1 = 1 ∧ M H 2 = 10 ∧ M H 3 = 0) ∨
  (0 ≤ M A 6 ∧ M A 6 < M A 2 ∧ M H 0 = (if 2 < M A (232 + M A 6) then 3 else 2) ∧ 0 ≤ M A (232 + M A 6) ∧ M A (232 + M A 6) ≤ 99 ∧
    M H 1 = M A (237 + M A 6) ∧ 0 ≤ M H 1 ∧ M H 1 ≤ 99 ∧ M H 2 = M A (242 + M A 6) ∧ 0 ≤ M H 2 ∧ M H 2 ≤ 99 ∧
    0 ≤ M H 3 ∧ M H 3 ≤ 10 ∧ (∀ i, 0 ≤ i → i < M H 3 → 0 ≤ M (H + 1) i ∧ M (H + 1) i ≤ 99) ∧ 0 ≤ M A (247 + M A 6) ∧ M A (247 + M A 6) ≤ 140 ∧
    (∀ i, 0 ≤ i → i < M A (247 + M A 6) → -2147483648 ≤ M A (252 + 140 * M A 6 + i) ∧ M A (252 + 140 * M A 6 + i) < 2147483648) ∧
    ∀ sg dy, 0 ≤ sg → sg ≤ 2 → 0 ≤ dy → dy ≤ 9 → evS (M H 0) dy sg (stepsOf M A (M A 6)) [] 1 = some (1 + loadSum M H (M H 0) sg dy (M H 3).toNat))
def RelT (M : jM) (T A : Int) : Prop := RTape M T A ∧ RNums M T A ∧ RStrip M T A ∧ RRows M T A ∧ RThrown M T A ∧ RPlay M T A ∧ StallOK M (T + 2) A
def RActs (M : jM) : Prop := M 60 1 = M 62 19 ∧ 0 ≤ M 60 1 ∧ M 60 1 ≤ 1000 ∧ ∀ i, 0 ≤ i → i < M 60 1 → i < 20 → M 61 i = M 71 i
def RPtrs (M : jM) : Prop := ((M 53 4 = 58 ∧ M 53 5 = 59) ∨ (M 53 4 = 59 ∧ M 53 5 = 58)) ∧ ((M 62 15 = 68 ∧ M 62 16 = 69) ∨ (M 62 15 = 69 ∧ M 62 16 = 68))
def jInv (M : jM) : Prop := RelT M 1 63 ∧ M 0 2 = M 62 3 ∧ (M 0 2 = 0 ∨ (M 0 2 = 1 ∧ RelT M 22 64)) ∧ RActs M ∧ RPtrs M
theorem RelT_0 {T A : Int} (hT : T = 1 ∧ A = 63) : RelT jM0 T A := by
  obtain ⟨rfl, rfl⟩ := hT
  refine ⟨⟨rfl, by decide, by decide, fun i h0 h1 => ?_⟩, ⟨rfl, by decide, by decide, rfl, by decide, by decide, rfl⟩, ⟨⟨by decide, by decide, rfl, rfl, fun i h0 h1 => ?_⟩, by decide⟩, ⟨rfl, by decide, by decide, fun i h0 h1 => ?_⟩, ⟨by decide, by decide, rfl, rfl, fun i h0 h1 => ?_⟩, ⟨rfl, by decide, by decide, fun i h0 h1 => ?_, fun p h0 h1 => ?_⟩, Or.inl ⟨rfl, rfl, rfl, rfl, rfl⟩⟩
  · have h1 : i < 0 := h1
    omega
  · have h1 : i < 0 := h1
    omega
  · have h1 : i < 0 := h1
    omega
  · have h1 : i < 0 := h1
    omega
  · have h1 : i < 0 := h1
    omega
  · have h0 : 0 ≤ p := h0
    have hp : p = 0 ∨ p = 1 ∨ p = 2 ∨ p = 3 := by omega
    rcases hp with rfl | rfl | rfl | rfl <;> exact ⟨rfl, rfl⟩
theorem jInv_0 : jInv jM0 := ⟨RelT_0 ⟨rfl, rfl⟩, rfl, Or.inl rfl, ⟨rfl, by decide, by decide, fun i h0 h1 => by have h1 : i < 0 := h1; omega⟩, Or.inl ⟨rfl, rfl⟩, Or.inl ⟨rfl, rfl⟩⟩
