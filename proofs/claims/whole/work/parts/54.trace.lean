theorem jp_60_0' : jpt 60 0 = 61 := rfl
theorem k_trace {M : jM} (h : jInv M) {i : Int} (n0 : -2147483648 ≤ i) (n1 : i < 2147483648) : Ret (f_X9_trace M 0 i) (fun a => Ret (f_X10_trace M 62 i) (fun b => w32 a = w32 b)) := by
  obtain ⟨g1, g2, g3, g4⟩ := h.2.2.2.1
  have ref : ∀ v : Int, v = (if 0 ≤ i ∧ i < M 60 1 ∧ i < 20 then M 61 i else -1) → Ret (f_X10_trace M 62 i) (fun b => w32 v = w32 b) := by
    intro v hv
    have part : ∀ m : Int, (m = 20 ∧ 20 ≤ M 60 1 ∨ m = M 60 1 ∧ M 60 1 < 20) → Ret (f_X10_trace_20 M 62 i i 0 m) (fun b => w32 v = w32 b) := by
      intro m hm
      unfold f_X10_trace_20
      rw [r_in M n0 n1 (by decide) (by decide) (by omega) (by omega), jp_62_18, w32_id n0 n1]
      by_cases c : 0 ≤ i ∧ i ≤ m - 1
      · rw [if_pos c]
        refine Ret.b ⟨1, rfl, Ret.f w32_1n (Ret.g ⟨by omega, by omega⟩ (Ret.s ?_))⟩
        rw [hv, if_pos ⟨by omega, by omega, by omega⟩, g4 i (by omega) (by omega) (by omega)]
      · rw [if_neg c]
        refine Ret.b ⟨0, rfl, Ret.t w32_0 (Ret.s ?_)⟩
        rw [hv, if_neg (by omega)]
    unfold f_X10_trace
    rw [← g1, w32_id (x := M 60 1) (by omega) (by omega)]
    exact Ret.i (fun c => part 20 (Or.inl ⟨rfl, c⟩)) (fun c => part _ (Or.inr ⟨rfl, by omega⟩))
  unfold f_X9_trace f_X9_trace_21
  rw [jp_0_9, jp_60_0, w32_id n0 n1, w32_id (x := M 60 1) (by omega) (by omega)]
  refine Ret.i (fun c => Ret.s (ref _ (by rw [if_neg (by omega)]))) (fun c => Ret.i (fun c2 => Ret.s (ref _ (by rw [if_neg (by omega)]))) (fun c2 => Ret.i (fun c3 => Ret.g ⟨by omega, c3⟩ (Ret.s (ref _ (by rw [if_pos ⟨by omega, by omega, c3⟩])))) (fun c3 => Ret.s (ref _ (by rw [if_neg (by omega)])))))
