theorem s_lengthen {M : jM} {t : Int} {d : Int → Int} {n s most : Int} (h : Ln M t d n) (hm : n ≤ most) (hm2 : most ≤ 24) (s0 : -1 ≤ s) (s1 : s ≤ 2) :
    Ret (f_X9_lengthen M t s most) (fun a => (∀ x y, ¬ (x = t ∧ (y = 0 ∨ y = 1)) → a.2 x y = M x y) ∧ ((s = -1 ∧ a.1 = 0 ∧ a.2 t 0 = 0 ∧ a.2 t 1 = 0) ∨ (0 ≤ s ∧ n < most ∧ a.1 = n + 1 ∧ a.2 t 0 = n + 1 ∧ a.2 t 1 = pk4 d n.toNat * 4 + s) ∨ (0 ≤ s ∧ n = most ∧ a.1 = -4 ∧ a.2 = M))) := by
  unfold f_X9_lengthen f_X3_add f_X3_zeros
  obtain ⟨b0, b1⟩ := h.bd
  have hn := h.1
  rw [h.2.2.1, w32_id (x := s) (by omega) (by omega), w32_id (x := n) (by omega) (by omega), w32_id (x := most) (by omega) (by omega)]
  refine Ret.i (fun c => Ret.i (fun c2 => ?_) (fun c2 => Ret.s ⟨fun x y _ => rfl, Or.inr (Or.inr ⟨c, by omega, rfl, rfl⟩)⟩)) (fun c => ?_)
  · obtain ⟨p0, p1⟩ := pk_bd (d := d) (n := n.toNat) (by omega) h.dn
    have e : lor (lshl (M t 1) 2) s = pk4 d n.toNat * 4 + s := by
      rw [h.2.2.2.1, lshl_e p0 (by decide) (by decide) (by show pk4 d n.toNat * 4 < _; omega)]
      exact lor_d p0 (by omega) (by omega) (by omega)
    rw [e]
    refine Ret.b (Ret.l (Ret.l (Ret.s (Ret.s ⟨fun x y hxy => ?_, Or.inr (Or.inl ⟨c, c2, ?_, ?_, ?_⟩)⟩))))
    · dsimp only
      rw [sto_ne (by omega), sto_ne (by omega)]
    · dsimp only
      rw [sto_eq rfl rfl, sto_ne (by omega), h.2.2.1]
    · dsimp only
      rw [sto_eq rfl rfl, sto_ne (by omega), h.2.2.1]
    · dsimp only
      rw [sto_ne (by omega), sto_eq rfl rfl]
  · refine Ret.b (Ret.l (Ret.l (Ret.s (Ret.s ⟨fun x y hxy => ?_, Or.inl ⟨by omega, rfl, ?_, ?_⟩⟩))))
    · dsimp only
      rw [sto_ne (by omega), sto_ne (by omega)]
    · dsimp only
      rw [sto_ne (by omega), sto_eq rfl rfl]
    · dsimp only
      rw [sto_eq rfl rfl]
/-- a line with one digit more -/
theorem Ln.more {M M' : jM} {t : Int} {d d' : Int → Int} {n s : Int} (h : Ln M t d n) (hn : n < 24) (s0 : 0 ≤ s) (s1 : s ≤ 2) (h0 : M' t 0 = n + 1) (h1 : M' t 1 = pk4 d n.toNat * 4 + s) (hd : ∀ i, 0 ≤ i → i < n → d' i = d i) (hs : d' n = s) : Ln M' t d' (n + 1) := by
  obtain ⟨a, b, c, e, f⟩ := h
  refine ⟨by omega, by omega, h0, ?_, fun i i0 i1 => ?_⟩
  · have e1 : (n + 1).toNat = n.toNat + 1 := by omega
    rw [e1, h1]
    show _ = 4 * pk4 d' n.toNat + d' ((n.toNat : Nat) : Int)
    rw [Int.toNat_of_nonneg a, hs, pk4_cong (fun i hi => hd i (by omega) (by omega))]
    omega
  · by_cases q : i = n
    · rw [q, hs]; exact ⟨s0, s1⟩
    · rw [hd i i0 (by omega)]; exact f i i0 (by omega)
theorem Ln.zero {M : jM} {t : Int} {d : Int → Int} (h0 : M t 0 = 0) (h1 : M t 1 = 0) : Ln M t d 0 := ⟨by omega, by omega, h0, h1, fun i i0 i1 => by omega⟩
