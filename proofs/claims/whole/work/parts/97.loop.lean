set_option maxHeartbeats 4000000 in
theorem jpure (L : Nat) (xs : Nat → Int32) (hL : L ≤ 2048) : ∃ x, iter (f_L_law_L18 L xs jM0 0 62) 5000 (jM0, 0) = some x := by
  have key : Ret (iter (f_L_law_L18 L xs jM0 0 62) 5000 (jM0, 0)) (fun _ => True) := by
    refine Ret.it (fun S : jM × Int => jInv S.1 ∧ 0 ≤ S.2 ∧ S.2 ≤ L) (fun S => (2050 - S.2).toNat) ?_ 5000 (jM0, 0) ⟨jInv_0, by show (0 : Int) ≤ 0; decide, by show (0 : Int) ≤ L; omega⟩ (by show (2050 - 0 : Int).toNat < 5000; decide)
    rintro ⟨M, i⟩ ⟨h, i0, i1⟩
    dsimp only at h i0 i1
    unfold f_L_law_L18
    dsimp +instances only
    have xr : ∀ k : Nat, -2147483648 ≤ (xs k).toInt ∧ (xs k).toInt < 2147483648 := fun k => ⟨Int32.le_toInt _, Int32.toInt_lt _⟩
    rw [w32_id (x := (L : Int) - 4) (by omega) (by omega), w32_id (x := i) (by omega) (by omega), w32_id (x := i + 1) (by omega) (by omega), w32_id (x := i + 2) (by omega) (by omega), w32_id (x := i + 3) (by omega) (by omega)]
    refine Ret.i (fun c => Rr trivial) (fun c => Ret.g ⟨i0, by omega⟩ ?_)
    have next : ∀ M', jInv M' → Ret (f_L_law_1093 L xs M' 0 62 i) (fun r => (∀ t, r = .inl t → ((jInv t.1 ∧ 0 ≤ t.2 ∧ t.2 ≤ L) ∧ (2050 - t.2).toNat < (2050 - i).toNat)) ∧ (∀ x, r = .inr x → True)) := fun M' h' => Rl ⟨⟨h', by show 0 ≤ i + 4; omega, by show i + 4 ≤ L; omega⟩, by show (2050 - (i + 4)).toNat < (2050 - i).toNat; omega⟩
    have g1 : 0 ≤ i + 1 ∧ i + 1 < (L : Int) := by omega
    have g2 : 0 ≤ i + 2 ∧ i + 2 < (L : Int) := by omega
    have g3 : 0 ≤ i + 3 ∧ i + 3 < (L : Int) := by omega
    generalize w32 (iand ((xs i.toNat).toInt) 31) = op
    refine Ret.i (fun _ => Ret.g g1 (Ret.bb (k_feed h (xr _).1 (xr _).2) (fun s hs => Ret.g g1 (Ret.bb hs (fun t ht => Ret.g ht.1 (next _ ht.2)))))) (fun _ => ?_)
    refine Ret.i (fun _ => Ret.bb (k_stall h ) (fun s hs => Ret.bb hs (fun t ht => Ret.g ht.1 (next _ ht.2)))) (fun _ => ?_)
    refine Ret.i (fun _ => Ret.g g1 (Ret.bb (k_day h (xr _).1 (xr _).2) (fun s hs => Ret.g g1 (Ret.bb hs (fun t ht => Ret.g ht.1 (next _ ht.2)))))) (fun _ => ?_)
    refine Ret.i (fun _ => Ret.g g1 (Ret.bb (k_told h (xr _).1 (xr _).2) (fun s hs => Ret.g g1 (Ret.bb hs (fun t ht => Ret.g ht.1 (next _ ht.2)))))) (fun _ => ?_)
    refine Ret.i (fun _ => Ret.g g1 (Ret.bb (k_sign h (xr _).1 (xr _).2) (fun s hs => Ret.g g1 (Ret.bb hs (fun t ht => Ret.g ht.1 (next _ ht.2)))))) (fun _ => ?_)
    refine Ret.i (fun _ => Ret.bb (k_row h ) (fun s hs => Ret.bb hs (fun t ht => Ret.g ht.1 (next _ ht.2)))) (fun _ => ?_)
    refine Ret.i (fun _ => Ret.g g1 (Ret.g g2 (Ret.bb (k_of h (xr _).1 (xr _).2 (xr _).1 (xr _).2) (fun s hs => Ret.g g1 (Ret.g g2 (Ret.bb hs (fun t ht => Ret.g ht (next M h)))))))) (fun _ => ?_)
    refine Ret.i (fun _ => Ret.g g1 (Ret.g g2 (Ret.bb (k_player h (xr _).1 (xr _).2 (xr _).1 (xr _).2) (fun s hs => Ret.g g1 (Ret.g g2 (Ret.bb hs (fun t ht => Ret.g ht.1 (next _ ht.2)))))))) (fun _ => ?_)
    refine Ret.i (fun _ => Ret.g g1 (Ret.bb (k_own h (xr _).1 (xr _).2) (fun s hs => Ret.g g1 (Ret.bb hs (fun t ht => Ret.g ht.1 (next _ ht.2)))))) (fun _ => ?_)
    refine Ret.i (fun _ => Ret.g g1 (Ret.g g2 (Ret.bb (k_waits h (xr _).1 (xr _).2 (xr _).1 (xr _).2) (fun s hs => Ret.g g1 (Ret.g g2 (Ret.bb hs (fun t ht => Ret.g ht.1 (next _ ht.2)))))))) (fun _ => ?_)
    refine Ret.i (fun _ => Ret.g g1 (Ret.g g2 (Ret.g g3 (Ret.bb (k_odds h (xr _).1 (xr _).2 (xr _).1 (xr _).2 (xr _).1 (xr _).2) (fun s hs => Ret.g g1 (Ret.g g2 (Ret.g g3 (Ret.bb hs (fun t ht => Ret.g ht.1 (next _ ht.2)))))))))) (fun _ => ?_)
    refine Ret.i (fun _ => Ret.g g1 (Ret.g g2 (Ret.g g3 (Ret.bb (k_lasts h (xr _).1 (xr _).2 (xr _).1 (xr _).2 (xr _).1 (xr _).2) (fun s hs => Ret.g g1 (Ret.g g2 (Ret.g g3 (Ret.bb hs (fun t ht => Ret.g ht.1 (next _ ht.2)))))))))) (fun _ => ?_)
    refine Ret.i (fun _ => Ret.g g1 (Ret.g g2 (Ret.g g3 (Ret.bb (k_half h (xr _).1 (xr _).2 (xr _).1 (xr _).2 (xr _).1 (xr _).2) (fun s hs => Ret.g g1 (Ret.g g2 (Ret.g g3 (Ret.bb hs (fun t ht => Ret.g ht.1 (next _ ht.2)))))))))) (fun _ => ?_)
    refine Ret.i (fun _ => Ret.g g1 (Ret.g g2 (Ret.g g3 (Ret.bb (k_worth h (xr _).1 (xr _).2 (xr _).1 (xr _).2 (xr _).1 (xr _).2) (fun s hs => Ret.g g1 (Ret.g g2 (Ret.g g3 (Ret.bb hs (fun t ht => Ret.g ht.1 (next _ ht.2)))))))))) (fun _ => ?_)
    refine Ret.i (fun _ => Ret.g g1 (Ret.g g2 (Ret.g g3 (Ret.bb (k_best h (xr _).1 (xr _).2 (xr _).1 (xr _).2 (xr _).1 (xr _).2) (fun s hs => Ret.g g1 (Ret.g g2 (Ret.g g3 (Ret.bb hs (fun t ht => Ret.g ht.1 (next _ ht.2)))))))))) (fun _ => ?_)
    refine Ret.i (fun _ => Ret.g g1 (Ret.g g2 (Ret.g g3 (Ret.bb (k_ring h (xr _).1 (xr _).2 (xr _).1 (xr _).2 (xr _).1 (xr _).2) (fun s hs => Ret.g g1 (Ret.g g2 (Ret.g g3 (Ret.bb hs (fun t ht => Ret.g ht.1 (next _ ht.2)))))))))) (fun _ => ?_)
    refine Ret.i (fun _ => Ret.g g1 (Ret.g g2 (Ret.g g3 (Ret.bb (k_pick h (xr _).1 (xr _).2 (xr _).1 (xr _).2 (xr _).1 (xr _).2) (fun s hs => Ret.g g1 (Ret.g g2 (Ret.g g3 (Ret.bb hs (fun t ht => Ret.g ht.1 (next _ ht.2)))))))))) (fun _ => ?_)
    refine Ret.i (fun _ => Ret.g g1 (Ret.g g2 (Ret.bb (k_fair h (xr _).1 (xr _).2 (xr _).1 (xr _).2) (fun s hs => Ret.g g1 (Ret.g g2 (Ret.bb hs (fun t ht => Ret.g ht.1 (next _ ht.2)))))))) (fun _ => ?_)
    refine Ret.i (fun _ => Ret.g g1 (Ret.g g2 (Ret.g g3 (Ret.bb (k_within h (xr _).1 (xr _).2 (xr _).1 (xr _).2 (xr _).1 (xr _).2) (fun s hs => Ret.g g1 (Ret.g g2 (Ret.g g3 (Ret.bb hs (fun t ht => Ret.g ht.1 (next _ ht.2)))))))))) (fun _ => ?_)
    refine Ret.i (fun _ => Ret.g g1 (Ret.g g2 (Ret.g g3 (Ret.bb (k_often h (xr _).1 (xr _).2 (xr _).1 (xr _).2 (xr _).1 (xr _).2) (fun s hs => Ret.g g1 (Ret.g g2 (Ret.g g3 (Ret.bb hs (fun t ht => Ret.g ht.1 (next _ ht.2)))))))))) (fun _ => ?_)
    refine Ret.i (fun _ => Ret.g g1 (Ret.bb (k_free h (xr _).1 (xr _).2) (fun s hs => Ret.g g1 (Ret.bb hs (fun t ht => Ret.g ht.1 (next _ ht.2)))))) (fun _ => ?_)
    refine Ret.i (fun _ => Ret.g g1 (Ret.bb (k_toss h (xr _).1 (xr _).2) (fun s hs => Ret.g g1 (Ret.bb hs (fun t ht => Ret.g ht.1 (next _ ht.2)))))) (fun _ => ?_)
    refine Ret.i (fun _ => Ret.g g1 (Ret.bb (k_came h (xr _).1 (xr _).2) (fun s hs => Ret.g g1 (Ret.bb hs (fun t ht => Ret.g ht (next M h)))))) (fun _ => ?_)
    refine Ret.i (fun _ => Ret.g g1 (Ret.bb (k_ends h (xr _).1 (xr _).2) (fun s hs => Ret.g g1 (Ret.bb hs (fun t ht => Ret.g ht (next M h)))))) (fun _ => ?_)
    refine Ret.i (fun _ => Ret.bb (k_ahead h ) (fun s hs => Ret.bb hs (fun t ht => Ret.g ht (next M h)))) (fun _ => ?_)
    refine Ret.i (fun _ => Ret.g g1 (Ret.g g2 (Ret.g g3 (Ret.bb (k_act h (xr _).1 (xr _).2 (xr _).1 (xr _).2) (fun s hs => Ret.g g1 (Ret.g g2 (Ret.g g3 (Ret.bb hs (fun t ht => Ret.g ht.1 (next _ ht.2)))))))))) (fun _ => ?_)
    refine Ret.i (fun _ => Ret.g g1 (Ret.bb (k_trace h (xr _).1 (xr _).2) (fun s hs => Ret.g g1 (Ret.bb hs (fun t ht => Ret.g ht (next M h)))))) (fun _ => ?_)
    refine Ret.i (fun _ => Ret.g g1 (Ret.g g2 (Ret.bb (k_as h (xr _).1 (xr _).2 (xr _).1 (xr _).2) (fun s hs => Ret.g g1 (Ret.g g2 (Ret.bb hs (fun t ht => Ret.g ht (next M h)))))))) (fun _ => ?_)
    refine Ret.i (fun _ => Ret.bb (k_image h ) (fun s hs => Ret.bb hs (fun t ht => Ret.g ht.1 (next _ ht.2)))) (fun _ => ?_)
    refine Ret.i (fun _ => Ret.bb (k_undo h ) (fun s hs => Ret.bb hs (fun t ht => Ret.g ht.1 (next _ ht.2)))) (fun _ => ?_)
    refine Ret.i (fun _ => Ret.g g1 (Ret.bb (k_count h ) (fun s hs => Ret.g g1 (Ret.bb hs (fun t ht => Ret.g ht (next M h)))))) (fun _ => ?_)
    exact next M h
  obtain ⟨x, hx, -⟩ := key
  exact ⟨x, hx⟩
