section JH
variable {p : Program} {l : Launch} {e : Env} {R : Room} {s : State} {m : MethodId} {args : Array Value} {below : List Frame} {meth : Method} {c : Code} {H : Heap} {locs : List Loc} {cells slots : Nat} {Q : State → Prop}
variable {cc : ByteArray} {nL : Nat} {own : String} {w0 : Cond} {ret : Option FieldType} {pc : Nat} {ls : Array Slot} {rest : List Value} {G : jG} {M : jM}

theorem jcell_c {G : jG} {M : jM} {e : Int} {ci : Nat} (h : jkd e = (ci, 0)) (hc : ci < 11) : jcell G M e = .inr (ci, jfl G M ci e) := by
  unfold jcell
  rw [h]
  match ci, hc with
  | 0, _ => rfl
  | 1, _ => rfl
  | 2, _ => rfl
  | 3, _ => rfl
  | 4, _ => rfl
  | 5, _ => rfl
  | 6, _ => rfl
  | 7, _ => rfl
  | 8, _ => rfl
  | 9, _ => rfl
  | 10, _ => rfl
theorem jat_c {G : jG} {M : jM} {e : Int} {ci : Nat} (h : jkd e = (ci, 0)) (hc : ci < 11) : (jenc G M)[e.toNat]? = some (jad G e, .inr (ci, jfl G M ci e)) := by
  rw [jenc_at h (by omega), jcell_c h hc]
theorem jat_i {G : jG} {M : jM} {e : Int} {n : Nat} (h : jkd e = (11, n)) : (jenc G M)[e.toNat]? = some (jad G e, .inl (G.2.1.1, n, .inl (fun j => Int32.ofInt (M e j)))) := by
  rw [jenc_at h (by omega)]; unfold jcell; rw [h]; rfl
theorem jat_l {G : jG} {M : jM} {e : Int} {n : Nat} (h : jkd e = (12, n)) : (jenc G M)[e.toNat]? = some (jad G e, .inl (G.2.1.2.1, n, .inr (.inl (fun j => Int64.ofInt (M e j))))) := by
  rw [jenc_at h (by omega)]; unfold jcell; rw [h]; rfl
theorem jat_z {G : jG} {M : jM} {e : Int} {n : Nat} (h : jkd e = (13, n)) : (jenc G M)[e.toNat]? = some (jad G e, .inl (G.2.1.2.2.1, n, .inl (fun j => Int32.ofInt (M e j)))) := by
  rw [jenc_at h (by omega)]; unfold jcell; rw [h]; rfl
theorem jat_o {G : jG} {M : jM} {e : Int} {n : Nat} (h : jkd e = (14, n)) : (jenc G M)[e.toNat]? = some (jad G e, .inl (G.2.1.2.2.2, n, .inr (.inr (.inr (.inr (fun j => some (jad G (jpt e j)))))))) := by
  rw [jenc_at h (by omega)]; unfold jcell; rw [h]; rfl
theorem jcl_ok {ci : Nat} {q : vw_C} (h : jcl[ci]? = some q) : ci < 11 := (List.getElem?_eq_some_iff.mp h).1
theorem j_get (C : jCx p s m args meth c cc nL own w0 ret)(hO : jOk G M s H locs) {ci k N idx : Nat} {CN : String} {T : u_T} {a : Int} {v : Value} (he : jkd a = (ci, 0)) (hc : jcl[ci]? = some (CN, T, N)) (hin : ∀ w ∈ u_ws CN T N, w ∈ wsL_law) (hk : k < N) (hlink : Cond.fieldLink own idx CN (T k).2.1 (T k).2.2.1 ∈ wsL_law) (hT1 : (T k).1 = CN) (hv : (jfl G M ci a)[k]? = some v) (hdg : decode cc pc = .ok (.getfield idx, 3)) (kk : W p l e R s m args below meth c H locs cells slots Q (F0 m (pc + 3) ls (v :: rest))) : W p l e R s m args below meth c H locs cells slots Q (F0 m pc ls (jR G a :: rest)) := va_get (ref := CN) C.1 C.2.1 C.2.2.2.2.1 (fun w h => jpcM (hin w h)) C.2.2.2.1 hO.2.1 hO.1 a.toNat (jat_c he (jcl_ok hc)) hc k hk (C.2.2.2.2.1 _ (jpcM hlink)) (by rw [hT1]; exact fun _ h => h) hv hdg kk
theorem j_put (C : jCx p s m args meth c cc nL own w0 ret)(hO : jOk G M s H locs) {ci k N idx : Nat} {CN : String} {T : u_T} {ty0 : Nat → FieldType} {a b x : Int} {v : Value} (he : jkd a = (ci, 0)) (hc : jcl[ci]? = some (CN, T, N)) (hin : ∀ w ∈ u_ws CN T N, w ∈ wsL_law) (hty : ∀ k, k < N → parseFieldDescriptor (T k).2.2.1 = some (ty0 k)) (hnm : ∀ a, a < N → ∀ b, b < N → a ≠ b → (T a).2.1 ≠ (T b).2.1) (hk : k < N) (hlink : Cond.fieldLink own idx CN (T k).2.1 (T k).2.2.1 ∈ wsL_law) (hT1 : (T k).1 = CN) (hfin : (T k).2.2.2 = false)
    (hn : narrow (ty0 k) v = v) (hfit : fits (ty0 k) v = true) (hl : k < (jfl G M ci a).length) (hset : (jfl G M ci a).set k v = jfl G (sto M a b x) ci a) (hdg : decode cc pc = .ok (.putfield idx, 3)) (kk : ∀ (H1 : Heap) (locs1 : List Loc), jOk G (sto M a b x) s H1 locs1 → W p l e R s m args below meth c H1 locs1 cells slots Q (F0 m (pc + 3) ls rest)) : W p l e R s m args below meth c H locs cells slots Q (F0 m pc ls (v :: jR G a :: rest)) := va_put (ref := CN) C.1 C.2.1 C.2.2.2.2.1 (fun w h => jpcM (hin w h)) ty0 hty hnm C.2.2.2.1 hO.2.1 hO.1 (jenc_D hO.2.2.1 M) hO.2.2.2.2 a.toNat (jat_c he (jcl_ok hc)) hc k hk (C.2.2.2.2.1 _ (jpcM hlink)) (by rw [hT1]; exact fun _ h => h) hfin (hty k hk) hn hfit hl hdg (fun H1 locs1 hP _ hS => kk H1 locs1 ⟨by
    rw [jenc_set (M' := sto M a b x) he (by have := jcl_ok hc; omega) (by rw [jcell_c he (jcl_ok hc), hset]) (fun j h => jcell_o j h)] at hP; exact hP, hO.2.1, hO.2.2.1, hO.2.2.2.1, hS⟩)
theorem j_iald (C : jCx p s m args meth c cc nL own w0 ret)(hO : jOk G M s H locs) {a i I : Int} {n : Nat} (he : jkd a = (11, n)) (hi : w32 i = I) (h0 : 0 ≤ I) (h1 : I < (n : Int)) (hdg : decode cc pc = .ok (.iaload, 1)) (kk : W p l e R s m args below meth c H locs cells slots Q (F0 m (pc + 1) ls (vI (M a I) :: rest))) : W p l e R s m args below meth c H locs cells slots Q (F0 m pc ls (vI i :: jR G a :: rest)) := by
  subst hi
  have hl : (w32 i).toNat < 2 ^ 31 := by have := w32_rng i; omega
  have e : (((Int32.ofInt i).toNatClampNeg : Nat) : Int) = w32 i := by rw [w32_cl]; omega
  refine va_iald C.1 C.2.1 hO.2.1 hO.1 a.toNat 0 (jat_i he) rfl (w32_in h0 h1) hdg ?_
  rw [e]
  exact kk
theorem j_lald (C : jCx p s m args meth c cc nL own w0 ret)(hO : jOk G M s H locs) {a i I : Int} {n : Nat} (he : jkd a = (12, n)) (hi : w32 i = I) (h0 : 0 ≤ I) (h1 : I < (n : Int)) (hdg : decode cc pc = .ok (.laload, 1)) (kk : W p l e R s m args below meth c H locs cells slots Q (F0 m (pc + 1) ls (vL (M a I) :: rest))) : W p l e R s m args below meth c H locs cells slots Q (F0 m pc ls (vI i :: jR G a :: rest)) := by
  subst hi
  have hl : (w32 i).toNat < 2 ^ 31 := by have := w32_rng i; omega
  have e : (((Int32.ofInt i).toNatClampNeg : Nat) : Int) = w32 i := by rw [w32_cl]; omega
  refine va_lald C.1 C.2.1 hO.2.1 hO.1 a.toNat 1 (jat_l he) rfl (w32_in h0 h1) hdg ?_
  rw [e]
  exact kk
theorem j_zald (C : jCx p s m args meth c cc nL own w0 ret)(hO : jOk G M s H locs) {a i I : Int} {n : Nat} (he : jkd a = (13, n)) (hi : w32 i = I) (h0 : 0 ≤ I) (h1 : I < (n : Int)) (hdg : decode cc pc = .ok (.baload, 1)) (kk : W p l e R s m args below meth c H locs cells slots Q (F0 m (pc + 1) ls (vI (M a I) :: rest))) : W p l e R s m args below meth c H locs cells slots Q (F0 m pc ls (vI i :: jR G a :: rest)) := by
  subst hi
  have hl : (w32 i).toNat < 2 ^ 31 := by have := w32_rng i; omega
  have e : (((Int32.ofInt i).toNatClampNeg : Nat) : Int) = w32 i := by rw [w32_cl]; omega
  refine va_zald C.1 C.2.1 hO.2.1 hO.1 a.toNat 2 (jat_z he) rfl (w32_in h0 h1) hdg ?_
  rw [e]
  exact kk
theorem j_aald (C : jCx p s m args meth c cc nL own w0 ret)(hO : jOk G M s H locs) {a i I : Int} {n : Nat} (he : jkd a = (14, n)) (hi : w32 i = I) (h0 : 0 ≤ I) (h1 : I < (n : Int)) (hdg : decode cc pc = .ok (.aaload, 1)) (kk : W p l e R s m args below meth c H locs cells slots Q (F0 m (pc + 1) ls (jR G (jpt a I) :: rest))) : W p l e R s m args below meth c H locs cells slots Q (F0 m pc ls (vI i :: jR G a :: rest)) := by
  subst hi
  have hl : (w32 i).toNat < 2 ^ 31 := by have := w32_rng i; omega
  have e : (((Int32.ofInt i).toNatClampNeg : Nat) : Int) = w32 i := by rw [w32_cl]; omega
  refine va_aldq C.1 C.2.1 hO.2.1 hO.1 a.toNat 3 (jat_o he) rfl (w32_in h0 h1) hdg ?_
  rw [e]
  exact kk
theorem jst_i {G : jG} {M : jM} {a i x : Int} {n : Nat} (he : jkd a = (11, n)) (h0 : 0 ≤ w32 i) : (jenc G M).set a.toNat (jad G a, .inl (G.2.1.1, n, .inl (upd (fun j => Int32.ofInt (M a j)) (Int32.ofInt i).toNatClampNeg (Int32.ofInt x)))) = jenc G (sto M a (w32 i) x) := by
  refine jenc_set he (by omega) ?_ (fun j h => jcell_o j h)
  unfold jcell
  rw [he]
  show _ = Sum.inl (G.2.1.1, n, Sum.inl (fun j : Nat => Int32.ofInt (sto M a (w32 i) x a (j : Int))))
  congr 4
  funext j
  unfold upd sto
  rw [w32_cl]
  by_cases h : j = (w32 i).toNat
  · rw [if_pos h, if_pos ⟨rfl, by omega⟩]
  · rw [if_neg h, if_neg (by omega)]
theorem jst_z {G : jG} {M : jM} {a i x : Int} {n : Nat} (he : jkd a = (13, n)) (h0 : 0 ≤ w32 i) (hz : x = 0 ∨ x = 1) : (jenc G M).set a.toNat (jad G a, .inl (G.2.1.2.2.1, n, .inl (upd (fun j => Int32.ofInt (M a j)) (Int32.ofInt i).toNatClampNeg (vp_nar .boolean (Int32.ofInt x))))) = jenc G (sto M a (w32 i) x) := by
  refine jenc_set he (by omega) ?_ (fun j h => jcell_o j h)
  have hx : vp_nar .boolean (Int32.ofInt x) = Int32.ofInt x := by rcases hz with h | h <;> subst h <;> rfl
  rw [hx]
  unfold jcell
  rw [he]
  show _ = Sum.inl (G.2.1.2.2.1, n, Sum.inl (fun j : Nat => Int32.ofInt (sto M a (w32 i) x a (j : Int))))
  congr 4
  funext j
  unfold upd sto
  rw [w32_cl]
  by_cases h : j = (w32 i).toNat
  · rw [if_pos h, if_pos ⟨rfl, by omega⟩]
  · rw [if_neg h, if_neg (by omega)]
theorem jst_l {G : jG} {M : jM} {a i x : Int} {n : Nat} (he : jkd a = (12, n)) (h0 : 0 ≤ w32 i) : (jenc G M).set a.toNat (jad G a, .inl (G.2.1.2.1, n, .inr (.inl (vp_updL (fun j => Int64.ofInt (M a j)) (Int32.ofInt i).toNatClampNeg (Int64.ofInt x))))) = jenc G (sto M a (w32 i) x) := by
  refine jenc_set he (by omega) ?_ (fun j h => jcell_o j h)
  unfold jcell
  rw [he]
  show _ = Sum.inl (G.2.1.2.1, n, Sum.inr (Sum.inl (fun j : Nat => Int64.ofInt (sto M a (w32 i) x a (j : Int)))))
  congr 5
  funext j
  unfold vp_updL sto
  rw [w32_cl]
  by_cases h : j = (w32 i).toNat
  · rw [if_pos h, if_pos ⟨rfl, by omega⟩]
  · rw [if_neg h, if_neg (by omega)]
theorem j_iast (C : jCx p s m args meth c cc nL own w0 ret)(hO : jOk G M s H locs) {a i I x : Int} {n : Nat} (he : jkd a = (11, n)) (hi : w32 i = I) (h0 : 0 ≤ I) (h1 : I < (n : Int)) (hdg : decode cc pc = .ok (.iastore, 1)) (kk : ∀ (H1 : Heap) (locs1 : List Loc), jOk G (sto M a I x) s H1 locs1 → W p l e R s m args below meth c H1 locs1 cells slots Q (F0 m (pc + 1) ls rest)) : W p l e R s m args below meth c H locs cells slots Q (F0 m pc ls (vI x :: vI i :: jR G a :: rest)) := by
  subst hi
  refine va_iast C.1 C.2.1 hO.2.1 hO.1 (jenc_D hO.2.2.1 M) hO.2.2.2.2 a.toNat 0 (jat_i he) rfl (w32_in h0 h1) hdg (fun H1 locs1 hP _ hS => kk H1 locs1 ⟨?_, hO.2.1, hO.2.2.1, hO.2.2.2.1, hS⟩)
  rw [jst_i he h0] at hP
  exact hP
theorem j_last (C : jCx p s m args meth c cc nL own w0 ret)(hO : jOk G M s H locs) {a i I x : Int} {n : Nat} (he : jkd a = (12, n)) (hi : w32 i = I) (h0 : 0 ≤ I) (h1 : I < (n : Int)) (hdg : decode cc pc = .ok (.lastore, 1)) (kk : ∀ (H1 : Heap) (locs1 : List Loc), jOk G (sto M a I x) s H1 locs1 → W p l e R s m args below meth c H1 locs1 cells slots Q (F0 m (pc + 1) ls rest)) : W p l e R s m args below meth c H locs cells slots Q (F0 m pc ls (vL x :: vI i :: jR G a :: rest)) := by
  subst hi
  refine va_last C.1 C.2.1 hO.2.1 hO.1 (jenc_D hO.2.2.1 M) hO.2.2.2.2 a.toNat 1 (jat_l he) rfl (w32_in h0 h1) hdg (fun H1 locs1 hP _ hS => kk H1 locs1 ⟨?_, hO.2.1, hO.2.2.1, hO.2.2.2.1, hS⟩)
  rw [jst_l he h0] at hP
  exact hP
theorem j_zast (C : jCx p s m args meth c cc nL own w0 ret)(hO : jOk G M s H locs) {a i I x : Int} {n : Nat} (he : jkd a = (13, n)) (hi : w32 i = I) (h0 : 0 ≤ I) (h1 : I < (n : Int)) (hz : x = 0 ∨ x = 1) (hdg : decode cc pc = .ok (.bastore, 1)) (kk : ∀ (H1 : Heap) (locs1 : List Loc), jOk G (sto M a I x) s H1 locs1 → W p l e R s m args below meth c H1 locs1 cells slots Q (F0 m (pc + 1) ls rest)) : W p l e R s m args below meth c H locs cells slots Q (F0 m pc ls (vI x :: vI i :: jR G a :: rest)) := by
  subst hi
  refine va_zast C.1 C.2.1 hO.2.1 hO.1 (jenc_D hO.2.2.1 M) hO.2.2.2.2 a.toNat 2 (jat_z he) rfl (w32_in h0 h1) hdg (fun H1 locs1 hP _ hS => kk H1 locs1 ⟨?_, hO.2.1, hO.2.2.1, hO.2.2.2.1, hS⟩)
  rw [jst_z he h0 hz] at hP
  exact hP
theorem j_alen_i (C : jCx p s m args meth c cc nL own w0 ret)(hO : jOk G M s H locs) {a : Int} {n : Nat} (he : jkd a = (11, n)) (hdg : decode cc pc = .ok (.arraylength, 1)) (kk : W p l e R s m args below meth c H locs cells slots Q (F0 m (pc + 1) ls (vI (n : Int) :: rest))) : W p l e R s m args below meth c H locs cells slots Q (F0 m pc ls (jR G a :: rest)) := va_alen C.1 C.2.1 hO.2.1 hO.1 a.toNat 0 (jat_i he) rfl rfl hdg kk
theorem j_alen_l (C : jCx p s m args meth c cc nL own w0 ret)(hO : jOk G M s H locs) {a : Int} {n : Nat} (he : jkd a = (12, n)) (hdg : decode cc pc = .ok (.arraylength, 1)) (kk : W p l e R s m args below meth c H locs cells slots Q (F0 m (pc + 1) ls (vI (n : Int) :: rest))) : W p l e R s m args below meth c H locs cells slots Q (F0 m pc ls (jR G a :: rest)) := va_alen C.1 C.2.1 hO.2.1 hO.1 a.toNat 1 (jat_l he) rfl rfl hdg kk
theorem j_gets_above (C : jCx p s m args meth c cc nL own w0 ret)(hO : jOk G M s H locs) {idx : Nat} (hlink : Cond.fieldLink own idx "RowFirst" "ABOVE" "[I" ∈ wsL_law) (hdg : decode cc pc = .ok (.getstatic idx, 3)) (kk : W p l e R s m args below meth c H locs cells slots Q (F0 m (pc + 3) ls (.ref G.2.2.2.1.1 :: rest))) : W p l e R s m args below meth c H locs cells slots Q (F0 m pc ls rest) := va_gets C.1 C.2.1 hO.2.2.2.1.1 hO.2.2.2.2 C.2.2.2.1 (C.2.2.2.2.1 _ (jpcM hlink)) (fun _ h => h) hdg kk
theorem j_tab_above (C : jCx p s m args meth c cc nL own w0 ret)(hO : jOk G M s H locs) {i I : Int} (hi : w32 i = I) (h0 : 0 ≤ I) (h1 : I < 7) (hdg : decode cc pc = .ok (.iaload, 1)) (kk : W p l e R s m args below meth c H locs cells slots Q (F0 m (pc + 1) ls (vI (jabove I.toNat) :: rest))) : W p l e R s m args below meth c H locs cells slots Q (F0 m pc ls (vI i :: .ref G.2.2.2.1.1 :: rest)) := by
  subst hi
  exact va_ti C.1 C.2.1 hO.2.2.2.1.2.1 hO.2.2.2.2 (w32_in h0 h1) rfl hdg kk
theorem j_gets_bodies (C : jCx p s m args meth c cc nL own w0 ret)(hO : jOk G M s H locs) {idx : Nat} (hlink : Cond.fieldLink own idx "RowFirst$Actor" "BODIES" "[I" ∈ wsL_law) (hdg : decode cc pc = .ok (.getstatic idx, 3)) (kk : W p l e R s m args below meth c H locs cells slots Q (F0 m (pc + 3) ls (.ref G.2.2.2.1.2 :: rest))) : W p l e R s m args below meth c H locs cells slots Q (F0 m pc ls rest) := va_gets C.1 C.2.1 hO.2.2.2.1.2.2.1 hO.2.2.2.2 C.2.2.2.1 (C.2.2.2.2.1 _ (jpcM hlink)) (fun _ h => h) hdg kk
theorem j_tab_bodies (C : jCx p s m args meth c cc nL own w0 ret)(hO : jOk G M s H locs) {i I : Int} (hi : w32 i = I) (h0 : 0 ≤ I) (h1 : I < 21) (hdg : decode cc pc = .ok (.iaload, 1)) (kk : W p l e R s m args below meth c H locs cells slots Q (F0 m (pc + 1) ls (vI (jbodies I.toNat) :: rest))) : W p l e R s m args below meth c H locs cells slots Q (F0 m pc ls (vI i :: .ref G.2.2.2.1.2 :: rest)) := by
  subst hi
  exact va_ti C.1 C.2.1 hO.2.2.2.1.2.2.2.1 hO.2.2.2.2 (w32_in h0 h1) rfl hdg kk
theorem j_ifnull (C : jCx p s m args meth c cc nL own w0 ret) {a : Int} {off : Int} {tgt : Nat} (hdg : decode cc pc = .ok (.ifnull off, 3)) (ht : (pc : Int) + off = (tgt : Int)) (kt : a < 0 → W p l e R s m args below meth c H locs cells slots Q (F0 m tgt ls rest)) (kf : ¬ a < 0 → W p l e R s m args below meth c H locs cells slots Q (F0 m (pc + 3) ls rest)) : W p l e R s m args below meth c H locs cells slots Q (F0 m pc ls (jN G a :: rest)) := by
  by_cases h : a < 0
  · rw [jN_n h]; exact lv_ifnullN C.1 C.2.1 hdg ht (kt h)
  · rw [jN_p (by omega)]; exact lv_ifnull C.1 C.2.1 hdg (kf h)
theorem j_ifnonnull (C : jCx p s m args meth c cc nL own w0 ret) {a : Int} {off : Int} {tgt : Nat} (hdg : decode cc pc = .ok (.ifnonnull off, 3)) (ht : (pc : Int) + off = (tgt : Int)) (kt : ¬ a < 0 → W p l e R s m args below meth c H locs cells slots Q (F0 m tgt ls rest)) (kf : a < 0 → W p l e R s m args below meth c H locs cells slots Q (F0 m (pc + 3) ls rest)) : W p l e R s m args below meth c H locs cells slots Q (F0 m pc ls (jN G a :: rest)) := by
  by_cases h : a < 0
  · rw [jN_n h]; exact lv_ifnonnullN C.1 C.2.1 hdg (kf h)
  · rw [jN_p (by omega)]; exact lv_ifnonnull C.1 C.2.1 hdg ht (kt h)
theorem j_aloadN_n (C : jCx p s m args meth c cc nL own w0 ret) {k : Fin 4} {i : Nat} {a : Int} (hdg : decode cc pc = .ok (.aload_n k, 1)) (hi : (k : Nat) = i) (hl : ls[i]? = some (.val (jN G a))) (kk : W p l e R s m args below meth c H locs cells slots Q (F0 m (pc + 1) ls (jN G a :: rest))) : W p l e R s m args below meth c H locs cells slots Q (F0 m pc ls rest) := by
  by_cases h : a < 0
  · rw [jN_n h] at hl kk; exact lv_aload_nN C.1 C.2.1 hdg hi hl kk
  · rw [jN_p (by omega)] at hl kk; exact lv_aload_n C.1 C.2.1 hdg hi hl kk
theorem j_astoreN_n (C : jCx p s m args meth c cc nL own w0 ret) {k : Fin 4} {i : Nat} {n : Nat} {a : Int} {lv lv' : List (Nat × Value)} (hdg : decode cc pc = .ok (.astore_n k, 1)) (hi : (k : Nat) = i) (h : lv_has ls n lv) (hn : i < n) (hl : ∀ v : Value, v.category = 1 → (i, v) :: lv.filter (fun q => !(q.1 == i) && !(q.1 + 1 == i && q.2.category == 2)) = (i, v) :: lv') (kk : ∀ ls1 : Array Slot, lv_has ls1 n ((i, jN G a) :: lv') → W p l e R s m args below meth c H locs cells slots Q (F0 m (pc + 1) ls1 rest)) : W p l e R s m args below meth c H locs cells slots Q (F0 m pc ls (jN G a :: rest)) := by
  by_cases h2 : a < 0
  · rw [jN_n h2] at kk ⊢; exact lv_astore_nN C.1 C.2.1 hdg hi h hn (hl _ rfl) kk
  · rw [jN_p (by omega)] at kk ⊢; exact lv_astore_n C.1 C.2.1 hdg hi h hn (hl _ rfl) kk
theorem j_aloadN (C : jCx p s m args meth c cc nL own w0 ret) {i : Nat} {a : Int} (hdg : decode cc pc = .ok (.aload i, 2)) (hl : ls[i]? = some (.val (jN G a))) (kk : W p l e R s m args below meth c H locs cells slots Q (F0 m (pc + 2) ls (jN G a :: rest))) : W p l e R s m args below meth c H locs cells slots Q (F0 m pc ls rest) := by
  by_cases h : a < 0
  · rw [jN_n h] at hl kk; exact lv_aloadN C.1 C.2.1 hdg hl kk
  · rw [jN_p (by omega)] at hl kk; exact lv_aload C.1 C.2.1 hdg hl kk
theorem j_astoreN (C : jCx p s m args meth c cc nL own w0 ret) {i : Nat} {n : Nat} {a : Int} {lv lv' : List (Nat × Value)} (hdg : decode cc pc = .ok (.astore i, 2)) (h : lv_has ls n lv) (hn : i < n) (hl : ∀ v : Value, v.category = 1 → (i, v) :: lv.filter (fun q => !(q.1 == i) && !(q.1 + 1 == i && q.2.category == 2)) = (i, v) :: lv') (kk : ∀ ls1 : Array Slot, lv_has ls1 n ((i, jN G a) :: lv') → W p l e R s m args below meth c H locs cells slots Q (F0 m (pc + 2) ls1 rest)) : W p l e R s m args below meth c H locs cells slots Q (F0 m pc ls (jN G a :: rest)) := by
  by_cases h2 : a < 0
  · rw [jN_n h2] at kk ⊢; exact lv_astoreN C.1 C.2.1 hdg h hn (hl _ rfl) kk
  · rw [jN_p (by omega)] at kk ⊢; exact lv_astore C.1 C.2.1 hdg h hn (hl _ rfl) kk
theorem jq_of {v : Option Value} (hO : jOk G M s H locs) {t : State} (ht : t.heap = H) : jQ G v M args s (.returned v) t := ⟨rfl, by rw [ht]; exact hO.1, hO.2.2.2.2.F ht⟩
theorem j_iret (C : jCx p s m args meth c cc nL own w0 (some .int)) (hO : jOk G M s H locs) {r : Int} (hdg : decode cc pc = .ok (.ireturn, 1)) : W p l e R s m args below meth c H locs cells slots (MQ below (jQ G (some (vI r)) M) args s cells slots (jA G)) (F0 m pc ls [vI r]) := W.iret C.1 C.2.1 C.2.2.2.2.2.1 (fun t ht _ => jq_of hO ht) hO.2.2.2.2.2.2 hdg C.2.2.2.2.2.2
theorem j_zret (C : jCx p s m args meth c cc nL own w0 (some .boolean)) (hO : jOk G M s H locs) {r : Int} (hz : r = 0 ∨ r = 1) (hdg : decode cc pc = .ok (.ireturn, 1)) : W p l e R s m args below meth c H locs cells slots (MQ below (jQ G (some (vI r)) M) args s cells slots (jA G)) (F0 m pc ls [vI r]) := W.zret C.1 C.2.1 C.2.2.2.2.2.1 (by rcases hz with h | h <;> subst h <;> rfl) (fun t ht _ => jq_of hO ht) hO.2.2.2.2.2.2 hdg C.2.2.2.2.2.2
theorem j_lret (C : jCx p s m args meth c cc nL own w0 (some .long)) (hO : jOk G M s H locs) {r : Int} (hdg : decode cc pc = .ok (.lreturn, 1)) : W p l e R s m args below meth c H locs cells slots (MQ below (jQ G (some (vL r)) M) args s cells slots (jA G)) (F0 m pc ls [vL r]) := W.lret C.1 C.2.1 C.2.2.2.2.2.1 (fun t ht _ => jq_of hO ht) hO.2.2.2.2.2.2 hdg C.2.2.2.2.2.2
theorem j_vret (C : jCx p s m args meth c cc nL own w0 none) (hO : jOk G M s H locs) (hdg : decode cc pc = .ok (.return_, 1)) : W p l e R s m args below meth c H locs cells slots (MQ below (jQ G none M) args s cells slots (jA G)) (F0 m pc ls []) := W.vret C.1 C.2.1 C.2.2.2.2.2.1 (fun t ht _ => jq_of hO ht) hO.2.2.2.2.2.2 hdg C.2.2.2.2.2.2
theorem j_aret {cn : String} (C : jCx p s m args meth c cc nL own w0 (some (.object cn))) (hO : jOk G M s H locs) {r : Int} (hdg : decode cc pc = .ok (.areturn, 1)) : W p l e R s m args below meth c H locs cells slots (MQ below (jQ G (some (jN G r)) M) args s cells slots (jA G)) (F0 m pc ls [jN G r]) := W.aret C.1 C.2.1 C.2.2.2.2.2.1 (Or.inl ⟨_, rfl⟩) (by unfold jN va_rf; split <;> simp) (fun t ht _ => jq_of hO ht) hO.2.2.2.2.2.2 hdg C.2.2.2.2.2.2
theorem j_cont {v : Option Value} {M' : jM} {st0 : List Value} {av : Array Value} (hr : va_Run p l e R s m args below meth c H locs cells slots 0 0 (F0 m pc ls st0) rest (jQ G v M' av) (jA G)) (hO : jOk G M s H locs)
    (kk : ∀ (H1 : Heap) (locs1 : List Loc), jOk G M' s H1 locs1 → W p l e R s m args below meth c H1 locs1 cells slots Q (F0 m (pc + 3) ls (v.toList ++ rest))) : W p l e R s m args below meth c H locs cells slots Q (F0 m pc ls st0) := by
  intro T hT X
  obtain ⟨v', st₀, t, T', L, h0, X', hL, e1, e2, ⟨hv, hP, hz, hk⟩, st⟩ := hr T hT X
  cases hv
  rw [h0] at hz hk
  obtain ⟨h1, h2, h3, h4, h5⟩ := hO
  obtain ⟨t2, a1, b1⟩ := kk T'.heap (locs ++ L) ⟨by rw [e1]; exact hP, h2, h3, h4, Nat.le_trans h5.1 (by rw [e1]; exact hz), fun q g1 g2 => by rw [e1, hk q (Nat.lt_of_lt_of_le g1 h5.1) g2]; exact h5.2.1 q g1 g2, fun q hq => by
      rcases List.mem_append.mp hq with h | h
      · exact h5.2.2 q h
      · exact hL q h⟩ T' rfl X'
  exact ⟨t2, st t2 a1, b1⟩
theorem j_recv (hO : jOk G M s H locs) {ci N : Nat} {CN : String} {T : u_T} {a : Int} (he : jkd a = (ci, 0)) (hc : jcl[ci]? = some (CN, T, N)) : ∃ cellB : Cell, H[jad G a]? = some cellB ∧ cellB.vm.isStatics = false ∧ s.vm.findClass CN = some cellB.cls := by
  obtain ⟨r, h1, cell, q1, q2, q3, q4⟩ := hO.1 a.toNat _ (jat_c he (jcl_ok hc))
  have hr : r = (CN, T, N) := Option.some.inj (h1.symm.trans hc)
  subst hr
  exact ⟨cell, q1, by rw [q3]; rfl, by rw [q2]; exact (hO.2.1.1 ci _ hc).2.1⟩
theorem j_callV (C : jCx p s m args meth c cc nL own w0 ret)(hO : jOk G M s H locs) {y : MethodName} {bytes : ByteArray} {maxL n index ci N : Nat} {rt : Option FieldType} {rm : Room} {T : u_T} {b : Int} {As : List Value} {v : Option Value} {M' : jM} {st0 st1 : List Value} (hM : Met l y (Cond.code y bytes maxL rt :: wsL_law) rm (va_Pc (jR G b :: As) (fun U => jRep G M U)) (jQ G v M') 0 0 (jA G)) (he : jkd b = (ci, 0)) (hc : jcl[ci]? = some (y.cls, T, N)) (hcy : Cond.code y bytes maxL rt ∈ wsL_law) (hli : Cond.methodLink own index y ∈ wsL_law) (hiy : Cond.instanceMethod y ∈ wsL_law) (hsy : Cond.selects y.cls y y ∈ wsL_law) (hny : Cond.initialized y.cls ∈ wsL_law) (hd : y.cls ≠ "java/lang/invoke/MethodHandle" ∧ y.cls ≠ "java/lang/invoke/VarHandle" ∧ (parseMethodDescriptor y.desc).map (fun d => d.parameters.length) = some n) (hR : rm.frames + 1 ≤ R.frames ∧ 8 + (maxL + 11) + rm.locals ≤ R.locals) (hrc : rm.cells = 0) (hrs : rm.slots = 0) (hn : As.length = n) (hsz : ls.size = nL) (hst : st0 = As.reverse ++ jR G b :: rest) (hW : (rest.map fun v => v.category).sum ≤ 8) (hcs : cells ≤ R.cells ∧ slots ≤ R.slots) (hdg : decode cc pc = .ok (.invokevirtual index, 3)) (h1 : st1 = v.toList ++ rest) (kk : ∀ (H1 : Heap) (locs1 : List Loc), jOk G M' s H1 locs1 → W p l e R s m args below meth c H1 locs1 cells slots Q (F0 m (pc + 3) ls st1)) : W p l e R s m args below meth c H locs cells slots Q (F0 m pc ls st0) := by
  subst h1
  have hG := jw_in (w0 := w0) hcy
  have cw : CallW R s args own y.cls index y bytes maxL rt (Cond.code y bytes maxL rt :: wsL_law) rm 0 0 n := ⟨callB_of n C.2.2.2.2.1 hG rfl hrc hrs (C.2.2.2.2.1 _ (jpcM hny)) (C.2.2.2.2.1 _ (jpcM hli)) hd hR, C.2.2.2.2.1 _ (jpcM hiy), C.2.2.2.2.1 _ (jpcM hsy)⟩
  exact j_cont (va_runV (As := As) (rest := rest) (n := n) ⟨C.1, C.2.1, C.2.2.1, C.2.2.2.1, C.2.2.2.2.1⟩ hM cw ⟨jRep.blind _, j_recv hO he hc, fun U hU hWm => ⟨rfl, hO.rep hU hWm⟩⟩ rfl hn hsz hst (by simpa [F0, JFrame.monitorRoom] using hW) hdg hcs) hO kk
theorem j_callVg (C : jCx p s m args meth c cc nL own w0 ret)(hO : jOk G M s H locs) {y : MethodName} {bytes : ByteArray} {maxL n index : Nat} {rt : Option FieldType} {rm : Room} {b : Nat} {As : List Value} {v : Option Value} {M' : jM} {st0 st1 : List Value} (hM : Met l y (Cond.code y bytes maxL rt :: wsL_law) rm (va_Pc (.ref b :: As) (fun U => jRep G M U)) (jQ G v M') 0 0 (jA G)) (hrec : ∃ cellB : Cell, H[b]? = some cellB ∧ cellB.vm.isStatics = false ∧ s.vm.findClass y.cls = some cellB.cls) (hcy : Cond.code y bytes maxL rt ∈ wsL_law) (hli : Cond.methodLink own index y ∈ wsL_law) (hiy : Cond.instanceMethod y ∈ wsL_law) (hsy : Cond.selects y.cls y y ∈ wsL_law) (hny : Cond.initialized y.cls ∈ wsL_law) (hd : y.cls ≠ "java/lang/invoke/MethodHandle" ∧ y.cls ≠ "java/lang/invoke/VarHandle" ∧ (parseMethodDescriptor y.desc).map (fun d => d.parameters.length) = some n) (hR : rm.frames + 1 ≤ R.frames ∧ 8 + (maxL + 11) + rm.locals ≤ R.locals) (hrc : rm.cells = 0) (hrs : rm.slots = 0) (hn : As.length = n) (hsz : ls.size = nL) (hst : st0 = As.reverse ++ .ref b :: rest) (hW : (rest.map fun v => v.category).sum ≤ 8) (hcs : cells ≤ R.cells ∧ slots ≤ R.slots) (hdg : decode cc pc = .ok (.invokevirtual index, 3)) (h1 : st1 = v.toList ++ rest) (kk : ∀ (H1 : Heap) (locs1 : List Loc), jOk G M' s H1 locs1 → W p l e R s m args below meth c H1 locs1 cells slots Q (F0 m (pc + 3) ls st1)) : W p l e R s m args below meth c H locs cells slots Q (F0 m pc ls st0) := by
  subst h1
  have hG := jw_in (w0 := w0) hcy
  have cw : CallW R s args own y.cls index y bytes maxL rt (Cond.code y bytes maxL rt :: wsL_law) rm 0 0 n := ⟨callB_of n C.2.2.2.2.1 hG rfl hrc hrs (C.2.2.2.2.1 _ (jpcM hny)) (C.2.2.2.2.1 _ (jpcM hli)) hd hR, C.2.2.2.2.1 _ (jpcM hiy), C.2.2.2.2.1 _ (jpcM hsy)⟩
  exact j_cont (va_runV (As := As) (rest := rest) (n := n) ⟨C.1, C.2.1, C.2.2.1, C.2.2.2.1, C.2.2.2.2.1⟩ hM cw ⟨jRep.blind _, hrec, fun U hU hWm => ⟨rfl, hO.rep hU hWm⟩⟩ rfl hn hsz hst (by simpa [F0, JFrame.monitorRoom] using hW) hdg hcs) hO kk
theorem j_callS (C : jCx p s m args meth c cc nL own w0 ret)(hO : jOk G M s H locs) {y : MethodName} {bytes : ByteArray} {maxL n index : Nat} {rt : Option FieldType} {rm : Room} {As : List Value} {v : Option Value} {M' : jM} {st0 st1 : List Value} (hM : Met l y (Cond.code y bytes maxL rt :: wsL_law) rm (va_Pc As (fun U => jRep G M U)) (jQ G v M') 0 0 (jA G)) (hcy : Cond.code y bytes maxL rt ∈ wsL_law) (hli : Cond.methodLink own index y ∈ wsL_law) (hsy : Cond.static y ∈ wsL_law) (hny : Cond.initialized y.cls ∈ wsL_law) (hd : y.cls ≠ "java/lang/invoke/MethodHandle" ∧ y.cls ≠ "java/lang/invoke/VarHandle" ∧ (parseMethodDescriptor y.desc).map (fun d => d.parameters.length) = some n) (hR : rm.frames + 1 ≤ R.frames ∧ 8 + (maxL + 11) + rm.locals ≤ R.locals) (hrc : rm.cells = 0) (hrs : rm.slots = 0) (hn : As.length = n) (hsz : ls.size = nL) (hst : st0 = As.reverse ++ rest) (hW : (rest.map fun v => v.category).sum ≤ 8) (hcs : cells ≤ R.cells ∧ slots ≤ R.slots) (hdg : decode cc pc = .ok (.invokestatic index, 3)) (h1 : st1 = v.toList ++ rest) (kk : ∀ (H1 : Heap) (locs1 : List Loc), jOk G M' s H1 locs1 → W p l e R s m args below meth c H1 locs1 cells slots Q (F0 m (pc + 3) ls st1)) : W p l e R s m args below meth c H locs cells slots Q (F0 m pc ls st0) := by
  subst h1
  have hG := jw_in (w0 := w0) hcy
  have cw : CallB R s args own index y bytes maxL rt (Cond.code y bytes maxL rt :: wsL_law) rm 0 0 n ∧ (Cond.static y).before args s = true := ⟨callB_of n C.2.2.2.2.1 hG rfl hrc hrs (C.2.2.2.2.1 _ (jpcM hny)) (C.2.2.2.2.1 _ (jpcM hli)) hd hR, C.2.2.2.2.1 _ (jpcM hsy)⟩
  exact j_cont (va_runS (As := As) (rest := rest) (n := n) ⟨C.1, C.2.1, C.2.2.1, C.2.2.2.1, C.2.2.2.2.1⟩ hM cw ⟨jRep.blind _, fun U hU hWm => ⟨rfl, hO.rep hU hWm⟩⟩ rfl hn hsz hst (by simpa [F0, JFrame.monitorRoom] using hW) hdg hcs) hO kk
theorem j_callSN (C : jCx p s m args meth c cc nL own w0 ret)(hO : jOk G M s H locs) {y : MethodName} {bytes : ByteArray} {maxL n index : Nat} {rt : Option FieldType} {rm : Room} {As : List Value} {v : Option Value} {M' : jM} {st0 st1 : List Value} {host : String} (hM : Met l y (Cond.code y bytes maxL rt :: wsL_law) rm (va_Pc As (fun U => jRep G M U)) (jQ G v M') 0 0 (jA G)) (hcy : Cond.code y bytes maxL rt ∈ wsL_law) (hli : (own, index, y, host) ∈ jnests) (hsy : Cond.static y ∈ wsL_law) (hny : Cond.initialized y.cls ∈ wsL_law) (hd : y.cls ≠ "java/lang/invoke/MethodHandle" ∧ y.cls ≠ "java/lang/invoke/VarHandle" ∧ (parseMethodDescriptor y.desc).map (fun d => d.parameters.length) = some n) (hR : rm.frames + 1 ≤ R.frames ∧ 8 + (maxL + 11) + rm.locals ≤ R.locals) (hrc : rm.cells = 0) (hrs : rm.slots = 0) (hn : As.length = n) (hsz : ls.size = nL) (hst : st0 = As.reverse ++ rest) (hW : (rest.map fun v => v.category).sum ≤ 8) (hcs : cells ≤ R.cells ∧ slots ≤ R.slots) (hdg : decode cc pc = .ok (.invokestatic index, 3)) (h1 : st1 = v.toList ++ rest) (kk : ∀ (H1 : Heap) (locs1 : List Loc), jOk G M' s H1 locs1 → W p l e R s m args below meth c H1 locs1 cells slots Q (F0 m (pc + 3) ls st1)) : W p l e R s m args below meth c H locs cells slots Q (F0 m pc ls st0) := by
  subst h1
  have hG := jw_in (w0 := w0) hcy
  exact j_cont (va_runSN (As := As) (rest := rest) (n := n) (host := host) ⟨C.1, C.2.1, C.2.2.1, C.2.2.2.1, C.2.2.2.2.1⟩ hM ⟨va_cnB n C.2.2.2.2.1 hG rfl hrc hrs (hO.2.2.2.1.2.2.2.2.2.2.1 _ hli) (C.2.2.2.2.1 _ (jpcM hny)) hd hR, C.2.2.2.2.1 _ (jpcM hsy), trivial⟩ ⟨jRep.blind _, fun U hU hWm => ⟨rfl, hO.rep hU hWm⟩⟩ rfl hn hsz hst (by simpa [F0, JFrame.monitorRoom] using hW) hdg hcs) hO kk
end JH
