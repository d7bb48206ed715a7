section JI
variable {p : Program} {l : Launch} {e : Env} {R : Room} {s : State} {m : MethodId} {args : Array Value} {below : List Frame} {meth : Method} {c : Code} {H : Heap} {locs : List Loc} {cells slots : Nat} {Q : State → Prop}
variable {cc : ByteArray} {nL : Nat} {own : String} {w0 : Cond} {ret : Option FieldType} {pc : Nat} {ls : Array Slot} {rest : List Value} {G : jG} {M : jM}

theorem sel_l {α β γ : Type} {f : α → γ} {g : β → γ} {q : α} {y : γ} (h : Sum.elim f g (Sum.inl q) = y) : f q = y := h
theorem sel_r {α β γ : Type} {f : α → γ} {g : β → γ} {q : β} {y : γ} (h : Sum.elim f g (Sum.inr q) = y) : g q = y := h
theorem jz_n {x : Int} (h : x = 0 ∨ x = 1) : narrow .boolean (vI x) = vI x := by rcases h with h | h <;> subst h <;> rfl
theorem jz_f {x : Int} (h : x = 0 ∨ x = 1) : fits .boolean (vI x) = true := by rcases h with h | h <;> subst h <;> rfl
theorem j_min_e (a b : Int) : (if Int32.ofInt b < Int32.ofInt a then Int32.ofInt b else Int32.ofInt a) = Int32.ofInt (min (w32 a) (w32 b)) := by
  have h := w32_lt b a
  by_cases g : w32 b < w32 a
  · rw [if_pos (h.mpr g), Int.min_eq_right (by omega), w32_o]
  · rw [if_neg (fun q => g (h.mp q)), Int.min_eq_left (by omega), w32_o]
theorem j_max_e (a b : Int) : (if Int32.ofInt a < Int32.ofInt b then Int32.ofInt b else Int32.ofInt a) = Int32.ofInt (max (w32 a) (w32 b)) := by
  have h := w32_lt a b
  by_cases g : w32 a < w32 b
  · rw [if_pos (h.mpr g), Int.max_eq_right (by omega), w32_o]
  · rw [if_neg (fun q => g (h.mp q)), Int.max_eq_left (by omega), w32_o]
theorem j_abs_e (a : Int) : (if 0 < Int64.ofInt a then Int64.ofInt a else -Int64.ofInt a) = Int64.ofInt (if 0 < w64 a then a else -a) := by
  have h : 0 < Int64.ofInt a ↔ 0 < w64 a := w64_lt 0 a
  by_cases g : 0 < w64 a
  · rw [if_pos (h.mpr g), if_pos g]
  · rw [if_neg (fun q => g (h.mp q)), if_neg g, Int64.ofInt_neg]
theorem j_ldc2 (C : jCx p s m args meth c cc nL own w0 ret) {x : Int} {v : Int64} {index : Nat} (hk : Cond.constantLong own index v ∈ wsL_law) (hv : v = Int64.ofInt x) (hdg : decode cc pc = .ok (.ldc2_w index, 3)) (kk : W p l e R s m args below meth c H locs cells slots Q (F0 m (pc + 3) ls (vL x :: rest))) : W p l e R s m args below meth c H locs cells slots Q (F0 m pc ls rest) := lv_ldc2 C.1 C.2.1 C.2.2.2.1 (C.2.2.2.2.1 _ (jpcM hk)) hdg (by rw [hv]; exact kk)
theorem j_null (C : jCx p s m args meth c cc nL own w0 ret) (hdg : decode cc pc = .ok (.aconst_null, 1)) (kk : W p l e R s m args below meth c H locs cells slots Q (F0 m (pc + 1) ls (jN G (-1) :: rest))) : W p l e R s m args below meth c H locs cells slots Q (F0 m pc ls rest) := lv_null C.1 C.2.1 hdg kk
theorem j_mmin (C : jCx p s m args meth c cc nL own w0 ret) {index : Nat} {a b : Int} (hlink : Cond.methodLink own index Lib.Math.min.name ∈ wsL_law) (hstat : Cond.static Lib.Math.min.name ∈ wsL_law) (hini : Cond.initialized "java/lang/Math" ∈ wsL_law) (hcode : Cond.code Lib.Math.min.name Lib.Math.min.code 2 (some .int) ∈ wsL_law) (hsz : ls.size = nL) (hfr : 1 ≤ R.frames) (hlo : 21 ≤ R.locals) (hcs : cells ≤ R.cells ∧ slots ≤ R.slots) (hW : (rest.map fun v => v.category).sum ≤ 8) (hdg : decode cc pc = .ok (.invokestatic index, 3)) (kk : W p l e R s m args below meth c H locs cells slots Q (F0 m (pc + 3) ls (vI (min (w32 a) (w32 b)) :: rest))) : W p l e R s m args below meth c H locs cells slots Q (F0 m pc ls (vI b :: vI a :: rest)) := va_mmin C.1 C.2.1 (by rw [C.2.2.1, hsz]) C.2.2.2.1 (C.2.2.2.2.1 _ (jpcM hlink)) (C.2.2.2.2.1 _ (jpcM hstat)) (C.2.2.2.2.1 _ (jpcM hini)) (C.2.2.2.2.1 _ (jpcM hcode)) hfr (by omega) hcs.1 hcs.2 hdg (by
    rw [j_min_e]; exact kk)
theorem j_mmax (C : jCx p s m args meth c cc nL own w0 ret) {index : Nat} {a b : Int} (hlink : Cond.methodLink own index Lib.Math.max.name ∈ wsL_law) (hstat : Cond.static Lib.Math.max.name ∈ wsL_law) (hini : Cond.initialized "java/lang/Math" ∈ wsL_law) (hcode : Cond.code Lib.Math.max.name Lib.Math.max.code 2 (some .int) ∈ wsL_law) (hsz : ls.size = nL) (hfr : 1 ≤ R.frames) (hlo : 21 ≤ R.locals) (hcs : cells ≤ R.cells ∧ slots ≤ R.slots) (hW : (rest.map fun v => v.category).sum ≤ 8) (hdg : decode cc pc = .ok (.invokestatic index, 3)) (kk : W p l e R s m args below meth c H locs cells slots Q (F0 m (pc + 3) ls (vI (max (w32 a) (w32 b)) :: rest))) : W p l e R s m args below meth c H locs cells slots Q (F0 m pc ls (vI b :: vI a :: rest)) := va_mmax C.1 C.2.1 (by rw [C.2.2.1, hsz]) C.2.2.2.1 (C.2.2.2.2.1 _ (jpcM hlink)) (C.2.2.2.2.1 _ (jpcM hstat)) (C.2.2.2.2.1 _ (jpcM hini)) (C.2.2.2.2.1 _ (jpcM hcode)) hfr (by omega) hcs.1 hcs.2 hdg (by
    rw [j_max_e]; exact kk)
theorem j_mabs (C : jCx p s m args meth c cc nL own w0 ret) {index : Nat} {a : Int} (hlink : Cond.methodLink own index Lib.MathLoose.abs_long.x ∈ wsL_law) (hstat : Cond.static Lib.MathLoose.abs_long.x ∈ wsL_law) (hini : Cond.initialized "java/lang/Math" ∈ wsL_law) (hcode : Cond.code Lib.MathLoose.abs_long.x Lib.MathLoose.abs_long.code 2 (some .long) ∈ wsL_law) (hsz : ls.size = nL) (hfr : 1 ≤ R.frames) (hlo : 21 ≤ R.locals) (hcs : cells ≤ R.cells ∧ slots ≤ R.slots) (hW : (rest.map fun v => v.category).sum ≤ 8) (hdg : decode cc pc = .ok (.invokestatic index, 3)) (kk : W p l e R s m args below meth c H locs cells slots Q (F0 m (pc + 3) ls (vL (if 0 < w64 a then a else -a) :: rest))) : W p l e R s m args below meth c H locs cells slots Q (F0 m pc ls (vL a :: rest)) := va_mabs_long C.1 C.2.1 (by rw [C.2.2.1, hsz]) C.2.2.2.1 (C.2.2.2.2.1 _ (jpcM hlink)) (C.2.2.2.2.1 _ (jpcM hstat)) (C.2.2.2.2.1 _ (jpcM hini)) (C.2.2.2.2.1 _ (jpcM hcode)) hfr (by omega) hcs.1 hcs.2 hdg (by
    rw [j_abs_e]; exact kk)
theorem j_tsw (C : jCx p s m args meth c cc nL own w0 ret) {a k lo hi dflt off : Int} {offs : Array Int} {len tgt : Nat} (h : w32 a = k) (hdg : decode cc pc = .ok (.tableswitch dflt lo hi offs, len)) (h1 : lo ≤ k) (h2 : k ≤ hi) (ho : offs[(k - lo).toNat]? = some off) (ht : (pc : Int) + off = (tgt : Int)) (kk : W p l e R s m args below meth c H locs cells slots Q (F0 m tgt ls rest)) : W p l e R s m args below meth c H locs cells slots Q (F0 m pc ls (vI a :: rest)) := by
  have e : (Int32.ofInt a).toInt = k := h
  exact lv_tableIn C.1 C.2.1 hdg (by rw [e]; omega) (by rw [e]; omega) (by rw [e]; exact ho) ht kk
theorem j_tsd (C : jCx p s m args meth c cc nL own w0 ret) {a lo hi dflt : Int} {offs : Array Int} {len tgt : Nat} (hdg : decode cc pc = .ok (.tableswitch dflt lo hi offs, len)) (h : w32 a < lo ∨ hi < w32 a) (ht : (pc : Int) + dflt = (tgt : Int)) (kk : W p l e R s m args below meth c H locs cells slots Q (F0 m tgt ls rest)) : W p l e R s m args below meth c H locs cells slots Q (F0 m pc ls (vI a :: rest)) := lv_tableOut C.1 C.2.1 hdg h ht kk
theorem j_lsw (C : jCx p s m args meth c cc nL own w0 ret) {a k dflt off : Int} {ps : Array (Int × Int)} {len tgt : Nat} (h : w32 a = k) (hdg : decode cc pc = .ok (.lookupswitch dflt ps, len)) (hp : (ps.toList.zip (ps.toList.drop 1)).all (fun (a, next) => a.1 < next.1) = true) (ho : Op.lookupswitch.offset ps.toList dflt k = off) (ht : (pc : Int) + off = (tgt : Int)) (kk : W p l e R s m args below meth c H locs cells slots Q (F0 m tgt ls rest)) : W p l e R s m args below meth c H locs cells slots Q (F0 m pc ls (vI a :: rest)) := lv_lookup C.1 C.2.1 hdg hp (by have e : (Int32.ofInt a).toInt = k := h; rw [e]; exact ho) ht kk
theorem j_lsd (C : jCx p s m args meth c cc nL own w0 ret) {a dflt off : Int} {ps : Array (Int × Int)} {len tgt : Nat} (hdg : decode cc pc = .ok (.lookupswitch dflt ps, len)) (hp : (ps.toList.zip (ps.toList.drop 1)).all (fun (a, next) => a.1 < next.1) = true) (ho : Op.lookupswitch.offset ps.toList dflt (w32 a) = off) (ht : (pc : Int) + off = (tgt : Int)) (kk : W p l e R s m args below meth c H locs cells slots Q (F0 m tgt ls rest)) : W p l e R s m args below meth c H locs cells slots Q (F0 m pc ls (vI a :: rest)) := lv_lookup C.1 C.2.1 hdg hp ho ht kk
end JI
theorem jpt_all {P : Int → Prop} {k n : Nat} {a : Int} (ha : jkd a = (k, n)) (hk : k ≠ 99) (h : ∀ i : Nat, i < 72 → jkd (i : Int) = (k, n) → P (i : Int)) : P a := by
  obtain ⟨h0, h1, h2, h3⟩ := jkd_in ha hk
  have := h a.toNat h2 (by rw [h3]; exact ha)
  rw [h3] at this
  exact this
theorem tp_0_0 {a : Int} (h : jkd a = (0, 0)) : jkd (jpt a 0) = (11, 20) := jpt_all (P := fun x => jkd (jpt x 0) = (11, 20)) h (by decide) (by decide +kernel)
theorem tp_1_0 {a : Int} (h : jkd a = (1, 0)) : jkd (jpt a 0) = (3, 0) := jpt_all (P := fun x => jkd (jpt x 0) = (3, 0)) h (by decide) (by decide +kernel)
theorem tp_1_1 {a : Int} (h : jkd a = (1, 0)) : jkd (jpt a 1) = (3, 0) := jpt_all (P := fun x => jkd (jpt x 1) = (3, 0)) h (by decide) (by decide +kernel)
theorem tp_4_0 {a : Int} (h : jkd a = (4, 0)) : jkd (jpt a 0) = (11, 111) := jpt_all (P := fun x => jkd (jpt x 0) = (11, 111)) h (by decide) (by decide +kernel)
theorem tp_4_1 {a : Int} (h : jkd a = (4, 0)) : jkd (jpt a 1) = (11, 37) := jpt_all (P := fun x => jkd (jpt x 1) = (11, 37)) h (by decide) (by decide +kernel)
theorem tp_4_2 {a : Int} (h : jkd a = (4, 0)) : jkd (jpt a 2) = (11, 37) := jpt_all (P := fun x => jkd (jpt x 2) = (11, 37)) h (by decide) (by decide +kernel)
theorem tp_4_3 {a : Int} (h : jkd a = (4, 0)) : jkd (jpt a 3) = (11, 6) := jpt_all (P := fun x => jkd (jpt x 3) = (11, 6)) h (by decide) (by decide +kernel)
theorem tp_6_2 {a : Int} (h : jkd a = (6, 0)) : jkd (jpt a 2) = (11, 3) := jpt_all (P := fun x => jkd (jpt x 2) = (11, 3)) h (by decide) (by decide +kernel)
theorem tp_7_4 {a : Int} (h : jkd a = (7, 0)) : jkd (jpt a 4) = (11, 10) := jpt_all (P := fun x => jkd (jpt x 4) = (11, 10)) h (by decide) (by decide +kernel)
theorem tp_7_5 {a : Int} (h : jkd a = (7, 0)) : jkd (jpt a 5) = (12, 10) := jpt_all (P := fun x => jkd (jpt x 5) = (12, 10)) h (by decide) (by decide +kernel)
theorem tp_8_0 {a : Int} (h : jkd a = (8, 0)) : jkd (jpt a 0) = (11, 100) := jpt_all (P := fun x => jkd (jpt x 0) = (11, 100)) h (by decide) (by decide +kernel)
theorem tp_8_2 {a : Int} (h : jkd a = (8, 0)) : jkd (jpt a 2) = (7, 0) := jpt_all (P := fun x => jkd (jpt x 2) = (7, 0)) h (by decide) (by decide +kernel)
theorem tp_8_5 {a : Int} (h : jkd a = (8, 0)) : jkd (jpt a 5) = (3, 0) := jpt_all (P := fun x => jkd (jpt x 5) = (3, 0)) h (by decide) (by decide +kernel)
theorem tp_8_6 {a : Int} (h : jkd a = (8, 0)) : jkd (jpt a 6) = (14, 6) := jpt_all (P := fun x => jkd (jpt x 6) = (14, 6)) h (by decide) (by decide +kernel)
theorem tp_8_8 {a : Int} (h : jkd a = (8, 0)) : jkd (jpt a 8) = (11, 4) := jpt_all (P := fun x => jkd (jpt x 8) = (11, 4)) h (by decide) (by decide +kernel)
theorem tp_8_9 {a : Int} (h : jkd a = (8, 0)) : jkd (jpt a 9) = (11, 4) := jpt_all (P := fun x => jkd (jpt x 9) = (11, 4)) h (by decide) (by decide +kernel)
theorem tp_8_10 {a : Int} (h : jkd a = (8, 0)) : jkd (jpt a 10) = (14, 4) := jpt_all (P := fun x => jkd (jpt x 10) = (14, 4)) h (by decide) (by decide +kernel)
theorem tp_8_12 {a : Int} (h : jkd a = (8, 0)) : jkd (jpt a 12) = (3, 0) := jpt_all (P := fun x => jkd (jpt x 12) = (3, 0)) h (by decide) (by decide +kernel)
theorem tp_9_0 {a : Int} (h : jkd a = (9, 0)) : jkd (jpt a 0) = (8, 0) := jpt_all (P := fun x => jkd (jpt x 0) = (8, 0)) h (by decide) (by decide +kernel)
theorem tp_9_1 {a : Int} (h : jkd a = (9, 0)) : jkd (jpt a 1) = (8, 0) := jpt_all (P := fun x => jkd (jpt x 1) = (8, 0)) h (by decide) (by decide +kernel)
theorem tp_9_3 {a : Int} (h : jkd a = (9, 0)) : jkd (jpt a 3) = (7, 0) := jpt_all (P := fun x => jkd (jpt x 3) = (7, 0)) h (by decide) (by decide +kernel)
theorem tp_9_4 {a : Int} (h : jkd a = (9, 0)) : jkd (jpt a 4) = (5, 0) := jpt_all (P := fun x => jkd (jpt x 4) = (5, 0)) h (by decide) (by decide +kernel)
theorem tp_9_5 {a : Int} (h : jkd a = (9, 0)) : jkd (jpt a 5) = (6, 0) := jpt_all (P := fun x => jkd (jpt x 5) = (6, 0)) h (by decide) (by decide +kernel)
theorem tp_9_6 {a : Int} (h : jkd a = (9, 0)) : jkd (jpt a 6) = (2, 0) := jpt_all (P := fun x => jkd (jpt x 6) = (2, 0)) h (by decide) (by decide +kernel)
theorem tp_9_7 {a : Int} (h : jkd a = (9, 0)) : jkd (jpt a 7) = (1, 0) := jpt_all (P := fun x => jkd (jpt x 7) = (1, 0)) h (by decide) (by decide +kernel)
theorem tp_9_8 {a : Int} (h : jkd a = (9, 0)) : jkd (jpt a 8) = (4, 0) := jpt_all (P := fun x => jkd (jpt x 8) = (4, 0)) h (by decide) (by decide +kernel)
theorem tp_9_9 {a : Int} (h : jkd a = (9, 0)) : jkd (jpt a 9) = (0, 0) := jpt_all (P := fun x => jkd (jpt x 9) = (0, 0)) h (by decide) (by decide +kernel)
theorem tp_10_1 {a : Int} (h : jkd a = (10, 0)) : jkd (jpt a 1) = (11, 952) := jpt_all (P := fun x => jkd (jpt x 1) = (11, 952)) h (by decide) (by decide +kernel)
theorem tp_10_2 {a : Int} (h : jkd a = (10, 0)) : jkd (jpt a 2) = (11, 952) := jpt_all (P := fun x => jkd (jpt x 2) = (11, 952)) h (by decide) (by decide +kernel)
theorem tp_10_9 {a : Int} (h : jkd a = (10, 0)) : jkd (jpt a 9) = (11, 3) := jpt_all (P := fun x => jkd (jpt x 9) = (11, 3)) h (by decide) (by decide +kernel)
theorem tp_10_10 {a : Int} (h : jkd a = (10, 0)) : jkd (jpt a 10) = (13, 64) := jpt_all (P := fun x => jkd (jpt x 10) = (13, 64)) h (by decide) (by decide +kernel)
theorem tp_10_11 {a : Int} (h : jkd a = (10, 0)) : jkd (jpt a 11) = (11, 3) := jpt_all (P := fun x => jkd (jpt x 11) = (11, 3)) h (by decide) (by decide +kernel)
theorem tp_10_17 {a : Int} (h : jkd a = (10, 0)) : jkd (jpt a 17) = (11, 1458) := jpt_all (P := fun x => jkd (jpt x 17) = (11, 1458)) h (by decide) (by decide +kernel)
theorem tp_10_18 {a : Int} (h : jkd a = (10, 0)) : jkd (jpt a 18) = (11, 20) := jpt_all (P := fun x => jkd (jpt x 18) = (11, 20)) h (by decide) (by decide +kernel)
theorem tpo_6 {a i : Int} (h : jkd a = (14, 6)) (h0 : 0 ≤ i) (h1 : i < 6) : jkd (jpt a i) = (3, 0) := by
  have key := jpt_all (P := fun x => ∀ j : Nat, j < 6 → jkd (jpt x (j : Int)) = (3, 0)) h (by decide) (by decide +kernel) i.toNat (by omega)
  rw [Int.toNat_of_nonneg h0] at key
  exact key
theorem tpo_4 {a i : Int} (h : jkd a = (14, 4)) (h0 : 0 ≤ i) (h1 : i < 4) : jkd (jpt a i) = (3, 0) := by
  have key := jpt_all (P := fun x => ∀ j : Nat, j < 4 → jkd (jpt x (j : Int)) = (3, 0)) h (by decide) (by decide +kernel) i.toNat (by omega)
  rw [Int.toNat_of_nonneg h0] at key
  exact key
theorem fs_0_1 {G : jG} {M : jM} {a x : Int} : (jfl G M 0 a).set 1 (vI x) = jfl G (sto M a 1 x) 0 a := by simp [jfl, sto]
theorem fs_0_2 {G : jG} {M : jM} {a x : Int} : (jfl G M 0 a).set 2 (vI x) = jfl G (sto M a 2 x) 0 a := by simp [jfl, sto]
theorem fs_0_3 {G : jG} {M : jM} {a x : Int} : (jfl G M 0 a).set 3 (vI x) = jfl G (sto M a 3 x) 0 a := by simp [jfl, sto]
theorem fs_0_4 {G : jG} {M : jM} {a x : Int} : (jfl G M 0 a).set 4 (vI x) = jfl G (sto M a 4 x) 0 a := by simp [jfl, sto]
theorem fs_1_2 {G : jG} {M : jM} {a x : Int} : (jfl G M 1 a).set 2 (vI x) = jfl G (sto M a 2 x) 1 a := by simp [jfl, sto]
theorem fs_1_3 {G : jG} {M : jM} {a x : Int} : (jfl G M 1 a).set 3 (vL x) = jfl G (sto M a 3 x) 1 a := by simp [jfl, sto]
theorem fs_1_4 {G : jG} {M : jM} {a x : Int} : (jfl G M 1 a).set 4 (vL x) = jfl G (sto M a 4 x) 1 a := by simp [jfl, sto]
theorem fs_2_0 {G : jG} {M : jM} {a x : Int} : (jfl G M 2 a).set 0 (vL x) = jfl G (sto M a 0 x) 2 a := by simp [jfl, sto]
theorem fs_2_1 {G : jG} {M : jM} {a x : Int} : (jfl G M 2 a).set 1 (vL x) = jfl G (sto M a 1 x) 2 a := by simp [jfl, sto]
theorem fs_2_2 {G : jG} {M : jM} {a x : Int} : (jfl G M 2 a).set 2 (vL x) = jfl G (sto M a 2 x) 2 a := by simp [jfl, sto]
theorem fs_2_3 {G : jG} {M : jM} {a x : Int} : (jfl G M 2 a).set 3 (vL x) = jfl G (sto M a 3 x) 2 a := by simp [jfl, sto]
theorem fs_3_0 {G : jG} {M : jM} {a x : Int} : (jfl G M 3 a).set 0 (vI x) = jfl G (sto M a 0 x) 3 a := by simp [jfl, sto]
theorem fs_3_1 {G : jG} {M : jM} {a x : Int} : (jfl G M 3 a).set 1 (vL x) = jfl G (sto M a 1 x) 3 a := by simp [jfl, sto]
theorem fs_4_4 {G : jG} {M : jM} {a x : Int} (h : 0 ≤ x) : (jfl G M 4 a).set 4 (jR G x) = jfl G (sto M a 4 x) 4 a := by rw [← jN_p h]; simp [jfl, sto]
theorem fs_4_5 {G : jG} {M : jM} {a x : Int} (h : 0 ≤ x) : (jfl G M 4 a).set 5 (jR G x) = jfl G (sto M a 5 x) 4 a := by rw [← jN_p h]; simp [jfl, sto]
theorem fs_4_6 {G : jG} {M : jM} {a x : Int} : (jfl G M 4 a).set 6 (vI x) = jfl G (sto M a 6 x) 4 a := by simp [jfl, sto]
theorem fs_4_7 {G : jG} {M : jM} {a x : Int} : (jfl G M 4 a).set 7 (vI x) = jfl G (sto M a 7 x) 4 a := by simp [jfl, sto]
theorem fs_4_8 {G : jG} {M : jM} {a x : Int} (h : 0 ≤ x) : (jfl G M 4 a).set 8 (jR G x) = jfl G (sto M a 8 x) 4 a := by rw [← jN_p h]; simp [jfl, sto]
theorem fs_5_0 {G : jG} {M : jM} {a x : Int} (h : 0 ≤ x) : (jfl G M 5 a).set 0 (jR G x) = jfl G (sto M a 0 x) 5 a := by rw [← jN_p h]; simp [jfl, sto]
theorem fs_5_1 {G : jG} {M : jM} {a x : Int} : (jfl G M 5 a).set 1 (vI x) = jfl G (sto M a 1 x) 5 a := by simp [jfl, sto]
theorem fs_5_2 {G : jG} {M : jM} {a x : Int} : (jfl G M 5 a).set 2 (vI x) = jfl G (sto M a 2 x) 5 a := by simp [jfl, sto]
theorem fs_5_3 {G : jG} {M : jM} {a x : Int} : (jfl G M 5 a).set 3 (vI x) = jfl G (sto M a 3 x) 5 a := by simp [jfl, sto]
theorem fs_5_4 {G : jG} {M : jM} {a x : Int} (h : 0 ≤ x) : (jfl G M 5 a).set 4 (jR G x) = jfl G (sto M a 4 x) 5 a := by rw [← jN_p h]; simp [jfl, sto]
theorem fs_6_0 {G : jG} {M : jM} {a x : Int} : (jfl G M 6 a).set 0 (vI x) = jfl G (sto M a 0 x) 6 a := by simp [jfl, sto]
theorem fs_6_1 {G : jG} {M : jM} {a x : Int} : (jfl G M 6 a).set 1 (vI x) = jfl G (sto M a 1 x) 6 a := by simp [jfl, sto]
theorem fs_7_0 {G : jG} {M : jM} {a x : Int} : (jfl G M 7 a).set 0 (vI x) = jfl G (sto M a 0 x) 7 a := by simp [jfl, sto]
theorem fs_7_1 {G : jG} {M : jM} {a x : Int} : (jfl G M 7 a).set 1 (vI x) = jfl G (sto M a 1 x) 7 a := by simp [jfl, sto]
theorem fs_7_2 {G : jG} {M : jM} {a x : Int} : (jfl G M 7 a).set 2 (vI x) = jfl G (sto M a 2 x) 7 a := by simp [jfl, sto]
theorem fs_7_3 {G : jG} {M : jM} {a x : Int} : (jfl G M 7 a).set 3 (vI x) = jfl G (sto M a 3 x) 7 a := by simp [jfl, sto]
theorem fs_8_1 {G : jG} {M : jM} {a x : Int} : (jfl G M 8 a).set 1 (vI x) = jfl G (sto M a 1 x) 8 a := by simp [jfl, sto]
theorem fs_8_3 {G : jG} {M : jM} {a x : Int} : (jfl G M 8 a).set 3 (vI x) = jfl G (sto M a 3 x) 8 a := by simp [jfl, sto]
theorem fs_8_4 {G : jG} {M : jM} {a x : Int} : (jfl G M 8 a).set 4 (vI x) = jfl G (sto M a 4 x) 8 a := by simp [jfl, sto]
theorem fs_8_7 {G : jG} {M : jM} {a x : Int} : (jfl G M 8 a).set 7 (vI x) = jfl G (sto M a 7 x) 8 a := by simp [jfl, sto]
theorem fs_8_11 {G : jG} {M : jM} {a x : Int} : (jfl G M 8 a).set 11 (vI x) = jfl G (sto M a 11 x) 8 a := by simp [jfl, sto]
theorem fs_9_2 {G : jG} {M : jM} {a x : Int} : (jfl G M 9 a).set 2 (vI x) = jfl G (sto M a 2 x) 9 a := by simp [jfl, sto]
theorem fs_10_0 {G : jG} {M : jM} {a x : Int} : (jfl G M 10 a).set 0 (vI x) = jfl G (sto M a 0 x) 10 a := by simp [jfl, sto]
theorem fs_10_3 {G : jG} {M : jM} {a x : Int} : (jfl G M 10 a).set 3 (vI x) = jfl G (sto M a 3 x) 10 a := by simp [jfl, sto]
theorem fs_10_4 {G : jG} {M : jM} {a x : Int} : (jfl G M 10 a).set 4 (vI x) = jfl G (sto M a 4 x) 10 a := by simp [jfl, sto]
theorem fs_10_5 {G : jG} {M : jM} {a x : Int} : (jfl G M 10 a).set 5 (vI x) = jfl G (sto M a 5 x) 10 a := by simp [jfl, sto]
theorem fs_10_6 {G : jG} {M : jM} {a x : Int} : (jfl G M 10 a).set 6 (vI x) = jfl G (sto M a 6 x) 10 a := by simp [jfl, sto]
theorem fs_10_7 {G : jG} {M : jM} {a x : Int} : (jfl G M 10 a).set 7 (vI x) = jfl G (sto M a 7 x) 10 a := by simp [jfl, sto]
theorem fs_10_8 {G : jG} {M : jM} {a x : Int} : (jfl G M 10 a).set 8 (vI x) = jfl G (sto M a 8 x) 10 a := by simp [jfl, sto]
theorem fs_10_12 {G : jG} {M : jM} {a x : Int} : (jfl G M 10 a).set 12 (vI x) = jfl G (sto M a 12 x) 10 a := by simp [jfl, sto]
theorem fs_10_13 {G : jG} {M : jM} {a x : Int} : (jfl G M 10 a).set 13 (vL x) = jfl G (sto M a 13 x) 10 a := by simp [jfl, sto]
theorem fs_10_14 {G : jG} {M : jM} {a x : Int} : (jfl G M 10 a).set 14 (vL x) = jfl G (sto M a 14 x) 10 a := by simp [jfl, sto]
theorem fs_10_15 {G : jG} {M : jM} {a x : Int} (h : 0 ≤ x) : (jfl G M 10 a).set 15 (jR G x) = jfl G (sto M a 15 x) 10 a := by rw [← jN_p h]; simp [jfl, sto]
theorem fs_10_16 {G : jG} {M : jM} {a x : Int} (h : 0 ≤ x) : (jfl G M 10 a).set 16 (jR G x) = jfl G (sto M a 16 x) 10 a := by rw [← jN_p h]; simp [jfl, sto]
theorem fs_10_19 {G : jG} {M : jM} {a x : Int} : (jfl G M 10 a).set 19 (vI x) = jfl G (sto M a 19 x) 10 a := by simp [jfl, sto]
theorem fs_10_20 {G : jG} {M : jM} {a x : Int} : (jfl G M 10 a).set 20 (vI x) = jfl G (sto M a 20 x) 10 a := by simp [jfl, sto]
theorem fs_10_21 {G : jG} {M : jM} {a x : Int} : (jfl G M 10 a).set 21 (vI x) = jfl G (sto M a 21 x) 10 a := by simp [jfl, sto]
theorem fs_10_22 {G : jG} {M : jM} {a x : Int} : (jfl G M 10 a).set 22 (vI x) = jfl G (sto M a 22 x) 10 a := by simp [jfl, sto]
