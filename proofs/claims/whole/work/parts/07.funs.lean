theorem jle {a b L R : Nat} (h : 8 + (a + 11) ≤ b) (h2 : L + b ≤ R) : 8 + (a + 11) + L ≤ R := by omega
section JU
variable {p : Program} {l : Launch} {e : Env} {R : Room} {s : State} {m : MethodId} {args : Array Value} {below : List Frame} {meth : Method} {c : Code} {H : Heap} {locs : List Loc} {cells slots : Nat} {Q : State → Prop}
variable {cc : ByteArray} {nL : Nat} {own : String} {w0 : Cond} {ret : Option FieldType} {pc : Nat} {ls : Array Slot} {rest : List Value} {G : jG} {M : jM}
theorem j_aretR {cn : String} (C : jCx p s m args meth c cc nL own w0 (some (.object cn))) (hO : jOk G M s H locs) {r : Int} (h : 0 ≤ r) (hdg : decode cc pc = .ok (.areturn, 1)) : W p l e R s m args below meth c H locs cells slots (MQ below (jQ G (some (jN G r)) M) args s cells slots (jA G)) (F0 m pc ls [.ref (jad G r)]) := by
  have k := j_aret (p := p) (l := l) (e := e) (R := R) (below := below) (ls := ls) (cells := cells) (slots := slots) C hO (r := r) hdg
  have en : jN G r = .ref (jad G r) := jN_p h
  rw [en] at k
  rw [en]
  exact k
end JU
def f_X3_zeros  (M : jM) (l0 l1 : Int) : Option jM :=
  lt1 (sto M l0 0 l1) fun M1 => lt1 (sto M1 l0 1 0) fun M2 => some M2
def f_X3_copy  (M : jM) (l0 l1 : Int) : Option jM :=
  lt1 (sto M l0 0 (M l1 0)) fun M1 => lt1 (sto M1 l0 1 (M1 l1 1)) fun M2 => some M2
def f_X3_add  (M : jM) (l0 l1 : Int) : Option jM :=
  lt1 (sto M l0 1 (lor (lshl (M l0 1) 2) (w32 l1))) fun M1 => lt1 (sto M1 l0 0 ((M1 l0 0) + 1)) fun M2 => some M2
def f_X3_signAt_12  (M : jM) : Option Int :=
  some (-1)
def f_X3_signAt  (M : jM) (l0 l1 : Int) : Option Int :=
  (if w32 l1 < 0 then f_X3_signAt_12 M  else (if w32 l1 < w32 (M l0 0) then some (iand (lshr (M l0 1) (2 * (((M l0 0) - 1) - l1))) 3) else f_X3_signAt_12 M ))
def f_X3_firstOnes  (M : jM) (l0 l1 : Int) : Option Int :=
  some (lshr (M l0 1) (2 * ((M l0 0) - l1)))
def f_X3_lastOnes  (M : jM) (l0 l1 : Int) : Option Int :=
  some (land (M l0 1) ((lshl 1 (2 * l1)) - 1))
def f_X3_putLast  (M : jM) (l0 l1 : Int) : Option jM :=
  (f_X3_lastOnes M l0 1).bind fun r1 => lt1 (sto M l0 1 (((M l0 1) - r1) + (w32 l1))) fun M2 => some M2
def f_X3_stepOn_L2  (M : jM) (l0 l1 : Int) (S : jM × Int) : Option ((jM × Int) ⊕ (jM ⊕ (jM × Int))) :=
  (if w32 (S.1 l0 0) ≤ w32 S.2 then some (.inr (.inl S.1)) else (if w64 (w32 l1) ≤ w64 ((land (lshr (S.1 l0 1) (2 * S.2)) 3) + 1) then lt1 (sto S.1 l0 1 ((S.1 l0 1) - (lshl (land (lshr (S.1 l0 1) (2 * S.2)) 3) (2 * S.2)))) fun M3 => some (.inl (M3, S.2 + 1)) else some (.inr (.inr (S.1, S.2)))))
def f_X3_stepOn  (M : jM) (l0 l1 : Int) : Option (Int × jM) :=
  (iter (f_X3_stepOn_L2 M l0 l1) 5000 (M, 0)).bind (Sum.elim (fun q5 => some (0, q5)) (fun q6 => lt1 (sto q6.1 l0 1 ((q6.1 l0 1) + (lshl 1 (2 * q6.2)))) fun M7 => some (1, M7)))
def f_X3_endsAt  (M : jM) (l0 l1 l2 : Int) : Option Int :=
  (if w32 l2 < w32 (M l1 0) then some 0 else (if w32 (M l0 0) < w32 l2 then some 0 else (f_X3_firstOnes M l0 l2).bind fun r3 => (if w64 (land r3 ((lshl 1 (2 * (M l1 0))) - 1)) = w64 (M l1 1) then some 1 else some 0)))
def f_X3_firstEndOf_L5  (M : jM) (l0 l1 : Int) (S : Int) : Option ((Int) ⊕ (Unit ⊕ Int)) :=
  (if w32 (M l0 0) < w32 S then some (.inr (.inl ())) else (f_X3_endsAt M l0 l1 S).bind fun r2 => (if w32 r2 = 0 then some (.inl (S + 1)) else some (.inr (.inr S))))
def f_X3_firstEndOf  (M : jM) (l0 l1 : Int) : Option Int :=
  (iter (f_X3_firstEndOf_L5 M l0 l1) 5000 (M l1 0)).bind (Sum.elim (fun q5 => some (-5)) (fun q6 => some q6))
def f_X3_has  (M : jM) (l0 l1 : Int) : Option Int :=
  (f_X3_firstEndOf M l0 l1).bind fun r1 => (if w32 r1 = (-5) then some 0 else some 1)
def f_X3_isApart  (M : jM) (l0 l1 : Int) : Option Int :=
  (f_X3_firstEndOf M l0 l1).bind fun r1 => (if w32 r1 = (-5) then (f_X3_firstEndOf M l1 l0).bind fun r3 => (if w32 r3 = (-5) then some 1 else some 0) else some 0)
def f_X7_clear  (M : jM) (l0 : Int) : Option jM :=
  lt1 (sto M l0 0 2) fun M1 => lt1 (sto M1 l0 1 1) fun M2 => lt1 (sto M2 l0 2 10) fun M3 => lt1 (sto M3 l0 3 0) fun M4 => some M4
def f_X7_copy_L34  (M : jM) (l0 l1 : Int) (S : jM × Int) : Option ((jM × Int) ⊕ jM) :=
  (if 10 ≤ w32 S.2 then some (.inr S.1) else grd (0 ≤ w32 S.2 ∧ w32 S.2 < 10) (grd (0 ≤ w32 S.2 ∧ w32 S.2 < 10) (lt1 (sto S.1 (jpt l0 4) (w32 S.2) (S.1 (jpt l1 4) (w32 S.2))) fun M8 => grd (0 ≤ w32 S.2 ∧ w32 S.2 < 10) (grd (0 ≤ w32 S.2 ∧ w32 S.2 < 10) (lt1 (sto M8 (jpt l0 5) (w32 S.2) (M8 (jpt l1 5) (w32 S.2))) fun M11 => some (.inl (M11, S.2 + 1)))))))
def f_X7_copy  (M : jM) (l0 l1 : Int) : Option jM :=
  lt1 (sto M l0 0 (M l1 0)) fun M1 => lt1 (sto M1 l0 1 (M1 l1 1)) fun M2 => lt1 (sto M2 l0 2 (M2 l1 2)) fun M3 => lt1 (sto M3 l0 3 (M3 l1 3)) fun M4 => (iter (f_X7_copy_L34 M4 l0 l1) 5000 (M4, 0)).bind (fun x12 => some x12)
def f_X7_addHeavy  (M : jM) (l0 l1 l2 : Int) : Option jM :=
  (if 10 ≤ w32 (M l0 3) then some M else grd (0 ≤ w32 (M l0 3) ∧ w32 (M l0 3) < 10) (lt1 (sto M (jpt l0 4) (w32 (M l0 3)) l1) fun M3 => grd (0 ≤ w32 (M3 l0 3) ∧ w32 (M3 l0 3) < 10) (lt1 (sto M3 (jpt l0 5) (w32 (M3 l0 3)) l2) fun M5 => lt1 (sto M5 l0 3 ((M5 l0 3) + 1)) fun M6 => some M6)))
def f_X7_place  (M : jM) (l0 l1 l2 : Int) : Option Int :=
  some (((((l0 - 2) * 3) + l1) * 10) + l2)
def f_X7_weightOf_48  (M : jM) (l0 l1 l2 l3 l4 : Int) : Option ((Int × Int) ⊕ Int) :=
  some (.inl (l3, l4 + 1))
def f_X7_weightOf_L5  (M : jM) (l0 l1 l2 : Int) (S : Int × Int) : Option ((Int × Int) ⊕ Int) :=
  (if w32 (M l0 3) ≤ w32 S.2 then some (.inr S.1) else grd (0 ≤ w32 S.2 ∧ w32 S.2 < 10) ((f_X7_place M (M l0 0) l1 l2).bind fun r3 => (if w64 (land (lshr (M (jpt l0 5) (w32 S.2)) r3) 1) = 0 then f_X7_weightOf_48 M l0 l1 l2 S.1 S.2 else grd (0 ≤ w32 S.2 ∧ w32 S.2 < 10) (f_X7_weightOf_48 M l0 l1 l2 (S.1 + (M (jpt l0 4) (w32 S.2))) S.2))))
def f_X7_weightOf  (M : jM) (l0 l1 l2 : Int) : Option Int :=
  (iter (f_X7_weightOf_L5 M l0 l1 l2) 5000 (1, 0)).bind (fun x6 => some (min (w32 x6) (w32 4)))
def f_X7_holds  (M : jM) (l0 l1 l2 : Int) : Option Int :=
  (if w32 l1 = 60 then (if w32 l2 ≤ w32 l0 then some 0 else some 1) else (if w32 l1 = 62 then (if w32 l0 ≤ w32 l2 then some 0 else some 1) else (if w32 l0 = w32 l2 then some 1 else some 0)))
def f_X7_placesOf_80  (M : jM) (l0 l1 l2 l3 l5 l6 l7 : Int) : Option ((Int × Int) ⊕ Int) :=
  some (.inl (l3, l7 + 1))
def f_X7_placesOf_54  (M : jM) (l0 l1 l2 l3 l5 l6 l7 s0 : Int) : Option ((Int × Int) ⊕ Int) :=
  (f_X7_holds M s0 l1 l2).bind fun r6 => (if w32 r6 = 0 then f_X7_placesOf_80 M l0 l1 l2 l3 l5 l6 l7 else (f_X7_place M l5 l6 l7).bind fun r8 => f_X7_placesOf_80 M l0 l1 l2 (lor l3 (lshl 1 r8)) l5 l6 l7)
def f_X7_placesOf_L23  (M : jM) (l0 l1 l2 l5 l6 : Int) (S : Int × Int) : Option ((Int × Int) ⊕ Int) :=
  (if 10 ≤ w32 S.2 then some (.inr S.1) else (if w32 l0 = 115 then f_X7_placesOf_54 M l0 l1 l2 S.1 l5 l6 S.2 l6 else (if w32 l0 = 103 then f_X7_placesOf_54 M l0 l1 l2 S.1 l5 l6 S.2 l5 else f_X7_placesOf_54 M l0 l1 l2 S.1 l5 l6 S.2 S.2)))
def f_X7_placesOf_L14  (M : jM) (l0 l1 l2 l5 : Int) (S : Int × Int) : Option ((Int × Int) ⊕ Int) :=
  (if 3 ≤ w32 S.2 then some (.inr S.1) else (iter (f_X7_placesOf_L23 M l0 l1 l2 l5 S.2) 5000 (S.1, 0)).bind (fun x9 => some (.inl (x9, S.2 + 1))))
def f_X7_placesOf_L5  (M : jM) (l0 l1 l2 : Int) (S : Int × Int) : Option ((Int × Int) ⊕ Int) :=
  (if 3 < w32 S.2 then some (.inr S.1) else (iter (f_X7_placesOf_L14 M l0 l1 l2 S.2) 5000 (S.1, 0)).bind (fun x10 => some (.inl (x10, S.2 + 1))))
def f_X7_placesOf  (M : jM) (l0 l1 l2 : Int) : Option Int :=
  (iter (f_X7_placesOf_L5 M l0 l1 l2) 5000 (0, 2)).bind (fun x11 => some x11)
def f_X6_weigh_43  (M : jM) (l0 l1 l2 l3 s0 s1 s2 : Int) : Option ((jM × Int) ⊕ jM) :=
  grd (0 ≤ w32 s1 ∧ w32 s1 < 3) (lt1 (sto M s0 (w32 s1) s2) fun M6 => grd (0 ≤ w32 l3 ∧ w32 l3 < 3) (lt1 (sto M6 l0 1 ((M6 l0 1) + (M6 (jpt l0 2) (w32 l3)))) fun M8 => some (.inl (M8, l3 + 1))))
def f_X6_weigh_L15  (M : jM) (l0 l1 l2 : Int) (S : jM × Int) : Option ((jM × Int) ⊕ jM) :=
  (if 3 ≤ w32 S.2 then some (.inr S.1) else (if w32 (S.1 l0 0) ≤ w32 S.2 then f_X6_weigh_43 S.1 l0 l1 l2 S.2 (jpt l0 2) S.2 0 else (f_X7_weightOf S.1 l1 S.2 l2).bind fun r9 => f_X6_weigh_43 S.1 l0 l1 l2 S.2 (jpt l0 2) S.2 r9))
def f_X6_weigh  (M : jM) (l0 l1 l2 : Int) : Option jM :=
  lt1 (sto M l0 0 (M l1 0)) fun M1 => lt1 (sto M1 l0 1 0) fun M2 => (iter (f_X6_weigh_L15 M2 l0 l1 l2) 5000 (M2, 0)).bind (fun x10 => some x10)
def f_X6_putFirst  (M : jM) (l0 l1 : Int) : Option jM :=
  lt1 (sto M l0 1 ((M l0 1) + (l1 - (M (jpt l0 2) 0)))) fun M1 => lt1 (sto M1 (jpt l0 2) 0 l1) fun M2 => some M2
def f_X6_weightOf_9  (M : jM) : Option Int :=
  some 0
def f_X6_weightOf  (M : jM) (l0 l1 : Int) : Option Int :=
  (if w32 l1 < 0 then f_X6_weightOf_9 M  else (if w32 l1 < 3 then grd (0 ≤ w32 l1 ∧ w32 l1 < 3) (some (M (jpt l0 2) (w32 l1))) else f_X6_weightOf_9 M ))
def f_X6_isLawful_L2  (M : jM) (l0 l1 : Int) (S : Int) : Option ((Int) ⊕ (Unit ⊕ Unit)) :=
  (if w32 (M l1 0) ≤ w32 S then some (.inr (.inl ())) else (f_X3_signAt M l1 S).bind fun r2 => (if w32 r2 < w32 (M l0 0) then some (.inl (S + 1)) else some (.inr (.inr ()))))
def f_X6_isLawful  (M : jM) (l0 l1 : Int) : Option Int :=
  (iter (f_X6_isLawful_L2 M l0 l1) 5000 0).bind (Sum.elim (fun q5 => some 1) (fun q6 => some 0))
def f_X6_product_L5  (M : jM) (l0 l1 : Int) (S : Int × Int) : Option ((Int × Int) ⊕ Int) :=
  (if w32 (M l1 0) ≤ w32 S.2 then some (.inr S.1) else (f_X3_signAt M l1 S.2).bind fun r2 => (f_X6_weightOf M l0 r2).bind fun r3 => some (.inl (S.1 * (w32 r3), S.2 + 1)))
def f_X6_product  (M : jM) (l0 l1 : Int) : Option Int :=
  (iter (f_X6_product_L5 M l0 l1) 5000 (1, 0)).bind (fun x4 => some x4)
def f_X6_lap_73  (M : jM) (l0 l1 l2 l3 l5 l7 : Int) : Option ((Int × Int × Int) ⊕ Int) :=
  some (.inl (l3, l5, l7 + 1))
def f_X6_lap_L8  (M : jM) (l0 l1 l2 : Int) (S : Int × Int × Int) : Option ((Int × Int × Int) ⊕ Int) :=
  (if w32 (M l2 0) < w32 S.2.2 then some (.inr S.1) else (f_X3_signAt M l2 (S.2.2 - 1)).bind fun r2 => (f_X6_weightOf M l0 r2).bind fun r3 => (if w32 (M l1 0) < w32 S.2.2 then f_X6_lap_73 M l0 l1 l2 (S.1 * (w32 r3)) (S.2.1 * (w32 (M l0 1))) S.2.2 else (f_X3_lastOnes M l1 S.2.2).bind fun r5 => (f_X3_firstOnes M l2 S.2.2).bind fun r6 => (if w64 r5 = w64 r6 then f_X6_lap_73 M l0 l1 l2 ((S.1 * (w32 r3)) + (S.2.1 * (w32 (M l0 1)))) (S.2.1 * (w32 (M l0 1))) S.2.2 else f_X6_lap_73 M l0 l1 l2 (S.1 * (w32 r3)) (S.2.1 * (w32 (M l0 1))) S.2.2)))
def f_X6_lap  (M : jM) (l0 l1 l2 : Int) : Option Int :=
  (iter (f_X6_lap_L8 M l0 l1 l2) 5000 (0, 1, 1)).bind (fun x8 => some x8)
def f_X8_copy_L2  (M : jM) (l0 l1 : Int) (S : jM × Int) : Option ((jM × Int) ⊕ jM) :=
  (if w32 (S.1 l1 1) ≤ w32 S.2 then some (.inr S.1) else grd (0 ≤ w32 S.2 ∧ w32 S.2 < 100) (grd (0 ≤ w32 S.2 ∧ w32 S.2 < 100) (lt1 (sto S.1 (jpt l0 0) (w32 S.2) (S.1 (jpt l1 0) (w32 S.2))) fun M4 => some (.inl (M4, S.2 + 1)))))
def f_X8_copy_L76  (M : jM) (l0 l1 : Int) (S : jM × Int) : Option ((jM × Int) ⊕ jM) :=
  (if 6 ≤ w32 S.2 then some (.inr S.1) else grd (0 ≤ w32 S.2 ∧ w32 S.2 < 6) (grd (0 ≤ w32 S.2 ∧ w32 S.2 < 6) ((f_X3_copy S.1 (jpt (jpt l0 6) (w32 S.2)) (jpt (jpt l1 6) (w32 S.2))).bind fun r14 => some (.inl (r14, S.2 + 1)))))
def f_X8_copy_L113  (M : jM) (l0 l1 : Int) (S : jM × Int) : Option ((jM × Int) ⊕ jM) :=
  (if 4 ≤ w32 S.2 then some (.inr S.1) else grd (0 ≤ w32 S.2 ∧ w32 S.2 < 4) (grd (0 ≤ w32 S.2 ∧ w32 S.2 < 4) (lt1 (sto S.1 (jpt l0 8) (w32 S.2) (S.1 (jpt l1 8) (w32 S.2))) fun M20 => grd (0 ≤ w32 S.2 ∧ w32 S.2 < 4) (grd (0 ≤ w32 S.2 ∧ w32 S.2 < 4) (lt1 (sto M20 (jpt l0 9) (w32 S.2) (M20 (jpt l1 9) (w32 S.2))) fun M23 => grd (0 ≤ w32 S.2 ∧ w32 S.2 < 4) (grd (0 ≤ w32 S.2 ∧ w32 S.2 < 4) ((f_X3_copy M23 (jpt (jpt l0 10) (w32 S.2)) (jpt (jpt l1 10) (w32 S.2))).bind fun r26 => some (.inl (r26, S.2 + 1)))))))))
def f_X8_copy  (M : jM) (l0 l1 : Int) : Option jM :=
  (iter (f_X8_copy_L2 M l0 l1) 5000 (M, 0)).bind (fun x5 => lt1 (sto x5 l0 1 (x5 l1 1)) fun M6 => (f_X7_copy M6 (jpt l0 2) (jpt l1 2)).bind fun r7 => lt1 (sto r7 l0 3 (r7 l1 3)) fun M8 => lt1 (sto M8 l0 4 (M8 l1 4)) fun M9 => (f_X3_copy M9 (jpt l0 5) (jpt l1 5)).bind fun r10 => (iter (f_X8_copy_L76 r10 l0 l1) 5000 (r10, 0)).bind (fun x15 => lt1 (sto x15 l0 7 (x15 l1 7)) fun M16 => (iter (f_X8_copy_L113 M16 l0 l1) 5000 (M16, 0)).bind (fun x27 => lt1 (sto x27 l0 11 (x27 l1 11)) fun M28 => (f_X3_copy M28 (jpt l0 12) (jpt l1 12)).bind fun r29 => some r29)))
def f_X8_addByte  (M : jM) (l0 l1 : Int) : Option (Int × jM) :=
  (if w32 (M l0 1) < 100 then grd (0 ≤ w32 (M l0 1) ∧ w32 (M l0 1) < 100) (lt1 (sto M (jpt l0 0) (w32 (M l0 1)) l1) fun M3 => lt1 (sto M3 l0 1 ((M3 l0 1) + 1)) fun M4 => some (1, M4)) else some (0, M))
def f_X8_addPlayer  (M : jM) (l0 l1 l2 : Int) : Option (Int × jM) :=
  (if w32 (M l0 11) < 4 then grd (0 ≤ w32 (M l0 11) ∧ w32 (M l0 11) < 4) (lt1 (sto M (jpt l0 8) (w32 (M l0 11)) l1) fun M3 => grd (0 ≤ w32 (M3 l0 11) ∧ w32 (M3 l0 11) < 4) (lt1 (sto M3 (jpt l0 9) (w32 (M3 l0 11)) l2) fun M5 => lt1 (sto M5 l0 11 ((M5 l0 11) + 1)) fun M6 => some (1, M6))) else some (0, M))
def f_X8_hasPlayer  (M : jM) (l0 l1 : Int) : Option Int :=
  (if w32 l1 < 0 then some 0 else (if w32 (M l0 11) ≤ w32 l1 then some 0 else some 1))
def f_X8_rowAt_12  (M : jM) : Option Int :=
  some (-1)
def f_X8_rowAt  (M : jM) (l0 l1 : Int) : Option Int :=
  (if w32 l1 < 0 then f_X8_rowAt_12 M  else (if w32 l1 < w32 (M l0 7) then grd (0 ≤ w32 l1 ∧ w32 l1 < 6) (some (jpt (jpt l0 6) (w32 l1))) else f_X8_rowAt_12 M ))
def f_X2_measure  (M : jM) (l0 l1 l2 l3 : Int) : Option jM :=
  (f_X6_product M l1 l2).bind fun r1 => (f_X6_product M l1 l3).bind fun r2 => (f_X6_lap M l1 l2 l2).bind fun r3 => (f_X6_lap M l1 l3 l2).bind fun r4 => (f_X6_lap M l1 l3 l3).bind fun r5 => (f_X6_lap M l1 l2 l3).bind fun r6 => lt1 (sto M l0 0 ((r5 * r1) - (r4 * r2))) fun M7 => lt1 (sto M7 l0 1 ((r3 * r2) - (r6 * r1))) fun M8 => lt1 (sto M8 l0 2 ((M8 l0 0) + (M8 l0 1))) fun M9 => lt1 (sto M9 l0 3 ((r3 * r5) - (r4 * r6))) fun M10 => some M10
def f_X1_begin  (M : jM) (l0 l1 : Int) : Option jM :=
  (f_X3_zeros M (jpt l0 1) l1).bind fun r1 => lt1 (sto r1 l0 2 0) fun M2 => some M2
def f_X9_compare_L17  (M : jM) (S : Int × Int × Int × Int × Int) : Option ((Int × Int × Int × Int × Int) ⊕ (Unit ⊕ (Int × Int) ⊕ (Int × Int))) :=
  (if 200 ≤ w32 S.2.2.2.2 then some (.inr (.inl ())) else (if w64 S.2.1 = 0 then some (.inr (.inr (.inl (S.2.1, S.2.2.2.1)))) else (if w64 S.2.2.2.1 = 0 then some (.inr (.inr (.inl (S.2.1, S.2.2.2.1)))) else grd (¬ w64 S.2.1 = 0) (grd (¬ w64 S.2.2.2.1 = 0) ((if w64 ((w64 S.1).tdiv (w64 S.2.1)) = w64 ((w64 S.2.2.1).tdiv (w64 S.2.2.2.1)) then some (.inl (S.2.2.2.1, S.2.2.1 - (((w64 S.2.2.1).tdiv (w64 S.2.2.2.1)) * S.2.2.2.1), S.2.1, S.1 - (((w64 S.1).tdiv (w64 S.2.1)) * S.2.1), S.2.2.2.2 + 1)) else some (.inr (.inr (.inr (((w64 S.1).tdiv (w64 S.2.1)), ((w64 S.2.2.1).tdiv (w64 S.2.2.2.1))))))))))))
def f_X9_compare  (M : jM) (l0 l2 l4 l6 : Int) : Option Int :=
  (iter (f_X9_compare_L17 M ) 5000 (l0, l2, l4, l6, 0)).bind (Sum.elim (fun q8 => some 0) (Sum.elim (fun q9 => (if w64 q9.1 = w64 q9.2 then some 0 else (if w64 q9.1 = 0 then some 1 else some (-1)))) (fun q12 => (if w64 q12.2 ≤ w64 q12.1 then some 1 else some (-1)))))
def f_X1_consider_51  (M : jM) (l0 l1 l3 : Int) : Option jM :=
  lt1 (sto M l0 2 1) fun M3 => (f_X3_copy M3 (jpt l0 0) (jpt l0 1)).bind fun r4 => lt1 (sto r4 l0 3 l1) fun M5 => lt1 (sto M5 l0 4 l3) fun M6 => some M6
def f_X1_consider_24  (M : jM) (l0 l1 l3 l5 s0 : Int) : Option jM :=
  (if w32 (M l0 2) = 0 then f_X1_consider_51 M l0 l1 l3 else (if w32 l5 = 0 then (if 0 ≤ w32 s0 then some M else f_X1_consider_51 M l0 l1 l3) else (if w32 s0 ≤ 0 then some M else f_X1_consider_51 M l0 l1 l3)))
def f_X1_consider  (M : jM) (l0 l1 l3 l5 : Int) : Option jM :=
  (if w32 (M l0 2) = 0 then f_X1_consider_24 M l0 l1 l3 l5 0 else (f_X9_compare M l1 l3 (M l0 3) (M l0 4)).bind fun r10 => f_X1_consider_24 M l0 l1 l3 l5 r10)
def f_X1_considerWait  (M : jM) (l0 l1 l2 : Int) : Option jM :=
  (f_X6_lap M l1 (jpt l0 1) (jpt l0 1)).bind fun r1 => (f_X6_product M l1 (jpt l0 1)).bind fun r2 => (f_X1_consider M l0 r1 r2 l2).bind fun r3 => some r3
def f_X1_findBest_58  (M : jM) (l0 l1 l2 l3 l6 : Int) : Option ((jM × Int × Int) ⊕ jM) :=
  (f_X3_stepOn M (jpt l0 1) (M l1 0)).bind fun r6 => some (.inl (r6.2, r6.1, l6 + 1))
def f_X1_findBest_L12  (M : jM) (l0 l1 l2 l3 : Int) (S : jM × Int × Int) : Option ((jM × Int × Int) ⊕ jM) :=
  (if 81 ≤ w32 S.2.2 then some (.inr S.1) else (if w32 S.2.1 = 0 then some (.inr S.1) else (f_X3_isApart S.1 (jpt l0 1) l3).bind fun r4 => (if w32 r4 = 0 then f_X1_findBest_58 S.1 l0 l1 l2 l3 S.2.2 else (f_X2_measure S.1 l2 l1 (jpt l0 1) l3).bind fun r7 => (f_X1_consider r7 l0 (r7 l2 0) (r7 l2 2) 1).bind fun r8 => f_X1_findBest_58 r8 l0 l1 l2 l3 S.2.2)))
def f_X1_findBest  (M : jM) (l0 l1 l2 l3 l4 : Int) : Option (Int × jM) :=
  (f_X1_begin M l0 l4).bind fun r1 => (iter (f_X1_findBest_L12 r1 l0 l1 l2 l3) 5000 (r1, 1, 0)).bind (fun x9 => grd (x9 l0 2 = 0 ∨ x9 l0 2 = 1) (some (x9 l0 2, x9)))
def f_X1_findSlowBest_63  (M : jM) (l0 l1 l2 l3 l6 : Int) : Option ((jM × Int × Int) ⊕ jM) :=
  (f_X3_stepOn M (jpt l0 1) (M l1 0)).bind fun r6 => some (.inl (r6.2, r6.1, l6 + 1))
def f_X1_findSlowBest_L12  (M : jM) (l0 l1 l2 l3 : Int) (S : jM × Int × Int) : Option ((jM × Int × Int) ⊕ jM) :=
  (if 81 ≤ w32 S.2.2 then some (.inr S.1) else (if w32 S.2.1 = 0 then some (.inr S.1) else (f_X3_isApart S.1 (jpt l0 1) l3).bind fun r4 => (if w32 r4 = 0 then f_X1_findSlowBest_63 S.1 l0 l1 l2 l3 S.2.2 else (f_X2_measure S.1 l2 l1 (jpt l0 1) l3).bind fun r7 => (if w64 (r7 l2 0) < w64 (r7 l2 1) then f_X1_findSlowBest_63 r7 l0 l1 l2 l3 S.2.2 else (f_X1_considerWait r7 l0 l1 1).bind fun r9 => f_X1_findSlowBest_63 r9 l0 l1 l2 l3 S.2.2))))
def f_X1_findSlowBest  (M : jM) (l0 l1 l2 l3 l4 : Int) : Option (Int × jM) :=
  (f_X1_begin M l0 l4).bind fun r1 => (iter (f_X1_findSlowBest_L12 r1 l0 l1 l2 l3) 5000 (r1, 1, 0)).bind (fun x10 => grd (x10 l0 2 = 0 ∨ x10 l0 2 = 1) (some (x10 l0 2, x10)))
def f_X1_findByWait_L11  (M : jM) (l0 l1 l3 : Int) (S : jM × Int × Int) : Option ((jM × Int × Int) ⊕ jM) :=
  (if 81 ≤ w32 S.2.2 then some (.inr S.1) else (if w32 S.2.1 = 0 then some (.inr S.1) else (f_X1_considerWait S.1 l0 l1 l3).bind fun r4 => (f_X3_stepOn r4 (jpt l0 1) (r4 l1 0)).bind fun r5 => some (.inl (r5.2, r5.1, S.2.2 + 1))))
def f_X1_findByWait  (M : jM) (l0 l1 l2 l3 : Int) : Option jM :=
  (f_X1_begin M l0 l2).bind fun r1 => (iter (f_X1_findByWait_L11 r1 l0 l1 l3) 5000 (r1, 1, 0)).bind (fun x6 => some x6)
def f_X1_findBeside_38  (M : jM) (s0 s1 : Int) : Option jM :=
  (f_X3_putLast M s0 s1).bind fun r4 => some r4
def f_X1_findBeside  (M : jM) (l0 l1 l2 : Int) : Option jM :=
  (f_X3_signAt M l2 ((M l2 0) - 1)).bind fun r1 => (f_X3_copy M (jpt l0 0) l2).bind fun r2 => (if w32 (r2 l1 0) ≤ w32 (r1 + 1) then f_X1_findBeside_38 r2 (jpt l0 0) 0 else f_X1_findBeside_38 r2 (jpt l0 0) (r1 + 1))
def f_X4_addNode_L13  (M : jM) (l0 : Int) (S : jM × Int) : Option ((jM × Int) ⊕ jM) :=
  (if 3 ≤ w32 S.2 then some (.inr S.1) else grd (0 ≤ w32 (((S.1 l0 6) * 3) + S.2) ∧ w32 (((S.1 l0 6) * 3) + S.2) < 111) (lt1 (sto S.1 (jpt l0 0) (w32 (((S.1 l0 6) * 3) + S.2)) (-1)) fun M4 => some (.inl (M4, S.2 + 1))))
def f_X4_addNode  (M : jM) (l0 : Int) : Option (Int × jM) :=
  (if w32 (M l0 6) < 37 then (iter (f_X4_addNode_L13 M l0) 5000 (M, 0)).bind (fun x5 => grd (0 ≤ w32 (x5 l0 6) ∧ w32 (x5 l0 6) < 37) (lt1 (sto x5 (jpt l0 1) (w32 (x5 l0 6)) 0) fun M7 => grd (0 ≤ w32 (M7 l0 6) ∧ w32 (M7 l0 6) < 37) (lt1 (sto M7 (jpt l0 2) (w32 (M7 l0 6)) 6) fun M9 => lt1 (sto M9 l0 6 ((M9 l0 6) + 1)) fun M10 => some ((M10 l0 6) - 1, M10)))) else some (0, M))
def f_X4_grow_47  (M : jM) (l0 l1 l2 l3 l5 : Int) : Option jM :=
  grd (0 ≤ w32 l5 ∧ w32 l5 < 111) (grd (0 ≤ w32 l2 ∧ w32 l2 < 6) (lt1 (sto M (jpt l0 3) (w32 l2) (M (jpt l0 0) (w32 l5))) fun M8 => (if w32 l3 = w32 ((M8 l1 0) - 1) then grd (0 ≤ w32 l2 ∧ w32 l2 < 6) (grd (0 ≤ w32 l2 ∧ w32 l2 < 6) (grd (0 ≤ w32 (M8 (jpt l0 3) (w32 l2)) ∧ w32 (M8 (jpt l0 3) (w32 l2)) < 37) (grd (0 ≤ w32 (M8 (jpt l0 3) (w32 l2)) ∧ w32 (M8 (jpt l0 3) (w32 l2)) < 37) (lt1 (sto M8 (jpt l0 2) (w32 (M8 (jpt l0 3) (w32 l2))) (min (w32 (M8 (jpt l0 2) (w32 (M8 (jpt l0 3) (w32 l2))))) (w32 l2))) fun M14 => some M14)))) else some M8)))
def f_X4_grow  (M : jM) (l0 l1 l2 l3 : Int) : Option jM :=
  (f_X3_signAt M l1 l3).bind fun r1 => (if 0 ≤ w32 r1 then grd (0 ≤ w32 l2 ∧ w32 l2 < 6) (grd (0 ≤ w32 (((M (jpt l0 3) (w32 l2)) * 3) + r1) ∧ w32 (((M (jpt l0 3) (w32 l2)) * 3) + r1) < 111) ((if 0 ≤ w32 (M (jpt l0 0) (w32 (((M (jpt l0 3) (w32 l2)) * 3) + r1))) then f_X4_grow_47 M l0 l1 l2 l3 (((M (jpt l0 3) (w32 l2)) * 3) + r1) else (f_X4_addNode M l0).bind fun r15 => grd (0 ≤ w32 (((M (jpt l0 3) (w32 l2)) * 3) + r1) ∧ w32 (((M (jpt l0 3) (w32 l2)) * 3) + r1) < 111) (lt1 (sto r15.2 (jpt l0 0) (w32 (((M (jpt l0 3) (w32 l2)) * 3) + r1)) r15.1) fun M17 => f_X4_grow_47 M17 l0 l1 l2 l3 (((M (jpt l0 3) (w32 l2)) * 3) + r1))))) else some M)
def f_X4_link_112  (M : jM) (l0 l1 l2 : Int) : Option ((jM × Int) ⊕ jM) :=
  some (.inl (M, l2 + 1))
def f_X4_link_49  (M : jM) (l0 l1 l2 l3 s0 : Int) : Option ((jM × Int) ⊕ jM) :=
  grd (0 ≤ w32 l3 ∧ w32 l3 < 111) ((if 0 ≤ w32 (M (jpt l0 0) (w32 l3)) then grd (0 ≤ w32 l3 ∧ w32 l3 < 111) (grd (0 ≤ w32 (M (jpt l0 0) (w32 l3)) ∧ w32 (M (jpt l0 0) (w32 l3)) < 37) (lt1 (sto M (jpt l0 1) (w32 (M (jpt l0 0) (w32 l3))) s0) fun M10 => grd (0 ≤ w32 (M (jpt l0 0) (w32 l3)) ∧ w32 (M (jpt l0 0) (w32 l3)) < 37) (grd (0 ≤ w32 s0 ∧ w32 s0 < 37) (grd (0 ≤ w32 (M (jpt l0 0) (w32 l3)) ∧ w32 (M (jpt l0 0) (w32 l3)) < 37) (lt1 (sto M10 (jpt l0 2) (w32 (M (jpt l0 0) (w32 l3))) (min (w32 (M10 (jpt l0 2) (w32 (M (jpt l0 0) (w32 l3))))) (w32 (M10 (jpt l0 2) (w32 s0))))) fun M14 => f_X4_link_112 M14 l0 l1 l2))))) else grd (0 ≤ w32 l3 ∧ w32 l3 < 111) (lt1 (sto M (jpt l0 0) (w32 l3) s0) fun M16 => f_X4_link_112 M16 l0 l1 l2)))
def f_X4_link_L12  (M : jM) (l0 l1 : Int) (S : jM × Int) : Option ((jM × Int) ⊕ jM) :=
  (if w32 (S.1 l0 7) ≤ w32 S.2 then some (.inr S.1) else (if w32 l1 = 0 then f_X4_link_49 S.1 l0 l1 S.2 ((l1 * 3) + S.2) 0 else grd (0 ≤ w32 l1 ∧ w32 l1 < 37) (grd (0 ≤ w32 (((S.1 (jpt l0 1) (w32 l1)) * 3) + S.2) ∧ w32 (((S.1 (jpt l0 1) (w32 l1)) * 3) + S.2) < 111) (f_X4_link_49 S.1 l0 l1 S.2 ((l1 * 3) + S.2) (S.1 (jpt l0 0) (w32 (((S.1 (jpt l0 1) (w32 l1)) * 3) + S.2)))))))
def f_X4_link_L2  (M : jM) (l0 : Int) (S : jM × Int) : Option ((jM × Int) ⊕ jM) :=
  (if w32 (S.1 l0 6) ≤ w32 S.2 then some (.inr S.1) else (iter (f_X4_link_L12 S.1 l0 S.2) 5000 (S.1, 0)).bind (fun x17 => some (.inl (x17, S.2 + 1))))
def f_X4_link  (M : jM) (l0 : Int) : Option jM :=
  (iter (f_X4_link_L2 M l0) 5000 (M, 0)).bind (fun x18 => some x18)
def f_X4_build_L25  (M : jM) (l0 l1 l2 : Int) (S : jM × Int) : Option ((jM × Int) ⊕ jM) :=
  (if 6 ≤ w32 S.2 then some (.inr S.1) else grd (0 ≤ w32 S.2 ∧ w32 S.2 < 6) (lt1 (sto S.1 (jpt l0 3) (w32 S.2) 0) fun M7 => some (.inl (M7, S.2 + 1))))
def f_X4_build_92  (M : jM) (l0 l1 l2 l3 l4 : Int) : Option ((jM × Int) ⊕ jM) :=
  some (.inl (M, l4 + 1))
def f_X4_build_L55  (M : jM) (l0 l1 l2 l3 : Int) (S : jM × Int) : Option ((jM × Int) ⊕ jM) :=
  (if w32 (S.1 l1 7) ≤ w32 S.2 then some (.inr S.1) else grd (0 ≤ w32 S.2 ∧ w32 S.2 < 6) ((f_X6_isLawful S.1 l2 (jpt (jpt l1 6) (w32 S.2))).bind fun r12 => (if w32 r12 = 0 then f_X4_build_92 S.1 l0 l1 l2 l3 S.2 else grd (0 ≤ w32 S.2 ∧ w32 S.2 < 6) ((f_X4_grow S.1 l0 (jpt (jpt l1 6) (w32 S.2)) S.2 l3).bind fun r15 => f_X4_build_92 r15 l0 l1 l2 l3 S.2))))
def f_X4_build_L46  (M : jM) (l0 l1 l2 : Int) (S : jM × Int) : Option ((jM × Int) ⊕ jM) :=
  (if 6 ≤ w32 S.2 then some (.inr S.1) else (iter (f_X4_build_L55 S.1 l0 l1 l2 S.2) 5000 (S.1, 0)).bind (fun x16 => some (.inl (x16, S.2 + 1))))
def f_X4_build  (M : jM) (l0 l1 l2 : Int) : Option jM :=
  lt1 (sto M l0 8 l2) fun M1 => lt1 (sto M1 l0 7 (M1 l2 0)) fun M2 => lt1 (sto M2 l0 6 0) fun M3 => (f_X4_addNode M3 l0).bind fun r4 => (iter (f_X4_build_L25 r4.2 l0 l1 l2) 5000 (r4.2, 0)).bind (fun x8 => (iter (f_X4_build_L46 x8 l0 l1 l2) 5000 (x8, 0)).bind (fun x17 => (f_X4_link x17 l0).bind fun r18 => some r18))
def f_X4_begin_L2  (M : jM) (l0 : Int) (S : jM × Int) : Option ((jM × Int) ⊕ jM) :=
  (if w32 (S.1 l0 6) ≤ w32 S.2 then some (.inr S.1) else grd (jkd (S.1 l0 4) = (12, 37)) (grd (0 ≤ w32 S.2 ∧ w32 S.2 < 37) (lt1 (sto S.1 (S.1 l0 4) (w32 S.2) 0) fun M4 => some (.inl (M4, S.2 + 1)))))
def f_X4_begin  (M : jM) (l0 : Int) : Option jM :=
  (iter (f_X4_begin_L2 M l0) 5000 (M, 0)).bind (fun x5 => grd (jkd (x5 l0 4) = (12, 37)) (lt1 (sto x5 (x5 l0 4) 0 1) fun M7 => some M7))
def f_X4_throwOnce_L5  (M : jM) (l0 l1 l2 l3 : Int) (S : jM × Int) : Option ((jM × Int) ⊕ jM) :=
  (if w32 (S.1 l0 6) ≤ w32 S.2 then some (.inr S.1) else grd (jkd (S.1 l0 5) = (12, 37)) (grd (0 ≤ w32 S.2 ∧ w32 S.2 < 37) (lt1 (sto S.1 (S.1 l0 5) (w32 S.2) 0) fun M4 => some (.inl (M4, S.2 + 1)))))
def f_X4_throwOnce_149  (M : jM) (l0 l1 l2 l3 l5 l6 : Int) : Option ((jM × Int × Int) ⊕ ((jM × Int))) :=
  some (.inl (M, l3, l6 + 1))
def f_X4_throwOnce_102  (M : jM) (l0 l1 l2 l3 l5 l6 l7 s0 s1 : Int) : Option ((jM × Int × Int) ⊕ ((jM × Int))) :=
  grd (0 ≤ w32 l7 ∧ w32 l7 < 37) ((if w32 (M (jpt l0 2) (w32 l7)) = 6 then grd (jkd (M l0 5) = (12, 37)) (grd (0 ≤ w32 l7 ∧ w32 l7 < 37) (grd (0 ≤ w32 l7 ∧ w32 l7 < 37) (lt1 (sto M (M l0 5) (w32 l7) ((M (M l0 5) (w32 l7)) + (s0 * (w32 s1)))) fun M22 => f_X4_throwOnce_149 M22 l0 l1 l2 l3 l5 l6))) else grd (0 ≤ w32 l7 ∧ w32 l7 < 37) ((if w32 (M (jpt l0 2) (w32 l7)) = w32 l1 then f_X4_throwOnce_149 M l0 l1 l2 (l3 + (s0 * (w32 s1))) l5 l6 else f_X4_throwOnce_149 M l0 l1 l2 l3 l5 l6))))
def f_X4_throwOnce_L43  (M : jM) (l0 l1 l2 l5 : Int) (S : jM × Int × Int) : Option ((jM × Int × Int) ⊕ ((jM × Int))) :=
  (if w32 (S.1 l0 7) ≤ w32 S.2.2 then some (.inr (S.1, S.2.1)) else grd (jkd (S.1 l0 4) = (12, 37)) (grd (0 ≤ w32 l5 ∧ w32 l5 < 37) ((if w64 (S.1 (S.1 l0 4) (w32 l5)) = 0 then some (.inr (S.1, S.2.1)) else grd (0 ≤ w32 ((l5 * 3) + S.2.2) ∧ w32 ((l5 * 3) + S.2.2) < 111) (grd (jkd (S.1 l0 4) = (12, 37)) (grd (0 ≤ w32 l5 ∧ w32 l5 < 37) ((if w32 l2 = 0 then f_X4_throwOnce_102 S.1 l0 l1 l2 S.2.1 l5 S.2.2 (S.1 (jpt l0 0) (w32 ((l5 * 3) + S.2.2))) (S.1 (S.1 l0 4) (w32 l5)) 1 else grd (jkd (S.1 l0 8) = (6, 0)) ((f_X6_weightOf S.1 (S.1 l0 8) S.2.2).bind fun r24 => f_X4_throwOnce_102 S.1 l0 l1 l2 S.2.1 l5 S.2.2 (S.1 (jpt l0 0) (w32 ((l5 * 3) + S.2.2))) (S.1 (S.1 l0 4) (w32 l5)) r24)))))))))
def f_X4_throwOnce_L31  (M : jM) (l0 l1 l2 : Int) (S : jM × Int × Int) : Option ((jM × Int × Int) ⊕ ((jM × Int))) :=
  (if w32 (S.1 l0 6) ≤ w32 S.2.2 then some (.inr (S.1, S.2.1)) else (iter (f_X4_throwOnce_L43 S.1 l0 l1 l2 S.2.2) 5000 (S.1, S.2.1, 0)).bind (fun x25 => some (.inl (x25.1, x25.2, S.2.2 + 1))))
def f_X4_throwOnce  (M : jM) (l0 l1 l2 : Int) : Option (Int × jM) :=
  (iter (f_X4_throwOnce_L5 M l0 l1 l2 0) 5000 (M, 0)).bind (fun x5 => (iter (f_X4_throwOnce_L31 x5 l0 l1 l2) 5000 (x5, 0, 0)).bind (fun x26 => grd (jkd (x26.1 l0 4) = (12, 37)) (grd (jkd (x26.1 l0 5) = (12, 37)) (lt1 (sto x26.1 l0 4 (x26.1 l0 5)) fun M29 => lt1 (sto M29 l0 5 (x26.1 l0 4)) fun M30 => some (x26.2, M30)))))
def f_X4_winsOf_L9  (M : jM) (l0 l1 l2 : Int) (S : jM × Int × Int) : Option ((jM × Int × Int) ⊕ ((jM × Int))) :=
  (if w32 l2 ≤ w32 S.2.2 then some (.inr (S.1, S.2.1)) else grd (jkd (S.1 l0 8) = (6, 0)) ((f_X4_throwOnce S.1 l0 l1 1).bind fun r4 => some (.inl (r4.2, (S.2.1 * (w32 (S.1 (S.1 l0 8) 1))) + r4.1, S.2.2 + 1))))
def f_X4_winsOf  (M : jM) (l0 l1 l2 : Int) : Option (Int × jM) :=
  (f_X4_begin M l0).bind fun r1 => (iter (f_X4_winsOf_L9 r1 l0 l1 l2) 5000 (r1, 0, 0)).bind (fun x5 => some (x5.2, x5.1))
def f_X4_rowsWithNone_L6  (M : jM) (l0 l1 : Int) (S : jM × Int) : Option ((jM × Int) ⊕ jM) :=
  (if w32 l1 ≤ w32 S.2 then some (.inr S.1) else (f_X4_throwOnce S.1 l0 6 0).bind fun r3 => some (.inl (r3.2, S.2 + 1)))
def f_X4_rowsWithNone_L30  (M : jM) (l0 : Int) (S : Int × Int) : Option ((Int × Int) ⊕ Int) :=
  (if w32 (M l0 6) ≤ w32 S.2 then some (.inr S.1) else grd (jkd (M l0 4) = (12, 37)) (grd (0 ≤ w32 S.2 ∧ w32 S.2 < 37) (some (.inl (S.1 + (M (M l0 4) (w32 S.2)), S.2 + 1)))))
def f_X4_rowsWithNone  (M : jM) (l0 l1 : Int) : Option (Int × jM) :=
  (f_X4_begin M l0).bind fun r1 => (iter (f_X4_rowsWithNone_L6 r1 l0 l1) 5000 (r1, 0)).bind (fun x4 => (iter (f_X4_rowsWithNone_L30 x4 l0) 5000 (0, 0)).bind (fun x8 => some (x8, x4)))
def f_X0_forget  (M : jM) (l0 : Int) : Option jM :=
  lt1 (sto M l0 1 0) fun M1 => some M1
def f_X0_bodyOf_19  (M : jM) : Option Int :=
  some 0
def f_X0_bodyOf  (M : jM) (l0 l1 : Int) : Option Int :=
  (if w32 l0 < 0 then f_X0_bodyOf_19 M  else (if 7 ≤ w32 l0 then f_X0_bodyOf_19 M  else (if w32 l1 < 0 then f_X0_bodyOf_19 M  else (if w32 l1 < 3 then grd (0 ≤ w32 ((l0 * 3) + l1) ∧ w32 ((l0 * 3) + l1) < 21) (some (jbodies (w32 ((l0 * 3) + l1)).toNat)) else f_X0_bodyOf_19 M ))))
def f_X9_above_10  (M : jM) : Option Int :=
  some (-1)
def f_X9_above  (M : jM) (l0 : Int) : Option Int :=
  (if w32 l0 < 0 then f_X9_above_10 M  else (if w32 l0 < 7 then grd (0 ≤ w32 l0 ∧ w32 l0 < 7) (some (jabove (w32 l0).toNat)) else f_X9_above_10 M ))
def f_X0_note_19  (M : jM) (l0 : Int) : Option jM :=
  lt1 (sto M l0 1 ((M l0 1) + 1)) fun M2 => some M2
def f_X0_note  (M : jM) (l0 l1 : Int) : Option jM :=
  (if 20 ≤ w32 (M l0 1) then f_X0_note_19 M l0 else grd (0 ≤ w32 (M l0 1) ∧ w32 (M l0 1) < 20) (lt1 (sto M (jpt l0 0) (w32 (M l0 1)) l1) fun M4 => f_X0_note_19 M4 l0))
def f_X0_run_L15 (r_X0_run : jM → Int → Int → Int → Int → Int → Option (Int × jM)) (M : jM) (l0 l2 l3 l4 : Int) (S : Int × Int) : Option ((Int × Int) ⊕ Int) :=
  (if 7 ≤ w32 S.2 then some (.inr S.1) else (f_X0_bodyOf M S.1 l2).bind fun r3 => (if w32 r3 = 0 then (f_X9_above M S.1).bind fun r5 => some (.inl (r5, S.2 + 1)) else some (.inr S.1)))
def fb_X0_run (r_X0_run : jM → Int → Int → Int → Int → Int → Option (Int × jM)) (M : jM) (l0 l1 l2 l3 l4 : Int) : Option (Int × jM) :=
  (if w32 l4 < 20 then (iter (f_X0_run_L15 r_X0_run M l0 l2 l3 l4) 5000 (l1, 0)).bind (fun x6 => (f_X0_bodyOf M x6 l2).bind fun r7 => (f_X9_above M x6).bind fun r8 => (f_X0_note M l0 r7).bind fun r9 => (if w32 r7 = 1 then some (l3 + (r9 l0 4), r9) else (if w32 r7 = 2 then (r_X0_run r9 l0 (r9 l0 2) 0 l3 (l4 + 1)).bind fun r12 => some (r12.1 - (r12.2 l0 3), r12.2) else (if w32 r7 = 3 then (r_X0_run r9 l0 (r9 l0 2) 1 l3 (l4 + 1)).bind fun r14 => some (r14.1 * 2, r14.2) else (if w32 r7 = 11 then (r_X0_run r9 l0 r8 0 (l3 * 3) (l4 + 1)).bind fun r16 => some (r16.1, r16.2) else (if w32 r7 = 21 then (r_X0_run r9 l0 r8 1 l3 (l4 + 1)).bind fun r18 => some ((-r18.1), r18.2) else (if w32 r7 = 31 then (r_X0_run r9 l0 r8 2 l3 (l4 + 1)).bind fun r20 => some (ixor r20.1 7, r20.2) else (if w32 r7 = 41 then (r_X0_run r9 l0 r8 2 (l3 - 1) (l4 + 1)).bind fun r22 => (r_X0_run r22.2 l0 (r22.2 l0 2) 0 2 (l4 + 1)).bind fun r23 => some (r22.1 + r23.1, r23.2) else (if w32 r7 = 51 then (r_X0_run r9 l0 r8 0 l3 (l4 + 1)).bind fun r25 => some (ixor r25.1 (r25.2 l0 4), r25.2) else (if w32 r7 = 61 then (r_X0_run r9 l0 r8 1 l3 (l4 + 1)).bind fun r27 => some (r27.1 + (r27.2 l0 3), r27.2) else some (0, r9))))))))))) else some (0, M))
def fx_ac : Nat → Nat → jM → Int → Int → Int → Int → Int → Option (Int × jM)
  | 0, _ => fun _ _ _ _ _ _ => none
  | d + 1, _ => fb_X0_run (fx_ac d 0)
def ft_X0_run : jM → Int → Int → Int → Int → Int → Option (Int × jM) := fx_ac 40 0
def f_X0_perform  (M : jM) (l0 l1 l2 l3 l4 : Int) : Option (Int × jM) :=
  (f_X8_hasPlayer M l1 l2).bind fun r1 => (if w32 r1 = 0 then some (0, M) else grd (0 ≤ w32 l2 ∧ w32 l2 < 4) (lt1 (sto M l0 2 (M (jpt l1 8) (w32 l2))) fun M4 => grd (0 ≤ w32 l2 ∧ w32 l2 < 4) (lt1 (sto M4 l0 3 (M4 (jpt l1 9) (w32 l2))) fun M6 => lt1 (sto M6 l0 4 l2) fun M7 => (ft_X0_run M7 l0 (M7 l0 2) l3 l4 0).bind fun r8 => some (r8.1, r8.2))))
def f_X5_next_30  (M : jM) : Option Int :=
  some (-1)
def f_X5_next  (M : jM) (l0 : Int) : Option Int :=
  (if w32 (M l0 2) < 0 then f_X5_next_30 M  else (if w32 (M l0 1) ≤ w32 (M l0 2) then f_X5_next_30 M  else grd (jkd (M l0 0) = (11, 100)) ((if w32 (M l0 2) < 100 then grd (jkd (M l0 0) = (11, 100)) (grd (0 ≤ w32 (M l0 2) ∧ w32 (M l0 2) < 100) (some (M (M l0 0) (w32 (M l0 2))))) else f_X5_next_30 M ))))
def f_X5_take_28  (M : jM) (l0 : Int) : Option jM :=
  lt1 (sto M l0 3 1) fun M2 => some M2
def f_X5_take  (M : jM) (l0 l1 : Int) : Option jM :=
  (if w32 (M l0 3) = 0 then (f_X5_next M l0).bind fun r3 => (if w32 r3 = w32 l1 then lt1 (sto M l0 2 ((M l0 2) + 1)) fun M5 => some M5 else f_X5_take_28 M l0) else f_X5_take_28 M l0)
def f_X5_readWord_L2  (M : jM) (l0 l1 : Int) (S : jM × Int) : Option ((jM × Int) ⊕ jM) :=
  (if w32 (jtxL l1) ≤ w32 S.2 then some (.inr S.1) else grd (0 ≤ w32 S.2 ∧ w32 S.2 < jtxL l1) ((f_X5_take S.1 l0 (jtxC l1 (w32 S.2))).bind fun r3 => some (.inl (r3, S.2 + 1))))
def f_X5_readWord  (M : jM) (l0 l1 : Int) : Option jM :=
  (iter (f_X5_readWord_L2 M l0 l1) 5000 (M, 0)).bind (fun x4 => some x4)
def f_X5_readNumber_24  (M : jM) (l0 : Int) : Option (Int × jM) :=
  lt1 (sto M l0 3 1) fun M3 => some (0, M3)
def f_X5_readNumber  (M : jM) (l0 : Int) : Option (Int × jM) :=
  (f_X5_next M l0).bind fun r1 => (if w32 (M l0 3) = 0 then (if w32 r1 < 48 then f_X5_readNumber_24 M l0 else (if w32 r1 ≤ 57 then lt1 (sto M l0 2 ((M l0 2) + 1)) fun M6 => (f_X5_next M6 l0).bind fun r7 => (if w32 r1 = 48 then some (r1 - 48, M6) else (if w32 r7 < 48 then some (r1 - 48, M6) else (if w32 r7 ≤ 57 then lt1 (sto M6 l0 2 ((M6 l0 2) + 1)) fun M11 => some ((((r1 - 48) * 10) + r7) - 48, M11) else some (r1 - 48, M6)))) else f_X5_readNumber_24 M l0)) else f_X5_readNumber_24 M l0)
def f_X5_takeOneOf_L7  (M : jM) (l0 l1 l2 : Int) (S : Int) : Option ((Int) ⊕ (Unit ⊕ Unit)) :=
  (if w32 (jtxL l1) ≤ w32 S then some (.inr (.inl ())) else (if w32 (M l0 3) = 0 then grd (0 ≤ w32 S ∧ w32 S < jtxL l1) ((if w32 (jtxC l1 (w32 S)) = w32 l2 then some (.inr (.inr ())) else some (.inl (S + 1)))) else some (.inr (.inl ()))))
def f_X5_takeOneOf  (M : jM) (l0 l1 : Int) : Option (Int × jM) :=
  (f_X5_next M l0).bind fun r1 => (iter (f_X5_takeOneOf_L7 M l0 l1 r1) 5000 0).bind (Sum.elim (fun q7 => lt1 (sto M l0 3 1) fun M8 => some (0, M8)) (fun q9 => lt1 (sto M l0 2 ((M l0 2) + 1)) fun M10 => some (r1, M10)))
def f_X5_readE_L9 (r_X5_readE : jM → Int → Int → Option (Int × jM)) (r_X5_readT : jM → Int → Int → Option (Int × jM)) (r_X5_readF : jM → Int → Int → Option (Int × jM)) (M : jM) (l0 l1 : Int) (S : jM × Int × Int) : Option ((jM × Int × Int) ⊕ ((jM × Int))) :=
  (if 100 ≤ w32 S.2.2 then some (.inr (S.1, S.2.1)) else (if w32 (S.1 l0 3) = 0 then (f_X5_next S.1 l0).bind fun r4 => (if w32 r4 = 124 then lt1 (sto S.1 l0 2 ((S.1 l0 2) + 1)) fun M6 => (r_X5_readT M6 l0 l1).bind fun r7 => some (.inl (r7.2, lor S.2.1 r7.1, S.2.2 + 1)) else some (.inr (S.1, S.2.1))) else some (.inr (S.1, S.2.1))))
def fb_X5_readE (r_X5_readE : jM → Int → Int → Option (Int × jM)) (r_X5_readT : jM → Int → Int → Option (Int × jM)) (r_X5_readF : jM → Int → Int → Option (Int × jM)) (M : jM) (l0 l1 : Int) : Option (Int × jM) :=
  (r_X5_readT M l0 l1).bind fun r1 => (iter (f_X5_readE_L9 r_X5_readE r_X5_readT r_X5_readF r1.2 l0 l1) 5000 (r1.2, r1.1, 0)).bind (fun x8 => some (x8.2, x8.1))
def f_X5_readT_L9 (r_X5_readE : jM → Int → Int → Option (Int × jM)) (r_X5_readT : jM → Int → Int → Option (Int × jM)) (r_X5_readF : jM → Int → Int → Option (Int × jM)) (M : jM) (l0 l1 : Int) (S : jM × Int × Int) : Option ((jM × Int × Int) ⊕ ((jM × Int))) :=
  (if 100 ≤ w32 S.2.2 then some (.inr (S.1, S.2.1)) else (if w32 (S.1 l0 3) = 0 then (f_X5_next S.1 l0).bind fun r4 => (if w32 r4 = 38 then lt1 (sto S.1 l0 2 ((S.1 l0 2) + 1)) fun M6 => (r_X5_readF M6 l0 l1).bind fun r7 => some (.inl (r7.2, land S.2.1 r7.1, S.2.2 + 1)) else some (.inr (S.1, S.2.1))) else some (.inr (S.1, S.2.1))))
def fb_X5_readT (r_X5_readE : jM → Int → Int → Option (Int × jM)) (r_X5_readT : jM → Int → Int → Option (Int × jM)) (r_X5_readF : jM → Int → Int → Option (Int × jM)) (M : jM) (l0 l1 : Int) : Option (Int × jM) :=
  (r_X5_readF M l0 l1).bind fun r1 => (iter (f_X5_readT_L9 r_X5_readE r_X5_readT r_X5_readF r1.2 l0 l1) 5000 (r1.2, r1.1, 0)).bind (fun x8 => some (x8.2, x8.1))
def f_X5_readF_29 (r_X5_readE : jM → Int → Int → Option (Int × jM)) (r_X5_readT : jM → Int → Int → Option (Int × jM)) (r_X5_readF : jM → Int → Int → Option (Int × jM)) (M : jM) (l0 : Int) : Option (Int × jM) :=
  lt1 (sto M l0 3 1) fun M4 => some (0, M4)
def f_X5_readF_17 (r_X5_readE : jM → Int → Int → Option (Int × jM)) (r_X5_readT : jM → Int → Int → Option (Int × jM)) (r_X5_readF : jM → Int → Int → Option (Int × jM)) (M : jM) (l0 l1 l2 : Int) : Option (Int × jM) :=
  (if w32 (M l0 3) = 0 then (if w32 l1 < 5 then lt1 (sto M l0 2 ((M l0 2) + 1)) fun M6 => (if w32 l2 = 33 then (r_X5_readF M6 l0 (l1 + 1)).bind fun r10 => some (lxor r10.1 (-1), r10.2) else (r_X5_readE M6 l0 (l1 + 1)).bind fun r8 => (f_X5_take r8.2 l0 41).bind fun r9 => some (r8.1, r9)) else f_X5_readF_29 r_X5_readE r_X5_readT r_X5_readF M l0) else f_X5_readF_29 r_X5_readE r_X5_readT r_X5_readF M l0)
def fb_X5_readF (r_X5_readE : jM → Int → Int → Option (Int × jM)) (r_X5_readT : jM → Int → Int → Option (Int × jM)) (r_X5_readF : jM → Int → Int → Option (Int × jM)) (M : jM) (l0 l1 : Int) : Option (Int × jM) :=
  (f_X5_next M l0).bind fun r1 => (if w32 r1 = 33 then f_X5_readF_17 r_X5_readE r_X5_readT r_X5_readF M l0 l1 r1 else (if w32 r1 = 40 then f_X5_readF_17 r_X5_readE r_X5_readT r_X5_readF M l0 l1 r1 else (f_X5_takeOneOf M l0 4).bind fun r12 => (f_X5_takeOneOf r12.2 l0 5).bind fun r13 => (f_X5_readNumber r13.2 l0).bind fun r14 => (if w32 (r14.2 l0 3) = 0 then (f_X7_placesOf r14.2 r12.1 r13.1 r14.1).bind fun r16 => some (r16, r14.2) else some (0, r14.2))))
def fx_rd : Nat → Nat → jM → Int → Int → Option (Int × jM)
  | 0, _ => fun _ _ _ => none
  | d + 1, 0 => fb_X5_readE (fx_rd d 0) (fx_rd d 1) (fx_rd d 2)
  | d + 1, 1 => fb_X5_readT (fx_rd d 0) (fx_rd d 1) (fx_rd d 2)
  | d + 1, _ => fb_X5_readF (fx_rd d 0) (fx_rd d 1) (fx_rd d 2)
def ft_X5_readE : jM → Int → Int → Option (Int × jM) := fx_rd 40 0
def ft_X5_readT : jM → Int → Int → Option (Int × jM) := fx_rd 40 1
def ft_X5_readF : jM → Int → Int → Option (Int × jM) := fx_rd 40 2
def f_X5_readClause_73  (M : jM) (s0 s1 : Int) : Option jM :=
  lt1 (sto M s0 0 s1) fun M17 => some M17
def f_X5_readClause  (M : jM) (l0 : Int) : Option jM :=
  (f_X5_next M l0).bind fun r1 => (if w32 r1 = 104 then (f_X5_readWord M l0 0).bind fun r18 => (f_X5_readNumber r18 l0).bind fun r19 => (f_X5_take r19.2 l0 32).bind fun r20 => grd (jkd (r20 l0 4) = (7, 0)) ((ft_X5_readE r20 l0 0).bind fun r22 => (f_X7_addHeavy r22.2 (r20 l0 4) r19.1 r22.1).bind fun r23 => some r23) else (if w32 r1 = 115 then (f_X5_readWord M l0 1).bind fun r13 => grd (jkd (r13 l0 4) = (7, 0)) ((f_X5_readNumber r13 l0).bind fun r15 => (if w32 r15.1 ≤ 2 then f_X5_readClause_73 r15.2 (r13 l0 4) 2 else f_X5_readClause_73 r15.2 (r13 l0 4) 3)) else (if w32 r1 = 102 then (f_X5_readWord M l0 2).bind fun r9 => grd (jkd (r9 l0 4) = (7, 0)) ((f_X5_readNumber r9 l0).bind fun r11 => lt1 (sto r11.2 (r9 l0 4) 1 r11.1) fun M12 => some M12) else (f_X5_readWord M l0 3).bind fun r5 => grd (jkd (r5 l0 4) = (7, 0)) ((f_X5_readNumber r5 l0).bind fun r7 => lt1 (sto r7.2 (r5 l0 4) 2 r7.1) fun M8 => some M8))))
def f_X5_read_L40  (M : jM) (l0 : Int) (S : jM × Int) : Option ((jM × Int) ⊕ (jM ⊕ jM ⊕ jM ⊕ jM)) :=
  (if 10 < w32 S.2 then some (.inr (.inl S.1)) else (f_X5_readClause S.1 l0).bind fun r9 => (if w32 (r9 l0 3) = 0 then (if w32 (r9 l0 2) = w32 (r9 l0 1) then some (.inr (.inr (.inr (.inl r9)))) else (if w32 S.2 = 10 then some (.inr (.inr (.inr (.inr r9)))) else (f_X5_next r9 l0).bind fun r13 => (if w32 r13 = 59 then lt1 (sto r9 l0 2 ((r9 l0 2) + 1)) fun M15 => some (.inl (M15, S.2 + 1)) else some (.inr (.inr (.inr (.inr r9))))))) else some (.inr (.inr (.inl r9)))))
def f_X5_read  (M : jM) (l0 l1 l2 l3 : Int) : Option (Int × jM) :=
  lt1 (sto M l0 0 l1) fun M1 => lt1 (sto M1 l0 1 (min (w32 l2) (w32 100))) fun M2 => lt1 (sto M2 l0 2 0) fun M3 => lt1 (sto M3 l0 3 0) fun M4 => lt1 (sto M4 l0 4 l3) fun M5 => grd (jkd (M5 l0 4) = (7, 0)) ((f_X7_clear M5 (M5 l0 4)).bind fun r7 => (iter (f_X5_read_L40 r7 l0) 5000 (r7, 1)).bind (Sum.elim (fun q17 => some (q17 l0 2, q17)) (Sum.elim (fun q18 => some (q18 l0 2, q18)) (Sum.elim (fun q19 => some ((-1), q19)) (fun q20 => some (q20 l0 2, q20))))))
def f_X9_feed  (M : jM) (l0 l1 : Int) : Option (Int × jM) :=
  (if w32 l1 < 0 then some ((-2), M) else (if w32 l1 ≤ 127 then (f_X8_addByte M (jpt l0 0) l1).bind fun r3 => (if w32 r3.1 = 0 then some ((-4), r3.2) else some (r3.2 (jpt l0 0) 1, r3.2)) else some ((-2), M)))
def f_X9_stall  (M : jM) (l0 : Int) : Option (Int × jM) :=
  (if w32 (M (jpt l0 0) 3) < 5 then (f_X5_read M (jpt l0 4) (jpt (jpt l0 0) 0) (M (jpt l0 0) 1) (jpt l0 3)).bind fun r2 => lt1 (sto r2.2 (jpt l0 0) 1 0) fun M3 => (if w32 r2.1 < 0 then (f_X7_copy M3 (jpt (jpt l0 0) 2) (jpt l0 3)).bind fun r5 => lt1 (sto r5 (jpt l0 0) 3 ((r5 (jpt l0 0) 3) + 1)) fun M6 => some ((M6 (jpt l0 0) 3) - 1, M6) else some ((-10) - r2.1, M3)) else some ((-4), M))
def f_X9_day  (M : jM) (l0 l1 : Int) : Option (Int × jM) :=
  (if w32 l1 < 0 then some ((-2), M) else (if w32 l1 < 10 then lt1 (sto M (jpt l0 0) 4 l1) fun M3 => some (M (jpt l0 0) 4, M3) else some ((-2), M)))
def f_X9_weigh  (M : jM) (l0 : Int) : Option jM :=
  (f_X6_weigh M (jpt l0 5) (jpt (jpt l0 0) 2) (M (jpt l0 0) 4)).bind fun r1 => some r1
def f_X9_told  (M : jM) (l0 l1 : Int) : Option (Int × jM) :=
  (f_X9_weigh M l0).bind fun r1 => (if w32 l1 = 0 then some (r1 (jpt l0 5) 0, r1) else (if w32 l1 = 1 then some (r1 (jpt (jpt l0 0) 2) 1, r1) else (if w32 l1 = 2 then some (r1 (jpt (jpt l0 0) 2) 2, r1) else (if w32 l1 = 3 then some (r1 (jpt l0 0) 4, r1) else (if w32 l1 = 4 then some (r1 (jpt l0 5) 1, r1) else (if w32 l1 = 5 then some ((-1), r1) else (if w32 l1 = 6 then some ((-1), r1) else (if w32 l1 = 7 then some ((-1), r1) else (if w32 l1 = 8 then some ((-1), r1) else (if w32 l1 = 9 then some ((-1), r1) else (if w32 l1 = 10 then (if w32 (r1 (jpt l0 5) 0) ≤ w32 (l1 - 10) then some ((-1), r1) else (f_X6_weightOf r1 (jpt l0 5) (l1 - 10)).bind fun r14 => some (r14, r1)) else (if w32 l1 = 11 then (if w32 (r1 (jpt l0 5) 0) ≤ w32 (l1 - 10) then some ((-1), r1) else (f_X6_weightOf r1 (jpt l0 5) (l1 - 10)).bind fun r17 => some (r17, r1)) else (if w32 l1 = 12 then (if w32 (r1 (jpt l0 5) 0) ≤ w32 (l1 - 10) then some ((-1), r1) else (f_X6_weightOf r1 (jpt l0 5) (l1 - 10)).bind fun r20 => some (r20, r1)) else some ((-1), r1))))))))))))))
def f_X9_lengthen  (M : jM) (l0 l1 l2 : Int) : Option (Int × jM) :=
  (if 0 ≤ w32 l1 then (if w32 (M l0 0) < w32 l2 then (f_X3_add M l0 l1).bind fun r3 => some (r3 l0 0, r3) else some ((-4), M)) else (f_X3_zeros M l0 0).bind fun r4 => some (0, r4))
def f_X9_sign  (M : jM) (l0 l1 : Int) : Option (Int × jM) :=
  (if w32 l1 < (-1) then some ((-2), M) else (if w32 l1 < 3 then (f_X9_lengthen M (jpt (jpt l0 0) 5) l1 6).bind fun r3 => some (r3.1, r3.2) else some ((-2), M)))
def f_X9_row  (M : jM) (l0 : Int) : Option (Int × jM) :=
  (if w32 (M (jpt (jpt l0 0) 5) 0) = 0 then some ((-3), M) else (if w32 (M (jpt l0 0) 7) < 6 then grd (0 ≤ w32 (M (jpt l0 0) 7) ∧ w32 (M (jpt l0 0) 7) < 6) ((f_X3_copy M (jpt (jpt (jpt l0 0) 6) (w32 (M (jpt l0 0) 7))) (jpt (jpt l0 0) 5)).bind fun r4 => (f_X3_zeros r4 (jpt (jpt l0 0) 5) 0).bind fun r5 => lt1 (sto r5 (jpt l0 0) 7 ((r5 (jpt l0 0) 7) + 1)) fun M6 => some ((M6 (jpt l0 0) 7) - 1, M6)) else some ((-4), M)))
def f_X9_partOfRow  (M : jM) (l0 l1 : Int) : Option Int :=
  (if l0 < 0 then some (-1) else (if w32 l1 = (-1) then some (M l0 0) else (f_X3_signAt M l0 l1).bind fun r3 => some r3))
def f_X9_of  (M : jM) (l0 l1 l2 : Int) : Option Int :=
  (f_X8_rowAt M (jpt l0 0) l1).bind fun r1 => grd (r1 < 0 ∨ jkd r1 = (3, 0)) ((f_X9_partOfRow M r1 l2).bind fun r3 => some r3)
def f_X9_player  (M : jM) (l0 l1 l2 : Int) : Option (Int × jM) :=
  (if w32 l1 < 0 then some ((-1), M) else (if w32 l1 < 7 then (if w32 l2 < 0 then some ((-2), M) else (if w32 l2 ≤ 9 then (f_X8_addPlayer M (jpt l0 0) l1 l2).bind fun r5 => (if w32 r5.1 = 0 then some ((-4), r5.2) else some ((r5.2 (jpt l0 0) 11) - 1, r5.2)) else some ((-2), M))) else some ((-1), M)))
def f_X9_own  (M : jM) (l0 l1 : Int) : Option (Int × jM) :=
  (f_X8_hasPlayer M (jpt l0 0) l1).bind fun r1 => (if w32 r1 = 0 then some ((-1), M) else grd (0 ≤ w32 l1 ∧ w32 l1 < 4) ((if w32 (M (jpt (jpt l0 0) 8) (w32 l1)) = 6 then grd (0 ≤ w32 l1 ∧ w32 l1 < 4) ((f_X3_copy M (jpt (jpt (jpt l0 0) 10) (w32 l1)) (jpt (jpt l0 0) 5)).bind fun r6 => (f_X3_zeros r6 (jpt (jpt l0 0) 5) 0).bind fun r7 => grd (0 ≤ w32 l1 ∧ w32 l1 < 4) (some (r7 (jpt (jpt (jpt l0 0) 10) (w32 l1)) 0, r7))) else some ((-3), M))))
def f_X9_lawfulRow  (M : jM) (l0 l1 : Int) : Option Int :=
  (f_X8_rowAt M (jpt l0 0) l1).bind fun r1 => grd (r1 < 0 ∨ jkd r1 = (3, 0)) ((if r1 < 0 then some (-1) else (f_X6_isLawful M (jpt l0 5) r1).bind fun r4 => (if w32 r4 = 0 then some (-1) else some r1)))
def f_X9_isPart_9  (M : jM) : Option Int :=
  some 1
def f_X9_isPart  (M : jM) (l0 : Int) : Option Int :=
  (if w32 l0 = 0 then f_X9_isPart_9 M  else (if w32 l0 = 1 then f_X9_isPart_9 M  else some 0))
def f_X9_divisor_L9  (M : jM) (S : Int × Int × Int) : Option ((Int × Int × Int) ⊕ Int) :=
  (if 200 ≤ w32 S.2.2 then some (.inr S.1) else (if w64 S.2.1 = 0 then some (.inr S.1) else grd (¬ w64 S.2.1 = 0) (some (.inl (S.2.1, ((w64 S.1).tmod (w64 S.2.1)), S.2.2 + 1)))))
def f_X9_divisor  (M : jM) (l0 l2 : Int) : Option Int :=
  (iter (f_X9_divisor_L9 M ) 5000 (l0, l2, 0)).bind (fun x4 => some x4)
def f_X9_fraction  (M : jM) (l0 l2 l4 : Int) : Option Int :=
  (f_X9_divisor M (if 0 < w64 l0 then l0 else -l0) (if 0 < w64 l2 then l2 else -l2)).bind fun r1 => (if w64 r1 = 0 then some (-9223372036854775808) else (if w32 l4 = 0 then grd (¬ w64 r1 = 0) (some ((w64 l0).tdiv (w64 r1))) else grd (¬ w64 r1 = 0) (some ((w64 l2).tdiv (w64 r1)))))
def f_X9_waits  (M : jM) (l0 l1 l2 : Int) : Option (Int × jM) :=
  (f_X9_weigh M l0).bind fun r1 => (f_X9_lawfulRow r1 l0 l1).bind fun r2 => grd (r2 < 0 ∨ jkd r2 = (3, 0)) ((if r2 < 0 then some ((-9223372036854775808), r1) else (f_X9_isPart r1 l2).bind fun r5 => (if w32 r5 = 0 then some ((-9223372036854775808), r1) else (f_X6_lap r1 (jpt l0 5) r2 r2).bind fun r7 => (f_X6_product r1 (jpt l0 5) r2).bind fun r8 => (f_X9_fraction r1 r7 r8 l2).bind fun r9 => some (r9, r1))))
def f_X9_measured  (M : jM) (l0 l1 l2 : Int) : Option (Int × jM) :=
  (f_X9_weigh M l0).bind fun r1 => (f_X9_lawfulRow r1 l0 l1).bind fun r2 => grd (r2 < 0 ∨ jkd r2 = (3, 0)) ((f_X9_lawfulRow r1 l0 l2).bind fun r4 => grd (r4 < 0 ∨ jkd r4 = (3, 0)) ((if r2 < 0 then some (0, r1) else (if r4 < 0 then some (0, r1) else (f_X3_isApart r1 r2 r4).bind fun r8 => (if w32 r8 = 0 then some (0, r1) else (f_X2_measure r1 (jpt l0 6) (jpt l0 5) r2 r4).bind fun r10 => some (1, r10))))))
def f_X9_odds  (M : jM) (l0 l1 l2 l3 : Int) : Option (Int × jM) :=
  (f_X9_isPart M l3).bind fun r1 => (if w32 r1 = 0 then some ((-9223372036854775808), M) else (f_X9_measured M l0 l1 l2).bind fun r3 => (if w32 r3.1 = 0 then some ((-9223372036854775808), r3.2) else (f_X9_fraction r3.2 (r3.2 (jpt l0 6) 0) (r3.2 (jpt l0 6) 2) l3).bind fun r5 => some (r5, r3.2)))
def f_X9_lasts  (M : jM) (l0 l1 l2 l3 : Int) : Option (Int × jM) :=
  (f_X9_isPart M l3).bind fun r1 => (if w32 r1 = 0 then some ((-9223372036854775808), M) else (f_X9_measured M l0 l1 l2).bind fun r3 => (if w32 r3.1 = 0 then some ((-9223372036854775808), r3.2) else (f_X9_fraction r3.2 (r3.2 (jpt l0 6) 3) (r3.2 (jpt l0 6) 2) l3).bind fun r5 => some (r5, r3.2)))
def f_X9_half  (M : jM) (l0 l1 l2 l3 : Int) : Option (Int × jM) :=
  (f_X9_isPart M l3).bind fun r1 => (if w32 r1 = 0 then some ((-9223372036854775808), M) else (f_X9_measured M l0 l1 l2).bind fun r3 => (if w32 r3.1 = 0 then some ((-9223372036854775808), r3.2) else (f_X8_rowAt r3.2 (jpt l0 0) l1).bind fun r5 => grd (r5 < 0 ∨ jkd r5 = (3, 0)) ((f_X8_rowAt r3.2 (jpt l0 0) l2).bind fun r7 => grd (r7 < 0 ∨ jkd r7 = (3, 0)) ((if r5 < 0 then some ((-9223372036854775808), r3.2) else (if r7 < 0 then some ((-9223372036854775808), r3.2) else (f_X6_isLawful r3.2 (jpt l0 5) (jpt (jpt l0 0) 12)).bind fun r11 => (if w32 r11 = 0 then some ((-9223372036854775808), r3.2) else (f_X3_has r3.2 (jpt (jpt l0 0) 12) r5).bind fun r13 => (if w32 r13 = 0 then (f_X3_has r3.2 (jpt (jpt l0 0) 12) r7).bind fun r15 => (if w32 r15 = 0 then (f_X6_lap r3.2 (jpt l0 5) (jpt (jpt l0 0) 12) r7).bind fun r17 => (f_X6_product r3.2 (jpt l0 5) r5).bind fun r18 => (f_X6_lap r3.2 (jpt l0 5) (jpt (jpt l0 0) 12) r5).bind fun r19 => (f_X6_product r3.2 (jpt l0 5) r7).bind fun r20 => (f_X9_fraction r3.2 (((r3.2 (jpt l0 6) 0) - (r17 * r18)) + (r19 * r20)) (r3.2 (jpt l0 6) 2) l3).bind fun r21 => some (r21, r3.2) else some ((-9223372036854775808), r3.2)) else some ((-9223372036854775808), r3.2)))))))))
def f_X9_worth  (M : jM) (l0 l1 l2 l3 : Int) : Option (Int × jM) :=
  (f_X9_isPart M l3).bind fun r1 => (if w32 r1 = 0 then some ((-9223372036854775808), M) else (f_X9_measured M l0 l1 l2).bind fun r3 => (if w32 r3.1 = 0 then some ((-9223372036854775808), r3.2) else (f_X9_fraction r3.2 (((w32 (r3.2 (jpt (jpt l0 0) 2) 2)) * (r3.2 (jpt l0 6) 0)) - ((w32 (r3.2 (jpt (jpt l0 0) 2) 1)) * (r3.2 (jpt l0 6) 3))) (r3.2 (jpt l0 6) 2) l3).bind fun r5 => some (r5, r3.2)))
def f_X9_best  (M : jM) (l0 l1 l2 l3 : Int) : Option (Int × jM) :=
  (f_X8_rowAt M (jpt l0 0) l1).bind fun r1 => grd (r1 < 0 ∨ jkd r1 = (3, 0)) ((if r1 < 0 then some ((-1), M) else (if w32 l3 < 0 then some ((-1), M) else (if w32 l3 < 4 then (if w32 l2 < 1 then some ((-2), M) else (if w32 l2 ≤ 4 then (f_X9_weigh M l0).bind fun r8 => (f_X6_isLawful r8 (jpt l0 5) r1).bind fun r9 => (if w32 r9 = 0 then some ((-3), r8) else (f_X1_findBest r8 (jpt l0 7) (jpt l0 5) (jpt l0 6) r1 l2).bind fun r11 => (if w32 r11.1 = 0 then some ((-1), r11.2) else (f_X3_signAt r11.2 (jpt (jpt l0 7) 0) l3).bind fun r13 => some (r13, r11.2))) else some ((-2), M))) else some ((-1), M)))))
def f_X9_beats  (M : jM) (l0 l1 l2 : Int) : Option (Int × jM) :=
  (f_X3_isApart M l1 l2).bind fun r1 => (if w32 r1 = 0 then some (0, M) else (f_X2_measure M (jpt l0 6) (jpt l0 5) l1 l2).bind fun r3 => (if w64 (r3 (jpt l0 6) 0) ≤ w64 (r3 (jpt l0 6) 1) then some (0, r3) else some (1, r3)))
def f_X9_ring  (M : jM) (l0 l1 l2 l3 : Int) : Option (Int × jM) :=
  (f_X8_rowAt M (jpt l0 0) l1).bind fun r1 => grd (r1 < 0 ∨ jkd r1 = (3, 0)) ((f_X8_rowAt M (jpt l0 0) l2).bind fun r3 => grd (r3 < 0 ∨ jkd r3 = (3, 0)) ((f_X8_rowAt M (jpt l0 0) l3).bind fun r5 => grd (r5 < 0 ∨ jkd r5 = (3, 0)) ((if r1 < 0 then some ((-1), M) else (if r3 < 0 then some ((-1), M) else (if r5 < 0 then some ((-1), M) else (f_X9_weigh M l0).bind fun r10 => (f_X6_isLawful r10 (jpt l0 5) r1).bind fun r11 => (if w32 r11 = 0 then some ((-3), r10) else (f_X6_isLawful r10 (jpt l0 5) r3).bind fun r13 => (if w32 r13 = 0 then some ((-3), r10) else (f_X6_isLawful r10 (jpt l0 5) r5).bind fun r15 => (if w32 r15 = 0 then some ((-3), r10) else (f_X9_beats r10 l0 r1 r3).bind fun r17 => (if w32 r17.1 = 0 then some (0, r17.2) else (f_X9_beats r17.2 l0 r3 r5).bind fun r19 => (if w32 r19.1 = 0 then some (0, r19.2) else (f_X9_beats r19.2 l0 r5 r1).bind fun r21 => (if w32 r21.1 = 0 then some (0, r21.2) else some (1, r21.2)))))))))))))
def f_X9_pickedBy  (M : jM) (l0 l1 l2 : Int) : Option (Int × jM) :=
  grd (0 ≤ w32 l1 ∧ w32 l1 < 4) (grd (¬ w32 4 = 0) (grd (0 ≤ w32 l1 ∧ w32 l1 < 4) ((if w32 (M (jpt (jpt l0 0) 8) (w32 l1)) = 1 then (f_X1_findByWait M (jpt l0 7) (jpt l0 5) (((w32 (M (jpt (jpt l0 0) 9) (w32 l1))).tmod (w32 4)) + 1) 0).bind fun r5 => some (jpt (jpt l0 7) 0, r5) else (if w32 (M (jpt (jpt l0 0) 8) (w32 l1)) = 2 then (f_X1_findByWait M (jpt l0 7) (jpt l0 5) (((w32 (M (jpt (jpt l0 0) 9) (w32 l1))).tmod (w32 4)) + 1) 1).bind fun r7 => some (jpt (jpt l0 7) 0, r7) else (if w32 (M (jpt (jpt l0 0) 8) (w32 l1)) = 3 then (f_X1_findBeside M (jpt l0 7) (jpt l0 5) l2).bind fun r9 => some (jpt (jpt l0 7) 0, r9) else (if w32 (M (jpt (jpt l0 0) 8) (w32 l1)) = 4 then (f_X1_findBest M (jpt l0 7) (jpt l0 5) (jpt l0 6) l2 (((w32 (M (jpt (jpt l0 0) 9) (w32 l1))).tmod (w32 4)) + 1)).bind fun r11 => (if w32 r11.1 = 0 then (f_X1_findByWait r11.2 (jpt l0 7) (jpt l0 5) (((w32 (M (jpt (jpt l0 0) 9) (w32 l1))).tmod (w32 4)) + 1) 0).bind fun r13 => some (jpt (jpt l0 7) 0, r13) else some (jpt (jpt l0 7) 0, r11.2)) else (if w32 (M (jpt (jpt l0 0) 8) (w32 l1)) = 5 then (f_X1_findSlowBest M (jpt l0 7) (jpt l0 5) (jpt l0 6) l2 (((w32 (M (jpt (jpt l0 0) 9) (w32 l1))).tmod (w32 4)) + 1)).bind fun r15 => (if w32 r15.1 = 0 then (f_X1_findByWait r15.2 (jpt l0 7) (jpt l0 5) (((w32 (M (jpt (jpt l0 0) 9) (w32 l1))).tmod (w32 4)) + 1) 1).bind fun r17 => some (jpt (jpt l0 7) 0, r17) else some (jpt (jpt l0 7) 0, r15.2)) else (if w32 (M (jpt (jpt l0 0) 8) (w32 l1)) = 6 then grd (0 ≤ w32 l1 ∧ w32 l1 < 4) ((if w32 (M (jpt (jpt (jpt l0 0) 10) (w32 l1)) 0) ≤ 0 then (f_X1_findBeside M (jpt l0 7) (jpt l0 5) l2).bind fun r21 => some (jpt (jpt l0 7) 0, r21) else grd (0 ≤ w32 l1 ∧ w32 l1 < 4) (some (jpt (jpt (jpt l0 0) 10) (w32 l1), M)))) else (f_X3_zeros M (jpt (jpt l0 7) 0) (((w32 (M (jpt (jpt l0 0) 9) (w32 l1))).tmod (w32 4)) + 1)).bind fun r23 => some (jpt (jpt l0 7) 0, r23))))))))))
def f_X9_pick  (M : jM) (l0 l1 l2 l3 : Int) : Option (Int × jM) :=
  (f_X8_rowAt M (jpt l0 0) l2).bind fun r1 => grd (r1 < 0 ∨ jkd r1 = (3, 0)) ((f_X8_hasPlayer M (jpt l0 0) l1).bind fun r3 => (if w32 r3 = 0 then some ((-1), M) else (if r1 < 0 then some ((-1), M) else (if w32 l3 < (-1) then some ((-1), M) else (if w32 l3 < 6 then (f_X9_weigh M l0).bind fun r8 => (f_X6_isLawful r8 (jpt l0 5) r1).bind fun r9 => (if w32 r9 = 0 then some ((-3), r8) else (f_X9_pickedBy r8 l0 l1 r1).bind fun r11 => grd (r11.1 < 0 ∨ jkd r11.1 = (3, 0)) ((f_X9_partOfRow r11.2 r11.1 l3).bind fun r13 => some (r13, r11.2))) else some ((-1), M))))))
def f_X9_fairest_99  (M : jM) (l0 l1 l2 l3 l4 l6 l8 : Int) : Option ((jM × Int × Int × Int × Int) ⊕ ((jM × Int))) :=
  some (.inl (M, l3, l4, l6, l8 + 1))
def f_X9_fairest_83  (M : jM) (l0 l1 l2 l8 l9 : Int) : Option ((jM × Int × Int × Int × Int) ⊕ ((jM × Int))) :=
  f_X9_fairest_99 M l0 l1 l2 l8 l9 (M (jpt l0 6) 2) l8
def f_X9_fairest_L11  (M : jM) (l0 l1 l2 : Int) (S : jM × Int × Int × Int × Int) : Option ((jM × Int × Int × Int × Int) ⊕ ((jM × Int))) :=
  (if 9 < w32 S.2.2.2.2 then some (.inr (S.1, S.2.1)) else (f_X6_putFirst S.1 (jpt l0 5) S.2.2.2.2).bind fun r2 => (f_X2_measure r2 (jpt l0 6) (jpt l0 5) l1 l2).bind fun r3 => (if w32 S.2.1 = 0 then f_X9_fairest_83 r3 l0 l1 l2 S.2.2.2.2 (if 0 < w64 ((r3 (jpt l0 6) 0) - (r3 (jpt l0 6) 1)) then ((r3 (jpt l0 6) 0) - (r3 (jpt l0 6) 1)) else -((r3 (jpt l0 6) 0) - (r3 (jpt l0 6) 1))) else (f_X9_compare r3 (if 0 < w64 ((r3 (jpt l0 6) 0) - (r3 (jpt l0 6) 1)) then ((r3 (jpt l0 6) 0) - (r3 (jpt l0 6) 1)) else -((r3 (jpt l0 6) 0) - (r3 (jpt l0 6) 1))) (r3 (jpt l0 6) 2) S.2.2.1 S.2.2.2.1).bind fun r5 => (if 0 ≤ w32 r5 then f_X9_fairest_99 r3 l0 l1 l2 S.2.1 S.2.2.1 S.2.2.2.1 S.2.2.2.2 else f_X9_fairest_83 r3 l0 l1 l2 S.2.2.2.2 (if 0 < w64 ((r3 (jpt l0 6) 0) - (r3 (jpt l0 6) 1)) then ((r3 (jpt l0 6) 0) - (r3 (jpt l0 6) 1)) else -((r3 (jpt l0 6) 0) - (r3 (jpt l0 6) 1))))))
def f_X9_fairest  (M : jM) (l0 l1 l2 : Int) : Option (Int × jM) :=
  (iter (f_X9_fairest_L11 M l0 l1 l2) 5000 (M, 0, 0, 1, 1)).bind (fun x7 => some (x7.2, x7.1))
def f_X9_fair  (M : jM) (l0 l1 l2 : Int) : Option (Int × jM) :=
  (f_X8_rowAt M (jpt l0 0) l1).bind fun r1 => grd (r1 < 0 ∨ jkd r1 = (3, 0)) ((f_X8_rowAt M (jpt l0 0) l2).bind fun r3 => grd (r3 < 0 ∨ jkd r3 = (3, 0)) ((if r1 < 0 then some ((-1), M) else (if r3 < 0 then some ((-1), M) else (f_X9_weigh M l0).bind fun r7 => (f_X6_isLawful r7 (jpt l0 5) r1).bind fun r8 => (if w32 r8 = 0 then some ((-3), r7) else (f_X6_isLawful r7 (jpt l0 5) r3).bind fun r10 => (if w32 r10 = 0 then some ((-3), r7) else (f_X3_isApart r7 r1 r3).bind fun r12 => (if w32 r12 = 0 then some ((-3), r7) else (f_X9_fairest r7 l0 r1 r3).bind fun r14 => some (r14.1, r14.2))))))))
def f_X9_power_L5  (M : jM) (l0 l2 : Int) (S : Int × Int) : Option ((Int × Int) ⊕ Int) :=
  (if w32 l2 ≤ w32 S.2 then some (.inr S.1) else some (.inl (S.1 * l0, S.2 + 1)))
def f_X9_power  (M : jM) (l0 l2 : Int) : Option Int :=
  (iter (f_X9_power_L5 M l0 l2) 5000 (1, 0)).bind (fun x2 => some x2)
def f_X9_within  (M : jM) (l0 l1 l2 l3 : Int) : Option (Int × jM) :=
  (f_X9_weigh M l0).bind fun r1 => (f_X9_lawfulRow r1 l0 l1).bind fun r2 => grd (r2 < 0 ∨ jkd r2 = (3, 0)) ((if r2 < 0 then some ((-9223372036854775808), r1) else (if w32 l2 < 0 then some ((-9223372036854775808), r1) else (if 15 < w32 l2 then some ((-9223372036854775808), r1) else (f_X9_isPart r1 l3).bind fun r7 => (if w32 r7 = 0 then some ((-9223372036854775808), r1) else (f_X4_build r1 (jpt l0 8) (jpt l0 0) (jpt l0 5)).bind fun r9 => (f_X4_winsOf r9 (jpt l0 8) l1 l2).bind fun r10 => (f_X9_power r10.2 (w32 (r10.2 (jpt l0 5) 1)) l2).bind fun r11 => (f_X9_fraction r10.2 r10.1 r11 l3).bind fun r12 => some (r12, r10.2))))))
def f_X9_often  (M : jM) (l0 l1 l2 l3 : Int) : Option (Int × jM) :=
  (f_X9_weigh M l0).bind fun r1 => (f_X9_lawfulRow r1 l0 l1).bind fun r2 => grd (r2 < 0 ∨ jkd r2 = (3, 0)) ((if r2 < 0 then some ((-9223372036854775808), r1) else (if w32 l2 < 0 then some ((-9223372036854775808), r1) else (if 60 < w32 l2 then some ((-9223372036854775808), r1) else (f_X9_isPart r1 l3).bind fun r7 => (if w32 r7 = 0 then some ((-9223372036854775808), r1) else (f_X6_product r1 (jpt l0 5) r2).bind fun r9 => (f_X9_power r1 (w32 (r1 (jpt l0 5) 1)) (r1 r2 0)).bind fun r10 => (f_X9_fraction r1 ((w32 (max (w32 0) (w32 ((l2 - (r1 r2 0)) + 1)))) * r9) r10 l3).bind fun r11 => some (r11, r1))))))
def f_X9_free  (M : jM) (l0 l1 : Int) : Option (Int × jM) :=
  (if w32 l1 < 0 then some ((-9223372036854775808), M) else (if w32 l1 ≤ 30 then (f_X9_weigh M l0).bind fun r3 => (f_X4_build r3 (jpt l0 8) (jpt l0 0) (jpt l0 5)).bind fun r4 => (f_X4_rowsWithNone r4 (jpt l0 8) l1).bind fun r5 => some (r5.1, r5.2) else some ((-9223372036854775808), M)))
def f_X9_toss  (M : jM) (l0 l1 : Int) : Option (Int × jM) :=
  (if w32 l1 < (-1) then some ((-2), M) else (if w32 l1 < 3 then (f_X9_lengthen M (jpt (jpt l0 0) 12) l1 24).bind fun r3 => some (r3.1, r3.2) else some ((-2), M)))
def f_X9_came  (M : jM) (l0 l1 : Int) : Option Int :=
  (f_X8_rowAt M (jpt l0 0) l1).bind fun r1 => grd (r1 < 0 ∨ jkd r1 = (3, 0)) ((if r1 < 0 then some (-1) else (f_X3_firstEndOf M (jpt (jpt l0 0) 12) r1).bind fun r4 => some r4))
def f_X9_ends_54  (M : jM) (l0 l2 l3 l4 : Int) : Option ((Int × Int) ⊕ Int) :=
  some (.inl (l3, l4 + 1))
def f_X9_ends_L20  (M : jM) (l0 l2 : Int) (S : Int × Int) : Option ((Int × Int) ⊕ Int) :=
  (if w32 (M (jpt (jpt l0 0) 12) 0) < w32 S.2 then some (.inr S.1) else (f_X3_endsAt M (jpt (jpt l0 0) 12) l2 S.2).bind fun r5 => (if w32 r5 = 0 then f_X9_ends_54 M l0 l2 S.1 S.2 else f_X9_ends_54 M l0 l2 (S.1 + 1) S.2))
def f_X9_ends  (M : jM) (l0 l1 : Int) : Option Int :=
  (f_X8_rowAt M (jpt l0 0) l1).bind fun r1 => grd (r1 < 0 ∨ jkd r1 = (3, 0)) ((if r1 < 0 then some (-1) else (iter (f_X9_ends_L20 M l0 r1) 5000 (0, 1)).bind (fun x7 => some x7)))
def f_X9_ahead_L18  (M : jM) (l0 l1 : Int) (S : Int) : Option ((Int) ⊕ (Unit ⊕ Int)) :=
  (if w32 (M (jpt l0 0) 7) ≤ w32 S then some (.inr (.inl ())) else grd (0 ≤ w32 S ∧ w32 S < 6) ((f_X3_endsAt M (jpt (jpt l0 0) 12) (jpt (jpt (jpt l0 0) 6) (w32 S)) l1).bind fun r4 => (if w32 r4 = 0 then some (.inl (S + 1)) else some (.inr (.inr S)))))
def f_X9_ahead_L2  (M : jM) (l0 : Int) (S : Int) : Option ((Int) ⊕ (Unit ⊕ Int)) :=
  (if w32 (M (jpt (jpt l0 0) 12) 0) < w32 S then some (.inr (.inl ())) else (iter (f_X9_ahead_L18 M l0 S) 5000 0).bind (Sum.elim (fun q7 => some (.inl (S + 1))) (fun q8 => some (.inr (.inr q8)))))
def f_X9_ahead  (M : jM) (l0 : Int) : Option Int :=
  (iter (f_X9_ahead_L2 M l0) 5000 1).bind (Sum.elim (fun q10 => some (-5)) (fun q11 => some q11))
def f_X9_act  (M : jM) (l0 l1 l2 l3 : Int) : Option (Int × jM) :=
  (f_X0_forget M (jpt l0 9)).bind fun r1 => (f_X8_hasPlayer r1 (jpt l0 0) l1).bind fun r2 => (if w32 r2 = 0 then some (0, r1) else (if w32 l2 < 0 then some (0, r1) else (if w32 l2 < 3 then (f_X0_perform r1 (jpt l0 9) (jpt l0 0) l1 l2 l3).bind fun r6 => some (r6.1, r6.2) else some (0, r1))))
def f_X9_trace_21  (M : jM) : Option Int :=
  some (-1)
def f_X9_trace  (M : jM) (l0 l1 : Int) : Option Int :=
  (if w32 l1 < 0 then f_X9_trace_21 M  else (if w32 (M (jpt l0 9) 1) ≤ w32 l1 then f_X9_trace_21 M  else (if w32 l1 < 20 then grd (0 ≤ w32 l1 ∧ w32 l1 < 20) (some (M (jpt (jpt l0 9) 0) (w32 l1))) else f_X9_trace_21 M )))
def f_X9_as_L36  (M : jM) (l0 l1 l2 : Int) (S : Int × Int) : Option ((Int × Int) ⊕ (Unit ⊕ Unit)) :=
  (if 7 ≤ w32 S.2 then some (.inr (.inl ())) else (if w32 S.1 < 0 then some (.inr (.inl ())) else (if w32 S.1 = w32 l2 then some (.inr (.inr ())) else (f_X9_above M S.1).bind fun r9 => some (.inl (r9, S.2 + 1)))))
def f_X9_as  (M : jM) (l0 l1 l2 : Int) : Option Int :=
  (f_X8_hasPlayer M (jpt l0 0) l1).bind fun r1 => (if w32 r1 = 0 then some (-1) else (if w32 l2 < 0 then some (-1) else (if w32 l2 < 7 then grd (0 ≤ w32 l1 ∧ w32 l1 < 4) ((iter (f_X9_as_L36 M l0 l1 l2) 5000 (M (jpt (jpt l0 0) 8) (w32 l1), 0)).bind (Sum.elim (fun q11 => some (-6)) (fun q12 => grd (0 ≤ w32 l1 ∧ w32 l1 < 4) (some (M (jpt (jpt l0 0) 9) (w32 l1)))))) else some (-1))))
def f_X9_image  (M : jM) (l0 : Int) : Option (Int × jM) :=
  (f_X8_copy M (jpt l0 1) (jpt l0 0)).bind fun r1 => lt1 (sto r1 l0 2 1) fun M2 => some (M2 (jpt l0 0) 7, M2)
def f_X9_undo  (M : jM) (l0 : Int) : Option (Int × jM) :=
  (if w32 (M l0 2) = 0 then some ((-3), M) else (f_X8_copy M (jpt l0 0) (jpt l0 1)).bind fun r2 => some (r2 (jpt l0 0) 7, r2))
def f_X9_count  (M : jM) (l0 l1 : Int) : Option Int :=
  (if w32 l1 = 0 then some (M (jpt l0 0) 7) else (if w32 l1 = 1 then some (M (jpt l0 0) 11) else (if w32 l1 = 2 then some (M (jpt l0 0) 3) else (if w32 l1 = 3 then some (M (jpt (jpt l0 0) 5) 0) else (if w32 l1 = 4 then some (M (jpt (jpt l0 0) 12) 0) else (if w32 l1 = 5 then some (M (jpt l0 0) 1) else (if w32 l1 = 6 then some (M (jpt l0 9) 1) else some (-1))))))))
def f_X10_in  (M : jM) (l0 l1 l2 : Int) : Option Int :=
  (if w32 l0 < w32 l1 then some 0 else (if w32 l2 < w32 l0 then some 0 else some 1))
def f_X10_isRow  (M : jM) (l0 l1 : Int) : Option Int :=
  (f_X10_in M l1 0 ((M (jpt l0 1) 0) - 1)).bind fun r1 => grd (r1 = 0 ∨ r1 = 1) (some r1)
def f_X10_isPlayer  (M : jM) (l0 l1 : Int) : Option Int :=
  (f_X10_in M l1 0 ((M (jpt l0 1) 1) - 1)).bind fun r1 => grd (r1 = 0 ∨ r1 = 1) (some r1)
def f_X10_feed  (M : jM) (l0 l1 : Int) : Option (Int × jM) :=
  (f_X10_in M l1 0 127).bind fun r1 => (if w32 r1 = 0 then some ((-2), M) else (if w32 (M (jpt l0 1) 5) = 100 then some ((-4), M) else grd (0 ≤ w32 (132 + (M (jpt l0 1) 5)) ∧ w32 (132 + (M (jpt l0 1) 5)) < 952) (lt1 (sto M (jpt l0 1) (w32 (132 + (M (jpt l0 1) 5))) l1) fun M5 => lt1 (sto M5 (jpt l0 1) 5 ((M5 (jpt l0 1) 5) + 1)) fun M6 => some (M6 (jpt l0 1) 5, M6))))
def f_X10_here  (M : jM) (l0 : Int) : Option Int :=
  (if w32 (M l0 6) ≤ w32 (M l0 5) then some (-1) else grd (0 ≤ w32 (132 + (M l0 5)) ∧ w32 (132 + (M l0 5)) < 952) (some (M (jpt l0 1) (w32 (132 + (M l0 5))))))
def f_X10_must_41  (M : jM) (s0 s1 s2 : Int) : Option jM :=
  lt1 (sto M s0 5 (s1 + s2)) fun M5 => some M5
def f_X10_must_21  (M : jM) (l0 s0 s1 : Int) : Option jM :=
  grd (s1 = 0 ∨ s1 = 1) (lt1 (sto M s0 7 s1) fun M3 => (if w32 (M3 l0 7) = 0 then f_X10_must_41 M3 l0 (M3 l0 5) 1 else f_X10_must_41 M3 l0 (M3 l0 5) 0))
def f_X10_must_16  (M : jM) (l0 s0 : Int) : Option jM :=
  f_X10_must_21 M l0 s0 1
def f_X10_must  (M : jM) (l0 l1 : Int) : Option jM :=
  (if w32 (M l0 7) = 0 then (f_X10_here M l0).bind fun r6 => (if w32 r6 = w32 l1 then f_X10_must_21 M l0 l0 0 else f_X10_must_16 M l0 l0) else f_X10_must_16 M l0 l0)
def f_X10_spells_L2  (M : jM) (l0 l1 : Int) (S : jM × Int) : Option ((jM × Int) ⊕ jM) :=
  (if w32 (jtxL l1) ≤ w32 S.2 then some (.inr S.1) else grd (0 ≤ w32 S.2 ∧ w32 S.2 < jtxL l1) ((f_X10_must S.1 l0 (jtxC l1 (w32 S.2))).bind fun r3 => some (.inl (r3, S.2 + 1))))
def f_X10_spells  (M : jM) (l0 l1 : Int) : Option jM :=
  (iter (f_X10_spells_L2 M l0 l1) 5000 (M, 0)).bind (fun x4 => some x4)
def f_X10_figures_68  (M : jM) (l0 l1 l2 : Int) : Option ((jM × Int × Int) ⊕ ((jM × Int))) :=
  (f_X10_here M l0).bind fun r10 => lt1 (sto M l0 5 ((M l0 5) + 1)) fun M11 => some (.inl (M11, ((10 * l1) + r10) - 48, l2 + 1))
def f_X10_figures_L34  (M : jM) (l0 : Int) (S : jM × Int × Int) : Option ((jM × Int × Int) ⊕ ((jM × Int))) :=
  (if 2 ≤ w32 S.2.2 then some (.inr (S.1, S.2.1)) else (if w32 (S.1 l0 7) = 0 then (f_X10_here S.1 l0).bind fun r6 => (f_X10_in S.1 r6 48 57).bind fun r7 => (if w32 r7 = 0 then some (.inr (S.1, S.2.1)) else (if w32 S.2.2 = 0 then f_X10_figures_68 S.1 l0 S.2.1 S.2.2 else (if w32 S.2.1 ≤ 0 then some (.inr (S.1, S.2.1)) else f_X10_figures_68 S.1 l0 S.2.1 S.2.2))) else some (.inr (S.1, S.2.1))))
def f_X10_figures_27  (M : jM) (l0 s0 s1 : Int) : Option (Int × jM) :=
  grd (s1 = 0 ∨ s1 = 1) (lt1 (sto M s0 7 s1) fun M3 => (iter (f_X10_figures_L34 M3 l0) 5000 (M3, 0, 0)).bind (fun x13 => some (x13.2, x13.1)))
def f_X10_figures_22  (M : jM) (l0 s0 : Int) : Option (Int × jM) :=
  f_X10_figures_27 M l0 s0 1
def f_X10_figures  (M : jM) (l0 : Int) : Option (Int × jM) :=
  (if w32 (M l0 7) = 0 then (f_X10_here M l0).bind fun r14 => (f_X10_in M r14 48 57).bind fun r15 => (if w32 r15 = 0 then f_X10_figures_22 M l0 l0 else f_X10_figures_27 M l0 l0 0) else f_X10_figures_22 M l0 l0)
def f_X10_among_L2  (M : jM) (l0 l1 : Int) (S : Int) : Option ((Int) ⊕ (Unit ⊕ Int)) :=
  (if w32 (jtxL l1) ≤ w32 S then some (.inr (.inl ())) else (f_X10_here M l0).bind fun r2 => grd (0 ≤ w32 S ∧ w32 S < jtxL l1) ((if w32 r2 = w32 (jtxC l1 (w32 S)) then some (.inr (.inr S)) else some (.inl (S + 1)))))
def f_X10_among  (M : jM) (l0 l1 : Int) : Option (Int × jM) :=
  (iter (f_X10_among_L2 M l0 l1) 5000 0).bind (Sum.elim (fun q6 => some ((-1), M)) (fun q7 => lt1 (sto M l0 5 ((M l0 5) + 1)) fun M8 => some (q7, M8)))
def f_X10_emits  (M : jM) (l0 l1 : Int) : Option jM :=
  (if w32 (M l0 7) = 0 then grd (0 ≤ w32 (247 + (M l0 4)) ∧ w32 (247 + (M l0 4)) < 952) (grd (0 ≤ w32 ((252 + (140 * (M l0 4))) + (M (jpt l0 1) (w32 (247 + (M l0 4))))) ∧ w32 ((252 + (140 * (M l0 4))) + (M (jpt l0 1) (w32 (247 + (M l0 4))))) < 952) (lt1 (sto M (jpt l0 1) (w32 ((252 + (140 * (M l0 4))) + (M (jpt l0 1) (w32 (247 + (M l0 4)))))) l1) fun M4 => grd (0 ≤ w32 (247 + (M4 l0 4)) ∧ w32 (247 + (M4 l0 4)) < 952) (grd (0 ≤ w32 (247 + (M4 l0 4)) ∧ w32 (247 + (M4 l0 4)) < 952) (lt1 (sto M4 (jpt l0 1) (w32 (247 + (M4 l0 4))) ((M4 (jpt l0 1) (w32 (247 + (M4 l0 4)))) + 1)) fun M7 => some M7)))) else some M)
def f_X10_some_L4 (r_X10_some : jM → Int → Option jM) (r_X10_every : jM → Int → Option jM) (r_X10_factor : jM → Int → Option jM) (M : jM) (l0 : Int) (S : jM) : Option ((jM) ⊕ jM) :=
  (if w32 (S l0 7) = 0 then (f_X10_here S l0).bind fun r3 => (if w32 r3 = 124 then lt1 (sto S l0 5 ((S l0 5) + 1)) fun M5 => (r_X10_every M5 l0).bind fun r6 => (f_X10_emits r6 l0 (-3)).bind fun r7 => some (.inl r7) else some (.inr S)) else some (.inr S))
def fb_X10_some (r_X10_some : jM → Int → Option jM) (r_X10_every : jM → Int → Option jM) (r_X10_factor : jM → Int → Option jM) (M : jM) (l0 : Int) : Option jM :=
  (r_X10_every M l0).bind fun r1 => (iter (f_X10_some_L4 r_X10_some r_X10_every r_X10_factor r1 l0) 5000 r1).bind (fun x8 => some x8)
def f_X10_every_L4 (r_X10_some : jM → Int → Option jM) (r_X10_every : jM → Int → Option jM) (r_X10_factor : jM → Int → Option jM) (M : jM) (l0 : Int) (S : jM) : Option ((jM) ⊕ jM) :=
  (if w32 (S l0 7) = 0 then (f_X10_here S l0).bind fun r3 => (if w32 r3 = 38 then lt1 (sto S l0 5 ((S l0 5) + 1)) fun M5 => (r_X10_factor M5 l0).bind fun r6 => (f_X10_emits r6 l0 (-2)).bind fun r7 => some (.inl r7) else some (.inr S)) else some (.inr S))
def fb_X10_every (r_X10_some : jM → Int → Option jM) (r_X10_every : jM → Int → Option jM) (r_X10_factor : jM → Int → Option jM) (M : jM) (l0 : Int) : Option jM :=
  (r_X10_factor M l0).bind fun r1 => (iter (f_X10_every_L4 r_X10_some r_X10_every r_X10_factor r1 l0) 5000 r1).bind (fun x8 => some x8)
def f_X10_factor_101 (r_X10_some : jM → Int → Option jM) (r_X10_every : jM → Int → Option jM) (r_X10_factor : jM → Int → Option jM) (M : jM) (l0 : Int) : Option jM :=
  lt1 (sto M l0 8 ((M l0 8) - 1)) fun M13 => some M13
def f_X10_factor_69 (r_X10_some : jM → Int → Option jM) (r_X10_every : jM → Int → Option jM) (r_X10_factor : jM → Int → Option jM) (M : jM) (l0 l1 s0 s1 s2 : Int) : Option jM :=
  lt1 (sto M s0 5 (s1 + s2)) fun M9 => (if w32 l1 = 33 then (r_X10_factor M9 l0).bind fun r14 => (f_X10_emits r14 l0 (-1)).bind fun r15 => f_X10_factor_101 r_X10_some r_X10_every r_X10_factor r15 l0 else (r_X10_some M9 l0).bind fun r11 => (f_X10_must r11 l0 41).bind fun r12 => f_X10_factor_101 r_X10_some r_X10_every r_X10_factor r12 l0)
def f_X10_factor_39 (r_X10_some : jM → Int → Option jM) (r_X10_every : jM → Int → Option jM) (r_X10_factor : jM → Int → Option jM) (M : jM) (l0 l1 s0 s1 : Int) : Option jM :=
  grd (s1 = 0 ∨ s1 = 1) (lt1 (sto M s0 7 s1) fun M6 => lt1 (sto M6 l0 8 ((M6 l0 8) + 1)) fun M7 => (if w32 (M7 l0 7) = 0 then f_X10_factor_69 r_X10_some r_X10_every r_X10_factor M7 l0 l1 l0 (M7 l0 5) 1 else f_X10_factor_69 r_X10_some r_X10_every r_X10_factor M7 l0 l1 l0 (M7 l0 5) 0))
def f_X10_factor_25 (r_X10_some : jM → Int → Option jM) (r_X10_every : jM → Int → Option jM) (r_X10_factor : jM → Int → Option jM) (M : jM) (l0 l1 : Int) : Option jM :=
  (if w32 (M l0 8) = 5 then f_X10_factor_39 r_X10_some r_X10_every r_X10_factor M l0 l1 l0 1 else f_X10_factor_39 r_X10_some r_X10_every r_X10_factor M l0 l1 l0 0)
def f_X10_factor_169 (r_X10_some : jM → Int → Option jM) (r_X10_every : jM → Int → Option jM) (r_X10_factor : jM → Int → Option jM) (M : jM) (l0 l2 l3 s0 s1 : Int) : Option jM :=
  grd (s1 = 0 ∨ s1 = 1) (lt1 (sto M s0 7 s1) fun M25 => (f_X10_figures M25 l0).bind fun r26 => (f_X10_emits r26.2 l0 ((l2 + (8 * l3)) + (32 * r26.1))).bind fun r27 => some r27)
def f_X10_factor_164 (r_X10_some : jM → Int → Option jM) (r_X10_every : jM → Int → Option jM) (r_X10_factor : jM → Int → Option jM) (M : jM) (l0 l2 l3 s0 : Int) : Option jM :=
  f_X10_factor_169 r_X10_some r_X10_every r_X10_factor M l0 l2 l3 s0 1
def f_X10_factor_150 (r_X10_some : jM → Int → Option jM) (r_X10_every : jM → Int → Option jM) (r_X10_factor : jM → Int → Option jM) (M : jM) (l0 l2 s0 : Int) : Option jM :=
  (if w32 (M l0 7) = 0 then (if w32 s0 = (-1) then f_X10_factor_164 r_X10_some r_X10_every r_X10_factor M l0 l2 s0 l0 else f_X10_factor_169 r_X10_some r_X10_every r_X10_factor M l0 l2 s0 l0 0) else f_X10_factor_164 r_X10_some r_X10_every r_X10_factor M l0 l2 s0 l0)
def f_X10_factor_130 (r_X10_some : jM → Int → Option jM) (r_X10_every : jM → Int → Option jM) (r_X10_factor : jM → Int → Option jM) (M : jM) (l0 l2 s0 s1 : Int) : Option jM :=
  grd (s1 = 0 ∨ s1 = 1) (lt1 (sto M s0 7 s1) fun M20 => (if w32 (M20 l0 7) = 0 then (f_X10_among M20 l0 5).bind fun r22 => f_X10_factor_150 r_X10_some r_X10_every r_X10_factor r22.2 l0 l2 r22.1 else f_X10_factor_150 r_X10_some r_X10_every r_X10_factor M20 l0 l2 0))
def fb_X10_factor (r_X10_some : jM → Int → Option jM) (r_X10_every : jM → Int → Option jM) (r_X10_factor : jM → Int → Option jM) (M : jM) (l0 : Int) : Option jM :=
  (if w32 (M l0 7) = 0 then (f_X10_here M l0).bind fun r2 => (if w32 r2 = 33 then f_X10_factor_25 r_X10_some r_X10_every r_X10_factor M l0 r2 else (if w32 r2 = 40 then f_X10_factor_25 r_X10_some r_X10_every r_X10_factor M l0 r2 else (f_X10_among M l0 4).bind fun r17 => (if w32 r17.1 = (-1) then f_X10_factor_130 r_X10_some r_X10_every r_X10_factor r17.2 l0 r17.1 l0 1 else f_X10_factor_130 r_X10_some r_X10_every r_X10_factor r17.2 l0 r17.1 l0 0))) else some M)
def fx_ev : Nat → Nat → jM → Int → Option jM
  | 0, _ => fun _ _ => none
  | d + 1, 0 => fb_X10_some (fx_ev d 0) (fx_ev d 1) (fx_ev d 2)
  | d + 1, 1 => fb_X10_every (fx_ev d 0) (fx_ev d 1) (fx_ev d 2)
  | d + 1, _ => fb_X10_factor (fx_ev d 0) (fx_ev d 1) (fx_ev d 2)
def ft_X10_some : jM → Int → Option jM := fx_ev 40 0
def ft_X10_every : jM → Int → Option jM := fx_ev 40 1
def ft_X10_factor : jM → Int → Option jM := fx_ev 40 2
def f_X10_tellsHere  (M : jM) (l0 l1 l2 : Int) : Option jM :=
  (f_X10_spells M l0 l2).bind fun r1 => (f_X10_figures r1 l0).bind fun r2 => (if w32 (r2.2 l0 7) = 0 then grd (0 ≤ w32 (l1 + (r2.2 l0 4)) ∧ w32 (l1 + (r2.2 l0 4)) < 952) (lt1 (sto r2.2 (jpt l0 1) (w32 (l1 + (r2.2 l0 4))) r2.1) fun M5 => some M5) else some r2.2)
def f_X10_clauseHere  (M : jM) (l0 : Int) : Option jM :=
  (f_X10_here M l0).bind fun r1 => (if w32 r1 = 102 then (f_X10_tellsHere M l0 237 2).bind fun r3 => some r3 else (if w32 r1 = 104 then (f_X10_spells M l0 0).bind fun r5 => (f_X10_figures r5 l0).bind fun r6 => (f_X10_must r6.2 l0 32).bind fun r7 => (ft_X10_some r7 l0).bind fun r8 => (f_X10_emits r8 l0 ((-10) - r6.1)).bind fun r9 => some r9 else (if w32 r1 = 112 then (f_X10_tellsHere M l0 242 3).bind fun r11 => some r11 else (if w32 r1 = 115 then (f_X10_tellsHere M l0 232 1).bind fun r13 => some r13 else lt1 (sto M l0 7 1) fun M14 => some M14))))
def f_X10_stall_L118  (M : jM) (l0 : Int) (S : jM × Int) : Option ((jM × Int) ⊕ jM) :=
  (if w32 (S.1 l0 7) = 0 then (if 10 ≤ w32 S.2 then some (.inr S.1) else (f_X10_here S.1 l0).bind fun r19 => (if w32 r19 = 59 then lt1 (sto S.1 l0 5 ((S.1 l0 5) + 1)) fun M21 => (f_X10_clauseHere M21 l0).bind fun r22 => some (.inl (r22, S.2 + 1)) else some (.inr S.1))) else some (.inr S.1))
def f_X10_stall  (M : jM) (l0 : Int) : Option (Int × jM) :=
  (if w32 (M (jpt l0 1) 2) = 5 then some ((-4), M) else lt1 (sto M l0 4 (M (jpt l0 1) 2)) fun M2 => lt1 (sto M2 l0 6 (M2 (jpt l0 1) 5)) fun M3 => lt1 (sto M3 (jpt l0 1) 5 0) fun M4 => grd (0 ≤ w32 (232 + (M4 l0 4)) ∧ w32 (232 + (M4 l0 4)) < 952) (lt1 (sto M4 (jpt l0 1) (w32 (232 + (M4 l0 4))) 2) fun M6 => grd (0 ≤ w32 (237 + (M6 l0 4)) ∧ w32 (237 + (M6 l0 4)) < 952) (lt1 (sto M6 (jpt l0 1) (w32 (237 + (M6 l0 4))) 1) fun M8 => grd (0 ≤ w32 (242 + (M8 l0 4)) ∧ w32 (242 + (M8 l0 4)) < 952) (lt1 (sto M8 (jpt l0 1) (w32 (242 + (M8 l0 4))) 10) fun M10 => grd (0 ≤ w32 (247 + (M10 l0 4)) ∧ w32 (247 + (M10 l0 4)) < 952) (lt1 (sto M10 (jpt l0 1) (w32 (247 + (M10 l0 4))) 0) fun M12 => lt1 (sto M12 l0 5 0) fun M13 => lt1 (sto M13 l0 7 0) fun M14 => lt1 (sto M14 l0 8 0) fun M15 => (f_X10_clauseHere M15 l0).bind fun r16 => (iter (f_X10_stall_L118 r16 l0) 5000 (r16, 1)).bind (fun x23 => (if w32 (x23 l0 7) = 0 then (if w32 (x23 l0 5) = w32 (x23 l0 6) then lt1 (sto x23 (jpt l0 1) 2 ((x23 (jpt l0 1) 2) + 1)) fun M26 => lt1 (sto M26 (jpt l0 1) 6 (M26 l0 4)) fun M27 => some (M27 l0 4, M27) else some ((-10) - (x23 l0 5), x23)) else some ((-10) - (x23 l0 5), x23))))))))
def f_X10_tellsOf  (M : jM) (l0 l1 l2 : Int) : Option Int :=
  (if w32 (M (jpt l0 1) 6) = (-1) then some l2 else grd (0 ≤ w32 (l1 + (M (jpt l0 1) 6)) ∧ w32 (l1 + (M (jpt l0 1) 6)) < 952) (some (M (jpt l0 1) (w32 (l1 + (M (jpt l0 1) 6))))))
def f_X10_signs  (M : jM) (l0 : Int) : Option Int :=
  (f_X10_tellsOf M l0 232 2).bind fun r1 => (if w32 r1 ≤ 2 then some 2 else some 3)
def f_X10_weightOf_349  (M : jM) (l0 l2 l3 l4 l5 l6 : Int) : Option ((jM × Int × Int × Int) ⊕ ((jM × Int))) :=
  some (.inl (M, l2, l5, l6 + 1))
def f_X10_weightOf_347  (M : jM) (l0 l3 l4 l5 l6 s0 s1 : Int) : Option ((jM × Int × Int × Int) ⊕ ((jM × Int))) :=
  f_X10_weightOf_349 M l0 (s0 + s1) l3 l4 l5 l6
def f_X10_weightOf_321  (M : jM) (l0 l2 l3 l4 l5 l6 s0 s1 s2 : Int) : Option ((jM × Int × Int × Int) ⊕ ((jM × Int))) :=
  grd (0 ≤ w32 s1 ∧ w32 s1 < 64) (grd (s2 = 0 ∨ s2 = 1) (lt1 (sto M s0 (w32 s1) s2) fun M18 => f_X10_weightOf_349 M18 l0 l2 l3 l4 l5 l6))
def f_X10_weightOf_316  (M : jM) (l0 l2 l3 l4 l5 l6 s0 s1 : Int) : Option ((jM × Int × Int × Int) ⊕ ((jM × Int))) :=
  f_X10_weightOf_321 M l0 l2 l3 l4 l5 l6 s0 s1 1
def f_X10_weightOf_290  (M : jM) (l0 l2 l3 l4 l5 l6 s0 s1 : Int) : Option ((jM × Int × Int × Int) ⊕ ((jM × Int))) :=
  f_X10_weightOf_321 M l0 l2 l3 l4 l5 l6 s0 s1 0
def f_X10_weightOf_235  (M : jM) (l0 l2 l3 l4 l5 l6 s0 s1 s2 : Int) : Option ((jM × Int × Int × Int) ⊕ ((jM × Int))) :=
  grd (0 ≤ w32 s1 ∧ w32 s1 < 64) (grd (s2 = 0 ∨ s2 = 1) (lt1 (sto M s0 (w32 s1) s2) fun M29 => f_X10_weightOf_349 M29 l0 l2 l3 l4 l5 l6))
def f_X10_weightOf_197  (M : jM) (l0 l2 l3 l4 l5 l6 s0 s1 s2 : Int) : Option ((jM × Int × Int × Int) ⊕ ((jM × Int))) :=
  grd (0 ≤ w32 s1 ∧ w32 s1 < 64) (grd (s2 = 0 ∨ s2 = 1) (lt1 (sto M s0 (w32 s1) s2) fun M40 => f_X10_weightOf_349 M40 l0 l2 l3 l4 (l5 + 1) l6))
def f_X10_weightOf_L87  (M : jM) (l0 l3 l4 : Int) (S : jM × Int × Int × Int) : Option ((jM × Int × Int × Int) ⊕ ((jM × Int))) :=
  (if w32 (l4 + l3) ≤ w32 S.2.2.2 then some (.inr (S.1, S.2.1)) else grd (0 ≤ w32 S.2.2.2 ∧ w32 S.2.2.2 < 952) ((if w32 (S.1 (jpt l0 1) (w32 S.2.2.2)) < 0 then (if w32 (S.1 (jpt l0 1) (w32 S.2.2.2)) = (-1) then grd (0 ≤ w32 (S.2.2.1 - 1) ∧ w32 (S.2.2.1 - 1) < 64) ((if w32 (S.1 (jpt l0 10) (w32 (S.2.2.1 - 1))) = 0 then f_X10_weightOf_235 S.1 l0 S.2.1 l3 l4 S.2.2.1 S.2.2.2 (jpt l0 10) (S.2.2.1 - 1) 1 else f_X10_weightOf_235 S.1 l0 S.2.1 l3 l4 S.2.2.1 S.2.2.2 (jpt l0 10) (S.2.2.1 - 1) 0)) else (if w32 (S.1 (jpt l0 1) (w32 S.2.2.2)) ≤ (-10) then (if w32 (S.1 (jpt l0 10) 0) = 0 then f_X10_weightOf_347 S.1 l0 l3 l4 0 S.2.2.2 S.2.1 0 else f_X10_weightOf_347 S.1 l0 l3 l4 0 S.2.2.2 S.2.1 ((-10) - (S.1 (jpt l0 1) (w32 S.2.2.2)))) else (if w32 (S.1 (jpt l0 1) (w32 S.2.2.2)) = (-2) then grd (0 ≤ w32 ((S.2.2.1 + (-1)) - 1) ∧ w32 ((S.2.2.1 + (-1)) - 1) < 64) ((if w32 (S.1 (jpt l0 10) (w32 ((S.2.2.1 + (-1)) - 1))) = 0 then f_X10_weightOf_290 S.1 l0 S.2.1 l3 l4 (S.2.2.1 + (-1)) S.2.2.2 (jpt l0 10) ((S.2.2.1 + (-1)) - 1) else grd (0 ≤ w32 (S.2.2.1 + (-1)) ∧ w32 (S.2.2.1 + (-1)) < 64) ((if w32 (S.1 (jpt l0 10) (w32 (S.2.2.1 + (-1)))) = 0 then f_X10_weightOf_290 S.1 l0 S.2.1 l3 l4 (S.2.2.1 + (-1)) S.2.2.2 (jpt l0 10) ((S.2.2.1 + (-1)) - 1) else f_X10_weightOf_321 S.1 l0 S.2.1 l3 l4 (S.2.2.1 + (-1)) S.2.2.2 (jpt l0 10) ((S.2.2.1 + (-1)) - 1) 1)))) else grd (0 ≤ w32 ((S.2.2.1 + (-1)) - 1) ∧ w32 ((S.2.2.1 + (-1)) - 1) < 64) ((if w32 (S.1 (jpt l0 10) (w32 ((S.2.2.1 + (-1)) - 1))) = 0 then grd (0 ≤ w32 (S.2.2.1 + (-1)) ∧ w32 (S.2.2.1 + (-1)) < 64) ((if w32 (S.1 (jpt l0 10) (w32 (S.2.2.1 + (-1)))) = 0 then f_X10_weightOf_321 S.1 l0 S.2.1 l3 l4 (S.2.2.1 + (-1)) S.2.2.2 (jpt l0 10) ((S.2.2.1 + (-1)) - 1) 0 else f_X10_weightOf_316 S.1 l0 S.2.1 l3 l4 (S.2.2.1 + (-1)) S.2.2.2 (jpt l0 10) ((S.2.2.1 + (-1)) - 1))) else f_X10_weightOf_316 S.1 l0 S.2.1 l3 l4 (S.2.2.1 + (-1)) S.2.2.2 (jpt l0 10) ((S.2.2.1 + (-1)) - 1)))))) else grd (¬ w32 8 = 0) (grd (0 ≤ w32 ((w32 (S.1 (jpt l0 1) (w32 S.2.2.2))).tmod (w32 8)) ∧ w32 ((w32 (S.1 (jpt l0 1) (w32 S.2.2.2))).tmod (w32 8)) < 3) (grd (¬ w32 8 = 0) (grd (¬ w32 4 = 0) (grd (¬ w32 32 = 0) ((if w32 ((w32 ((w32 (S.1 (jpt l0 1) (w32 S.2.2.2))).tdiv (w32 8))).tmod (w32 4)) = 0 then (if w32 ((w32 (S.1 (jpt l0 1) (w32 S.2.2.2))).tdiv (w32 32)) ≤ w32 (S.1 (jpt l0 9) (w32 ((w32 (S.1 (jpt l0 1) (w32 S.2.2.2))).tmod (w32 8)))) then f_X10_weightOf_197 S.1 l0 S.2.1 l3 l4 S.2.2.1 S.2.2.2 (jpt l0 10) S.2.2.1 0 else f_X10_weightOf_197 S.1 l0 S.2.1 l3 l4 S.2.2.1 S.2.2.2 (jpt l0 10) S.2.2.1 1) else (if w32 ((w32 ((w32 (S.1 (jpt l0 1) (w32 S.2.2.2))).tdiv (w32 8))).tmod (w32 4)) = 1 then (if w32 (S.1 (jpt l0 9) (w32 ((w32 (S.1 (jpt l0 1) (w32 S.2.2.2))).tmod (w32 8)))) = w32 ((w32 (S.1 (jpt l0 1) (w32 S.2.2.2))).tdiv (w32 32)) then f_X10_weightOf_197 S.1 l0 S.2.1 l3 l4 S.2.2.1 S.2.2.2 (jpt l0 10) S.2.2.1 1 else f_X10_weightOf_197 S.1 l0 S.2.1 l3 l4 S.2.2.1 S.2.2.2 (jpt l0 10) S.2.2.1 0) else (if w32 (S.1 (jpt l0 9) (w32 ((w32 (S.1 (jpt l0 1) (w32 S.2.2.2))).tmod (w32 8)))) ≤ w32 ((w32 (S.1 (jpt l0 1) (w32 S.2.2.2))).tdiv (w32 32)) then f_X10_weightOf_197 S.1 l0 S.2.1 l3 l4 S.2.2.1 S.2.2.2 (jpt l0 10) S.2.2.1 0 else f_X10_weightOf_197 S.1 l0 S.2.1 l3 l4 S.2.2.1 S.2.2.2 (jpt l0 10) S.2.2.1 1)))))))))))
def f_X10_weightOf_22  (M : jM) (l0 l1 : Int) : Option (Int × jM) :=
  lt1 (sto M (jpt l0 9) 0 l1) fun M2 => (f_X10_signs M2 l0).bind fun r3 => lt1 (sto M2 (jpt l0 9) 1 r3) fun M4 => lt1 (sto M4 (jpt l0 9) 2 (M4 (jpt l0 1) 7)) fun M5 => (f_X10_tellsOf M5 l0 247 0).bind fun r6 => (iter (f_X10_weightOf_L87 M5 l0 r6 (252 + (140 * (M5 (jpt l0 1) 6)))) 5000 (M5, 1, 0, 252 + (140 * (M5 (jpt l0 1) 6)))).bind (fun x43 => (if w32 x43.2 ≤ 4 then some (x43.2, x43.1) else some (4, x43.1)))
def f_X10_weightOf  (M : jM) (l0 l1 : Int) : Option (Int × jM) :=
  (if w32 l1 = 0 then (if w32 (M (jpt l0 1) 8) ≤ 0 then f_X10_weightOf_22 M l0 l1 else some (M (jpt l0 1) 8, M)) else f_X10_weightOf_22 M l0 l1)
def f_X10_looksForWeights_L7  (M : jM) (l0 : Int) (S : jM × Int) : Option ((jM × Int) ⊕ jM) :=
  (f_X10_signs S.1 l0).bind fun r2 => (if w32 r2 ≤ w32 S.2 then some (.inr S.1) else (f_X10_weightOf S.1 l0 S.2).bind fun r4 => grd (0 ≤ w32 S.2 ∧ w32 S.2 < 3) (lt1 (sto r4.2 (jpt l0 11) (w32 S.2) r4.1) fun M6 => grd (0 ≤ w32 S.2 ∧ w32 S.2 < 3) (lt1 (sto M6 l0 12 ((M6 l0 12) + (M6 (jpt l0 11) (w32 S.2)))) fun M8 => some (.inl (M8, S.2 + 1)))))
def f_X10_looksForWeights  (M : jM) (l0 : Int) : Option jM :=
  lt1 (sto M l0 12 0) fun M1 => (iter (f_X10_looksForWeights_L7 M1 l0) 5000 (M1, 0)).bind (fun x9 => some x9)
def f_X10_day  (M : jM) (l0 l1 : Int) : Option (Int × jM) :=
  (f_X10_in M l1 0 9).bind fun r1 => (if w32 r1 = 0 then some ((-2), M) else lt1 (sto M (jpt l0 1) 7 l1) fun M3 => some (M (jpt l0 1) 7, M3))
def f_X10_told  (M : jM) (l0 l1 : Int) : Option (Int × jM) :=
  (f_X10_looksForWeights M l0).bind fun r1 => (if w32 l1 = 0 then (f_X10_signs r1 l0).bind fun r3 => some (r3, r1) else (if w32 l1 = 1 then (f_X10_tellsOf r1 l0 237 1).bind fun r5 => some (r5, r1) else (if w32 l1 = 2 then (f_X10_tellsOf r1 l0 242 10).bind fun r7 => some (r7, r1) else (if w32 l1 = 3 then some (r1 (jpt l0 1) 7, r1) else (if w32 l1 = 4 then some (r1 l0 12, r1) else (f_X10_signs r1 l0).bind fun r10 => (f_X10_in r1 l1 10 (9 + r10)).bind fun r11 => (if w32 r11 = 0 then some ((-1), r1) else grd (0 ≤ w32 (l1 - 10) ∧ w32 (l1 - 10) < 3) (some (r1 (jpt l0 11) (w32 (l1 - 10)), r1))))))))
def f_X10_sign  (M : jM) (l0 l1 : Int) : Option (Int × jM) :=
  (if w32 l1 = (-1) then lt1 (sto M (jpt l0 1) 3 0) fun M8 => some (0, M8) else (f_X10_in M l1 0 2).bind fun r2 => (if w32 r2 = 0 then some ((-2), M) else (if w32 (M (jpt l0 1) 3) = 6 then some ((-4), M) else grd (0 ≤ w32 (66 + (M (jpt l0 1) 3)) ∧ w32 (66 + (M (jpt l0 1) 3)) < 952) (lt1 (sto M (jpt l0 1) (w32 (66 + (M (jpt l0 1) 3))) l1) fun M6 => lt1 (sto M6 (jpt l0 1) 3 ((M6 (jpt l0 1) 3) + 1)) fun M7 => some (M7 (jpt l0 1) 3, M7)))))
def f_X10_row_L35  (M : jM) (l0 l1 : Int) (S : jM × Int) : Option ((jM × Int) ⊕ jM) :=
  (if 6 ≤ w32 S.2 then some (.inr S.1) else grd (0 ≤ w32 (66 + S.2) ∧ w32 (66 + S.2) < 952) (grd (0 ≤ w32 ((10 + (6 * l1)) + S.2) ∧ w32 ((10 + (6 * l1)) + S.2) < 952) (lt1 (sto S.1 (jpt l0 1) (w32 ((10 + (6 * l1)) + S.2)) (S.1 (jpt l0 1) (w32 (66 + S.2)))) fun M6 => some (.inl (M6, S.2 + 1)))))
def f_X10_row  (M : jM) (l0 : Int) : Option (Int × jM) :=
  (if w32 (M (jpt l0 1) 3) = 0 then some ((-3), M) else (if w32 (M (jpt l0 1) 0) = 6 then some ((-4), M) else (iter (f_X10_row_L35 M l0 (M (jpt l0 1) 0)) 5000 (M, 0)).bind (fun x7 => grd (0 ≤ w32 (58 + (M (jpt l0 1) 0)) ∧ w32 (58 + (M (jpt l0 1) 0)) < 952) (lt1 (sto x7 (jpt l0 1) (w32 (58 + (M (jpt l0 1) 0))) (x7 (jpt l0 1) 3)) fun M9 => lt1 (sto M9 (jpt l0 1) 3 0) fun M10 => lt1 (sto M10 (jpt l0 1) 0 ((M10 (jpt l0 1) 0) + 1)) fun M11 => some (M (jpt l0 1) 0, M11)))))
def f_X10_of  (M : jM) (l0 l1 l2 : Int) : Option Int :=
  (f_X10_isRow M l0 l1).bind fun r1 => (if w32 r1 = 0 then some (-1) else grd (0 ≤ w32 (58 + l1) ∧ w32 (58 + l1) < 952) ((f_X10_in M l2 (-1) ((M (jpt l0 1) (w32 (58 + l1))) - 1)).bind fun r4 => (if w32 r4 = 0 then some (-1) else (if w32 l2 = (-1) then grd (0 ≤ w32 (58 + l1) ∧ w32 (58 + l1) < 952) (some (M (jpt l0 1) (w32 (58 + l1)))) else grd (0 ≤ w32 ((10 + (6 * l1)) + l2) ∧ w32 ((10 + (6 * l1)) + l2) < 952) (some (M (jpt l0 1) (w32 ((10 + (6 * l1)) + l2))))))))
def f_X10_player  (M : jM) (l0 l1 l2 : Int) : Option (Int × jM) :=
  (f_X10_in M l1 0 6).bind fun r1 => (if w32 r1 = 0 then some ((-1), M) else (f_X10_in M l2 0 9).bind fun r3 => (if w32 r3 = 0 then some ((-2), M) else (if w32 (M (jpt l0 1) 1) = 4 then some ((-4), M) else grd (0 ≤ w32 (96 + (M (jpt l0 1) 1)) ∧ w32 (96 + (M (jpt l0 1) 1)) < 952) (lt1 (sto M (jpt l0 1) (w32 (96 + (M (jpt l0 1) 1))) l1) fun M7 => grd (0 ≤ w32 (100 + (M (jpt l0 1) 1)) ∧ w32 (100 + (M (jpt l0 1) 1)) < 952) (lt1 (sto M7 (jpt l0 1) (w32 (100 + (M (jpt l0 1) 1))) l2) fun M9 => grd (0 ≤ w32 (128 + (M (jpt l0 1) 1)) ∧ w32 (128 + (M (jpt l0 1) 1)) < 952) (lt1 (sto M9 (jpt l0 1) (w32 (128 + (M (jpt l0 1) 1))) 0) fun M11 => lt1 (sto M11 (jpt l0 1) 1 ((M11 (jpt l0 1) 1) + 1)) fun M12 => some (M (jpt l0 1) 1, M12)))))))
def f_X10_own_L29  (M : jM) (l0 l1 : Int) (S : jM × Int) : Option ((jM × Int) ⊕ jM) :=
  (if 6 ≤ w32 S.2 then some (.inr S.1) else grd (0 ≤ w32 (66 + S.2) ∧ w32 (66 + S.2) < 952) (grd (0 ≤ w32 ((104 + (6 * l1)) + S.2) ∧ w32 ((104 + (6 * l1)) + S.2) < 952) (lt1 (sto S.1 (jpt l0 1) (w32 ((104 + (6 * l1)) + S.2)) (S.1 (jpt l0 1) (w32 (66 + S.2)))) fun M8 => some (.inl (M8, S.2 + 1)))))
def f_X10_own  (M : jM) (l0 l1 : Int) : Option (Int × jM) :=
  (f_X10_isPlayer M l0 l1).bind fun r1 => (if w32 r1 = 0 then some ((-1), M) else grd (0 ≤ w32 (96 + l1) ∧ w32 (96 + l1) < 952) ((if w32 (M (jpt l0 1) (w32 (96 + l1))) = 6 then (iter (f_X10_own_L29 M l0 l1) 5000 (M, 0)).bind (fun x9 => grd (0 ≤ w32 (128 + l1) ∧ w32 (128 + l1) < 952) (lt1 (sto x9 (jpt l0 1) (w32 (128 + l1)) (x9 (jpt l0 1) 3)) fun M11 => lt1 (sto M11 (jpt l0 1) 3 0) fun M12 => grd (0 ≤ w32 (128 + l1) ∧ w32 (128 + l1) < 952) (some (M12 (jpt l0 1) (w32 (128 + l1)), M12)))) else some ((-3), M))))
def f_X10_isLawful_47  (M : jM) (l0 l1 l3 s0 : Int) : Option ((Int × Int) ⊕ Int) :=
  some (.inl (s0, l3 + 1))
def f_X10_isLawful_46  (M : jM) (l0 l1 l3 : Int) : Option ((Int × Int) ⊕ Int) :=
  f_X10_isLawful_47 M l0 l1 l3 0
def f_X10_isLawful_L4  (M : jM) (l0 l1 : Int) (S : Int × Int) : Option ((Int × Int) ⊕ Int) :=
  grd (0 ≤ w32 (58 + l1) ∧ w32 (58 + l1) < 952) ((if w32 (M (jpt l0 1) (w32 (58 + l1))) ≤ w32 S.2 then some (.inr S.1) else (if w32 S.1 = 0 then f_X10_isLawful_46 M l0 l1 S.2 else grd (0 ≤ w32 ((10 + (6 * l1)) + S.2) ∧ w32 ((10 + (6 * l1)) + S.2) < 952) ((f_X10_signs M l0).bind fun r5 => (if w32 r5 ≤ w32 (M (jpt l0 1) (w32 ((10 + (6 * l1)) + S.2))) then f_X10_isLawful_46 M l0 l1 S.2 else f_X10_isLawful_47 M l0 l1 S.2 1)))))
def f_X10_isLawful  (M : jM) (l0 l1 : Int) : Option Int :=
  (iter (f_X10_isLawful_L4 M l0 l1) 5000 (1, 0)).bind (fun x7 => grd (x7 = 0 ∨ x7 = 1) (some x7))
def f_X10_endsWith_65  (M : jM) (l0 l1 l2 l3 l4 l6 s0 : Int) : Option ((Int × Int) ⊕ Int) :=
  some (.inl (s0, l6 + 1))
def f_X10_endsWith_L16  (M : jM) (l0 l1 l2 l3 l4 : Int) (S : Int × Int) : Option ((Int × Int) ⊕ Int) :=
  (if w32 l4 ≤ w32 S.2 then some (.inr S.1) else (if w32 S.1 = 0 then some (.inr S.1) else grd (0 ≤ w32 (((l1 + l2) - l4) + S.2) ∧ w32 (((l1 + l2) - l4) + S.2) < 952) (grd (0 ≤ w32 ((10 + (6 * l3)) + S.2) ∧ w32 ((10 + (6 * l3)) + S.2) < 952) ((if w32 (M (jpt l0 1) (w32 (((l1 + l2) - l4) + S.2))) = w32 (M (jpt l0 1) (w32 ((10 + (6 * l3)) + S.2))) then f_X10_endsWith_65 M l0 l1 l2 l3 l4 S.2 1 else f_X10_endsWith_65 M l0 l1 l2 l3 l4 S.2 0)))))
def f_X10_endsWith_11  (M : jM) (l0 l1 l2 l3 l4 s0 : Int) : Option Int :=
  (iter (f_X10_endsWith_L16 M l0 l1 l2 l3 l4) 5000 (s0, 0)).bind (fun x7 => grd (x7 = 0 ∨ x7 = 1) (some x7))
def f_X10_endsWith  (M : jM) (l0 l1 l2 l3 l4 : Int) : Option Int :=
  (if w32 l2 < w32 l4 then f_X10_endsWith_11 M l0 l1 l2 l3 l4 0 else f_X10_endsWith_11 M l0 l1 l2 l3 l4 1)
def f_X10_isWithin_42  (M : jM) (l0 l1 l2 l3 l5 s0 : Int) : Option ((Int × Int) ⊕ Int) :=
  some (.inl (s0, l5 + 1))
def f_X10_isWithin_37  (M : jM) (l0 l1 l2 l3 l5 : Int) : Option ((Int × Int) ⊕ Int) :=
  f_X10_isWithin_42 M l0 l1 l2 l3 l5 1
def f_X10_isWithin_L6  (M : jM) (l0 l1 l2 l3 : Int) (S : Int × Int) : Option ((Int × Int) ⊕ Int) :=
  (if w32 l3 < w32 S.2 then some (.inr S.1) else (if w32 S.1 = 0 then grd (0 ≤ w32 (58 + l1) ∧ w32 (58 + l1) < 952) ((f_X10_endsWith M l0 l2 S.2 l1 (M (jpt l0 1) (w32 (58 + l1)))).bind fun r4 => (if w32 r4 = 0 then f_X10_isWithin_42 M l0 l1 l2 l3 S.2 0 else f_X10_isWithin_37 M l0 l1 l2 l3 S.2)) else f_X10_isWithin_37 M l0 l1 l2 l3 S.2))
def f_X10_isWithin  (M : jM) (l0 l1 l2 l3 : Int) : Option Int :=
  (iter (f_X10_isWithin_L6 M l0 l1 l2 l3) 5000 (0, 1)).bind (fun x6 => grd (x6 = 0 ∨ x6 = 1) (some x6))
def f_X10_areApart  (M : jM) (l0 l1 l2 : Int) : Option Int :=
  grd (0 ≤ w32 (58 + l2) ∧ w32 (58 + l2) < 952) ((f_X10_isWithin M l0 l1 (10 + (6 * l2)) (M (jpt l0 1) (w32 (58 + l2)))).bind fun r2 => (if w32 r2 = 0 then grd (0 ≤ w32 (58 + l1) ∧ w32 (58 + l1) < 952) ((f_X10_isWithin M l0 l2 (10 + (6 * l1)) (M (jpt l0 1) (w32 (58 + l1)))).bind fun r5 => (if w32 r5 = 0 then some 1 else some 0)) else some 0))
def f_X10_weightsFrom_L5  (M : jM) (l0 l1 : Int) (S : Int × Int) : Option ((Int × Int) ⊕ Int) :=
  grd (0 ≤ w32 (58 + l1) ∧ w32 (58 + l1) < 952) ((if w32 (M (jpt l0 1) (w32 (58 + l1))) ≤ w32 S.2 then some (.inr S.1) else grd (0 ≤ w32 ((10 + (6 * l1)) + S.2) ∧ w32 ((10 + (6 * l1)) + S.2) < 952) (grd (0 ≤ w32 (M (jpt l0 1) (w32 ((10 + (6 * l1)) + S.2))) ∧ w32 (M (jpt l0 1) (w32 ((10 + (6 * l1)) + S.2))) < 3) (some (.inl (S.1 * (w32 (M (jpt l0 11) (w32 (M (jpt l0 1) (w32 ((10 + (6 * l1)) + S.2)))))), S.2 + 1))))))
def f_X10_weightsFrom  (M : jM) (l0 l1 l2 : Int) : Option Int :=
  (iter (f_X10_weightsFrom_L5 M l0 l1) 5000 (1, l2)).bind (fun x5 => some x5)
def f_X10_lap_61  (M : jM) (l0 l1 l2 l3 l6 l8 s0 s1 : Int) : Option ((Int × Int × Int) ⊕ Int) :=
  some (.inl (s0 + s1, l6, l8 + 1))
def f_X10_lap_L9  (M : jM) (l0 l1 l2 l3 : Int) (S : Int × Int × Int) : Option ((Int × Int × Int) ⊕ Int) :=
  grd (0 ≤ w32 (58 + l3) ∧ w32 (58 + l3) < 952) ((if w32 (M (jpt l0 1) (w32 (58 + l3))) < w32 S.2.2 then some (.inr S.1) else (f_X10_endsWith M l0 l1 l2 l3 S.2.2).bind fun r3 => (if w32 r3 = 0 then f_X10_lap_61 M l0 l1 l2 l3 (S.2.1 * (w32 (M l0 12))) S.2.2 S.1 0 else (f_X10_weightsFrom M l0 l3 S.2.2).bind fun r5 => f_X10_lap_61 M l0 l1 l2 l3 (S.2.1 * (w32 (M l0 12))) S.2.2 S.1 ((S.2.1 * (w32 (M l0 12))) * r5))))
def f_X10_lap  (M : jM) (l0 l1 l2 l3 : Int) : Option Int :=
  (iter (f_X10_lap_L9 M l0 l1 l2 l3) 5000 (0, 1, 1)).bind (fun x6 => some x6)
def f_X10_lapOf  (M : jM) (l0 l1 l2 : Int) : Option Int :=
  grd (0 ≤ w32 (58 + l1) ∧ w32 (58 + l1) < 952) ((f_X10_lap M l0 (10 + (6 * l1)) (M (jpt l0 1) (w32 (58 + l1))) l2).bind fun r2 => some r2)
def f_X10_looksForOdds  (M : jM) (l0 l1 l2 : Int) : Option jM :=
  (f_X10_looksForWeights M l0).bind fun r1 => (f_X10_weightsFrom r1 l0 l1 0).bind fun r2 => (f_X10_weightsFrom r1 l0 l2 0).bind fun r3 => (f_X10_lapOf r1 l0 l2 l2).bind fun r4 => (f_X10_lapOf r1 l0 l2 l1).bind fun r5 => lt1 (sto r1 l0 13 ((r4 * r2) - (r5 * r3))) fun M6 => (f_X10_lapOf M6 l0 l1 l1).bind fun r7 => (f_X10_lapOf M6 l0 l1 l2).bind fun r8 => lt1 (sto M6 l0 14 ((r7 * r3) - (r8 * r2))) fun M9 => some M9
def f_X10_divisor_L17  (M : jM) (S : Int × Int) : Option ((Int × Int) ⊕ Int) :=
  (if w64 S.2 = 0 then some (.inr S.1) else grd (¬ w64 S.2 = 0) (some (.inl (S.2, ((w64 S.1).tmod (w64 S.2))))))
def f_X10_divisor_12  (M : jM) (l2 s0 : Int) : Option Int :=
  (iter (f_X10_divisor_L17 M ) 5000 (s0, l2)).bind (fun x4 => some x4)
def f_X10_divisor  (M : jM) (l0 l2 : Int) : Option Int :=
  (if 0 ≤ w64 l0 then f_X10_divisor_12 M l2 l0 else f_X10_divisor_12 M l2 (-l0))
def f_X10_lowest_10  (M : jM) (l0 l2 s0 : Int) : Option Int :=
  (f_X10_divisor M l0 l2).bind fun r2 => grd (¬ w64 r2 = 0) (some ((w64 s0).tdiv (w64 r2)))
def f_X10_lowest  (M : jM) (l0 l2 l4 : Int) : Option Int :=
  (if w32 l4 = 0 then f_X10_lowest_10 M l0 l2 l0 else f_X10_lowest_10 M l0 l2 l2)
def f_X10_canMeet  (M : jM) (l0 l1 l2 : Int) : Option Int :=
  (f_X10_isRow M l0 l1).bind fun r1 => (if w32 r1 = 0 then some 0 else (f_X10_isRow M l0 l2).bind fun r3 => (if w32 r3 = 0 then some 0 else (f_X10_isLawful M l0 l1).bind fun r5 => (if w32 r5 = 0 then some 0 else (f_X10_isLawful M l0 l2).bind fun r7 => (if w32 r7 = 0 then some 0 else (f_X10_areApart M l0 l1 l2).bind fun r9 => (if w32 r9 = 0 then some 0 else some 1)))))
def f_X10_waits  (M : jM) (l0 l1 l2 : Int) : Option (Int × jM) :=
  (f_X10_isRow M l0 l1).bind fun r1 => (if w32 r1 = 0 then some ((-9223372036854775808), M) else (f_X10_isLawful M l0 l1).bind fun r3 => (if w32 r3 = 0 then some ((-9223372036854775808), M) else (f_X10_in M l2 0 1).bind fun r5 => (if w32 r5 = 0 then some ((-9223372036854775808), M) else (f_X10_looksForWeights M l0).bind fun r7 => (f_X10_lapOf r7 l0 l1 l1).bind fun r8 => (f_X10_weightsFrom r7 l0 l1 0).bind fun r9 => (f_X10_lowest r7 r8 r9 l2).bind fun r10 => some (r10, r7))))
def f_X10_odds  (M : jM) (l0 l1 l2 l3 : Int) : Option (Int × jM) :=
  (f_X10_canMeet M l0 l1 l2).bind fun r1 => (if w32 r1 = 0 then some ((-9223372036854775808), M) else (f_X10_in M l3 0 1).bind fun r3 => (if w32 r3 = 0 then some ((-9223372036854775808), M) else (f_X10_looksForOdds M l0 l1 l2).bind fun r5 => (f_X10_lowest r5 (r5 l0 13) ((r5 l0 13) + (r5 l0 14)) l3).bind fun r6 => some (r6, r5)))
def f_X10_lastsAbove  (M : jM) (l0 l1 l2 : Int) : Option (Int × jM) :=
  (f_X10_looksForOdds M l0 l1 l2).bind fun r1 => (f_X10_divisor r1 (r1 l0 13) ((r1 l0 13) + (r1 l0 14))).bind fun r2 => grd (¬ w64 r2 = 0) (lt1 (sto r1 l0 13 ((w64 (r1 l0 13)).tdiv (w64 r2))) fun M4 => grd (¬ w64 r2 = 0) (lt1 (sto M4 l0 14 ((w64 (M4 l0 14)).tdiv (w64 r2))) fun M6 => (f_X10_lapOf M6 l0 l2 l1).bind fun r7 => (f_X10_lapOf M6 l0 l1 l1).bind fun r8 => some (((M6 l0 13) * (r8 - r7)) + (r7 * ((M6 l0 13) + (M6 l0 14))), M6)))
def f_X10_lasts  (M : jM) (l0 l1 l2 l3 : Int) : Option (Int × jM) :=
  (f_X10_canMeet M l0 l1 l2).bind fun r1 => (if w32 r1 = 0 then some ((-9223372036854775808), M) else (f_X10_in M l3 0 1).bind fun r3 => (if w32 r3 = 0 then some ((-9223372036854775808), M) else (f_X10_lastsAbove M l0 l1 l2).bind fun r5 => (f_X10_weightsFrom r5.2 l0 l1 0).bind fun r6 => (f_X10_lowest r5.2 r5.1 (((r5.2 l0 13) + (r5.2 l0 14)) * r6) l3).bind fun r7 => some (r7, r5.2)))
def f_X10_worth  (M : jM) (l0 l1 l2 l3 : Int) : Option (Int × jM) :=
  (f_X10_canMeet M l0 l1 l2).bind fun r1 => (if w32 r1 = 0 then some ((-9223372036854775808), M) else (f_X10_in M l3 0 1).bind fun r3 => (if w32 r3 = 0 then some ((-9223372036854775808), M) else (f_X10_lastsAbove M l0 l1 l2).bind fun r5 => (f_X10_weightsFrom r5.2 l0 l1 0).bind fun r6 => (f_X10_tellsOf r5.2 l0 242 10).bind fun r7 => (f_X10_tellsOf r5.2 l0 237 1).bind fun r8 => (f_X10_lowest r5.2 ((((w32 r7) * (r5.2 l0 13)) * r6) - ((w32 r8) * r5.1)) (((r5.2 l0 13) + (r5.2 l0 14)) * r6) l3).bind fun r9 => some (r9, r5.2)))
def f_X10_areSigns_39  (M : jM) (l0 l2 s0 : Int) : Option ((Int × Int) ⊕ Int) :=
  some (.inl (s0, l2 + 1))
def f_X10_areSigns_38  (M : jM) (l0 l2 : Int) : Option ((Int × Int) ⊕ Int) :=
  f_X10_areSigns_39 M l0 l2 0
def f_X10_areSigns_L4  (M : jM) (l0 : Int) (S : Int × Int) : Option ((Int × Int) ⊕ Int) :=
  (if w32 (M (jpt l0 1) 4) ≤ w32 S.2 then some (.inr S.1) else (if w32 S.1 = 0 then f_X10_areSigns_38 M l0 S.2 else grd (0 ≤ w32 (72 + S.2) ∧ w32 (72 + S.2) < 952) ((f_X10_signs M l0).bind fun r4 => (if w32 r4 ≤ w32 (M (jpt l0 1) (w32 (72 + S.2))) then f_X10_areSigns_38 M l0 S.2 else f_X10_areSigns_39 M l0 S.2 1))))
def f_X10_areSigns  (M : jM) (l0 : Int) : Option Int :=
  (iter (f_X10_areSigns_L4 M l0) 5000 (1, 0)).bind (fun x6 => grd (x6 = 0 ∨ x6 = 1) (some x6))
def f_X10_half  (M : jM) (l0 l1 l2 l3 : Int) : Option (Int × jM) :=
  (f_X10_canMeet M l0 l1 l2).bind fun r1 => (if w32 r1 = 0 then some ((-9223372036854775808), M) else (f_X10_in M l3 0 1).bind fun r3 => (if w32 r3 = 0 then some ((-9223372036854775808), M) else (f_X10_areSigns M l0).bind fun r5 => (if w32 r5 = 0 then some ((-9223372036854775808), M) else (f_X10_isWithin M l0 l1 72 (M (jpt l0 1) 4)).bind fun r7 => (if w32 r7 = 0 then (f_X10_isWithin M l0 l2 72 (M (jpt l0 1) 4)).bind fun r9 => (if w32 r9 = 0 then (f_X10_looksForOdds M l0 l1 l2).bind fun r11 => (f_X10_lap r11 l0 72 (r11 (jpt l0 1) 4) l2).bind fun r12 => (f_X10_weightsFrom r11 l0 l1 0).bind fun r13 => (f_X10_lap r11 l0 72 (r11 (jpt l0 1) 4) l1).bind fun r14 => (f_X10_weightsFrom r11 l0 l2 0).bind fun r15 => (f_X10_lowest r11 (((r11 l0 13) - (r12 * r13)) + (r14 * r15)) ((r11 l0 13) + (r11 l0 14)) l3).bind fun r16 => some (r16, r11) else some ((-9223372036854775808), M)) else some ((-9223372036854775808), M)))))
def f_X10_isLess_L14  (M : jM) (S : Int × Int × Int × Int) : Option ((Int × Int × Int × Int) ⊕ ((Int × Int × Int × Int) ⊕ Unit ⊕ Unit)) :=
  grd (¬ w64 S.2.1 = 0) (grd (¬ w64 S.2.2.2 = 0) ((if w64 ((w64 S.1).tdiv (w64 S.2.1)) = w64 ((w64 S.2.2.1).tdiv (w64 S.2.2.2)) then grd (¬ w64 S.2.1 = 0) (grd (¬ w64 S.2.2.2 = 0) ((if w64 ((w64 S.2.2.1).tmod (w64 S.2.2.2)) = 0 then some (.inr (.inr (.inl ()))) else (if w64 ((w64 S.1).tmod (w64 S.2.1)) = 0 then some (.inr (.inr (.inr ()))) else some (.inl (S.2.2.2, ((w64 S.2.2.1).tmod (w64 S.2.2.2)), S.2.1, ((w64 S.1).tmod (w64 S.2.1)))))))) else some (.inr (.inl (S.1, S.2.1, S.2.2.1, S.2.2.2))))))
def f_X10_isLess  (M : jM) (l0 l2 l4 l6 : Int) : Option Int :=
  (iter (f_X10_isLess_L14 M ) 5000 (l0, l2, l4, l6)).bind (Sum.elim (fun q9 => grd (¬ w64 q9.2.1 = 0) (grd (¬ w64 q9.2.2.2 = 0) ((if w64 ((w64 q9.2.2.1).tdiv (w64 q9.2.2.2)) ≤ w64 ((w64 q9.1).tdiv (w64 q9.2.1)) then some 0 else some 1)))) (Sum.elim (fun q13 => some 0) (fun q14 => some 1)))
def f_X10_copies_43  (M : jM) (l0 l1 l2 l3 l4 s0 s1 s2 : Int) : Option ((jM × Int) ⊕ jM) :=
  grd (0 ≤ w32 s1 ∧ w32 s1 < 952) (lt1 (sto M s0 (w32 s1) s2) fun M4 => some (.inl (M4, l4 + 1)))
def f_X10_copies_L3  (M : jM) (l0 l1 l2 l3 : Int) (S : jM × Int) : Option ((jM × Int) ⊕ jM) :=
  (if 6 ≤ w32 S.2 then some (.inr S.1) else (if w32 l2 ≤ w32 S.2 then f_X10_copies_43 S.1 l0 l1 l2 l3 S.2 (jpt l0 1) ((10 + (6 * l3)) + S.2) 0 else grd (0 ≤ w32 (l1 + S.2) ∧ w32 (l1 + S.2) < 952) (f_X10_copies_43 S.1 l0 l1 l2 l3 S.2 (jpt l0 1) ((10 + (6 * l3)) + S.2) (S.1 (jpt l0 1) (w32 (l1 + S.2))))))
def f_X10_copies  (M : jM) (l0 l1 l2 l3 : Int) : Option jM :=
  (iter (f_X10_copies_L3 M l0 l1 l2 l3) 5000 (M, 0)).bind (fun x6 => grd (0 ≤ w32 (58 + l3) ∧ w32 (58 + l3) < 952) (lt1 (sto x6 (jpt l0 1) (w32 (58 + l3)) l2) fun M8 => some M8))
def f_X10_rowsOf_L4  (M : jM) (l0 l1 : Int) (S : Int × Int) : Option ((Int × Int) ⊕ Int) :=
  (if w32 l1 ≤ w32 S.2 then some (.inr S.1) else (f_X10_signs M l0).bind fun r2 => some (.inl (S.1 * r2, S.2 + 1)))
def f_X10_rowsOf  (M : jM) (l0 l1 : Int) : Option Int :=
  (iter (f_X10_rowsOf_L4 M l0 l1) 5000 (1, 0)).bind (fun x3 => some x3)
def f_X10_comes_L15  (M : jM) (l0 : Int) (S : jM × Int × Int) : Option ((jM × Int × Int) ⊕ jM) :=
  (if w32 S.2.2 < 0 then some (.inr S.1) else (f_X10_signs S.1 l0).bind fun r3 => grd (¬ w32 r3 = 0) (grd (0 ≤ w32 (52 + S.2.2) ∧ w32 (52 + S.2.2) < 952) (lt1 (sto S.1 (jpt l0 1) (w32 (52 + S.2.2)) ((w32 S.2.1).tmod (w32 r3))) fun M6 => (f_X10_signs M6 l0).bind fun r7 => grd (¬ w32 r7 = 0) (some (.inl (M6, ((w32 S.2.1).tdiv (w32 r7)), S.2.2 + (-1)))))))
def f_X10_comes  (M : jM) (l0 l1 l2 : Int) : Option jM :=
  lt1 (sto M (jpt l0 1) 65 l2) fun M1 => (iter (f_X10_comes_L15 M1 l0) 5000 (M1, l1, l2 - 1)).bind (fun x9 => some x9)
def f_X10_picks  (M : jM) (l0 : Int) : Option jM :=
  (f_X10_copies M l0 52 (M (jpt l0 1) 65) 6).bind fun r1 => some r1
def f_X10_picksBest_95  (M : jM) (l0 l1 l2 l3 l4 l6 l8 : Int) : Option ((jM × Int × Int × Int × Int) ⊕ ((jM × Int))) :=
  some (.inl (M, l3, l4, l6, l8 + 1))
def f_X10_picksBest_72  (M : jM) (l0 l1 l2 l8 : Int) : Option ((jM × Int × Int × Int × Int) ⊕ ((jM × Int))) :=
  (f_X10_picks M l0).bind fun r8 => f_X10_picksBest_95 r8 l0 l1 l2 1 (M l0 13) ((M l0 13) + (M l0 14)) l8
def f_X10_picksBest_L11  (M : jM) (l0 l1 l2 : Int) (S : jM × Int × Int × Int × Int) : Option ((jM × Int × Int × Int × Int) ⊕ ((jM × Int))) :=
  (f_X10_rowsOf S.1 l0 l2).bind fun r1 => (if w32 r1 ≤ w32 S.2.2.2.2 then some (.inr (S.1, S.2.1)) else (f_X10_comes S.1 l0 S.2.2.2.2 l2).bind fun r3 => (f_X10_areApart r3 l0 7 l1).bind fun r4 => (if w32 r4 = 0 then f_X10_picksBest_95 r3 l0 l1 l2 S.2.1 S.2.2.1 S.2.2.2.1 S.2.2.2.2 else (f_X10_looksForOdds r3 l0 7 l1).bind fun r6 => (if w32 S.2.1 = 0 then f_X10_picksBest_72 r6 l0 l1 l2 S.2.2.2.2 else (f_X10_isLess r6 S.2.2.1 S.2.2.2.1 (r6 l0 13) ((r6 l0 13) + (r6 l0 14))).bind fun r9 => (if w32 r9 = 0 then f_X10_picksBest_95 r6 l0 l1 l2 S.2.1 S.2.2.1 S.2.2.2.1 S.2.2.2.2 else f_X10_picksBest_72 r6 l0 l1 l2 S.2.2.2.2))))
def f_X10_picksBest  (M : jM) (l0 l1 l2 : Int) : Option (Int × jM) :=
  (iter (f_X10_picksBest_L11 M l0 l1 l2) 5000 (M, 0, 0, 1, 0)).bind (fun x11 => grd (x11.2 = 0 ∨ x11.2 = 1) (some (x11.2, x11.1)))
def f_X10_picksByWait_165  (M : jM) (l0 l1 l2 l3 l4 l5 l7 l9 : Int) : Option ((jM × Int × Int × Int × Int) ⊕ ((jM × Int))) :=
  some (.inl (M, l4, l5, l7, l9 + 1))
def f_X10_picksByWait_150  (M : jM) (l0 l1 l2 l3 l9 l11 l13 : Int) : Option ((jM × Int × Int × Int × Int) ⊕ ((jM × Int))) :=
  (f_X10_picks M l0).bind fun r11 => f_X10_picksByWait_165 r11 l0 l1 l2 l3 1 l11 l13 l9
def f_X10_picksByWait_86  (M : jM) (l0 l1 l2 l3 l4 l5 l7 l9 l10 : Int) : Option ((jM × Int × Int × Int × Int) ⊕ ((jM × Int))) :=
  (f_X10_lapOf M l0 7 7).bind fun r7 => (f_X10_weightsFrom M l0 7 0).bind fun r8 => (if w32 l10 = 0 then f_X10_picksByWait_165 M l0 l1 l2 l3 l4 l5 l7 l9 else (if w32 l4 = 0 then f_X10_picksByWait_150 M l0 l1 l2 l3 l9 r7 r8 else (if w32 l2 = 0 then (f_X10_isLess M r7 r8 l5 l7).bind fun r13 => (if w32 r13 = 0 then f_X10_picksByWait_165 M l0 l1 l2 l3 l4 l5 l7 l9 else f_X10_picksByWait_150 M l0 l1 l2 l3 l9 r7 r8) else (f_X10_isLess M l5 l7 r7 r8).bind fun r15 => (if w32 r15 = 0 then f_X10_picksByWait_165 M l0 l1 l2 l3 l4 l5 l7 l9 else f_X10_picksByWait_150 M l0 l1 l2 l3 l9 r7 r8))))
def f_X10_picksByWait_84  (M : jM) (l0 l1 l2 l3 l4 l5 l7 l9 s0 : Int) : Option ((jM × Int × Int × Int × Int) ⊕ ((jM × Int))) :=
  f_X10_picksByWait_86 M l0 l1 l2 l3 l4 l5 l7 l9 s0
def f_X10_picksByWait_43  (M : jM) (l0 l1 l2 l3 l4 l5 l7 l9 s0 : Int) : Option ((jM × Int × Int × Int × Int) ⊕ ((jM × Int))) :=
  (if w32 s0 = 0 then (f_X10_areApart M l0 7 l3).bind fun r17 => (if w32 r17 = 0 then f_X10_picksByWait_86 M l0 l1 l2 l3 l4 l5 l7 l9 s0 else (f_X10_looksForOdds M l0 7 l3).bind fun r19 => (if w64 (r19 l0 13) < w64 (r19 l0 14) then f_X10_picksByWait_84 r19 l0 l1 l2 l3 l4 l5 l7 l9 0 else f_X10_picksByWait_84 r19 l0 l1 l2 l3 l4 l5 l7 l9 1)) else f_X10_picksByWait_86 M l0 l1 l2 l3 l4 l5 l7 l9 s0)
def f_X10_picksByWait_L16  (M : jM) (l0 l1 l2 l3 : Int) (S : jM × Int × Int × Int × Int) : Option ((jM × Int × Int × Int × Int) ⊕ ((jM × Int))) :=
  (f_X10_rowsOf S.1 l0 l1).bind fun r2 => (if w32 r2 ≤ w32 S.2.2.2.2 then some (.inr (S.1, S.2.1)) else (f_X10_comes S.1 l0 S.2.2.2.2 l1).bind fun r4 => (if w32 l3 = (-1) then f_X10_picksByWait_43 r4 l0 l1 l2 l3 S.2.1 S.2.2.1 S.2.2.2.1 S.2.2.2.2 1 else f_X10_picksByWait_43 r4 l0 l1 l2 l3 S.2.1 S.2.2.1 S.2.2.2.1 S.2.2.2.2 0))
def f_X10_picksByWait  (M : jM) (l0 l1 l2 l3 : Int) : Option (Int × jM) :=
  (f_X10_looksForWeights M l0).bind fun r1 => (iter (f_X10_picksByWait_L16 r1 l0 l1 l2 l3) 5000 (r1, 0, 0, 1, 0)).bind (fun x21 => grd (x21.2 = 0 ∨ x21.2 = 1) (some (x21.2, x21.1)))
def f_X10_picksNext  (M : jM) (l0 l1 : Int) : Option jM :=
  grd (0 ≤ w32 (58 + l1) ∧ w32 (58 + l1) < 952) ((f_X10_copies M l0 (10 + (6 * l1)) (M (jpt l0 1) (w32 (58 + l1))) 6).bind fun r2 => grd (0 ≤ w32 (58 + l1) ∧ w32 (58 + l1) < 952) (grd (0 ≤ w32 ((46 + (r2 (jpt l0 1) (w32 (58 + l1)))) - 1) ∧ w32 ((46 + (r2 (jpt l0 1) (w32 (58 + l1)))) - 1) < 952) ((f_X10_signs r2 l0).bind fun r5 => grd (¬ w32 r5 = 0) (grd (0 ≤ w32 ((46 + (r2 (jpt l0 1) (w32 (58 + l1)))) - 1) ∧ w32 ((46 + (r2 (jpt l0 1) (w32 (58 + l1)))) - 1) < 952) (lt1 (sto r2 (jpt l0 1) (w32 ((46 + (r2 (jpt l0 1) (w32 (58 + l1)))) - 1)) ((w32 ((r2 (jpt l0 1) (w32 ((46 + (r2 (jpt l0 1) (w32 (58 + l1)))) - 1))) + 1)).tmod (w32 r5))) fun M8 => some M8)))))
def f_X10_picksFor  (M : jM) (l0 l1 l2 : Int) : Option jM :=
  grd (0 ≤ w32 (100 + l1) ∧ w32 (100 + l1) < 952) (grd (¬ w32 4 = 0) (grd (0 ≤ w32 (96 + l1) ∧ w32 (96 + l1) < 952) ((if w32 (M (jpt l0 1) (w32 (96 + l1))) = 1 then (f_X10_picksByWait M l0 (((w32 (M (jpt l0 1) (w32 (100 + l1)))).tmod (w32 4)) + 1) 0 (-1)).bind fun r5 => some r5.2 else (if w32 (M (jpt l0 1) (w32 (96 + l1))) = 2 then (f_X10_picksByWait M l0 (((w32 (M (jpt l0 1) (w32 (100 + l1)))).tmod (w32 4)) + 1) 1 (-1)).bind fun r7 => some r7.2 else (if w32 (M (jpt l0 1) (w32 (96 + l1))) = 3 then (f_X10_picksNext M l0 l2).bind fun r9 => some r9 else (if w32 (M (jpt l0 1) (w32 (96 + l1))) = 4 then (f_X10_picksBest M l0 l2 (((w32 (M (jpt l0 1) (w32 (100 + l1)))).tmod (w32 4)) + 1)).bind fun r11 => (if w32 r11.1 = 0 then (f_X10_picksByWait r11.2 l0 (((w32 (M (jpt l0 1) (w32 (100 + l1)))).tmod (w32 4)) + 1) 0 (-1)).bind fun r13 => some r13.2 else some r11.2) else (if w32 (M (jpt l0 1) (w32 (96 + l1))) = 5 then (f_X10_picksByWait M l0 (((w32 (M (jpt l0 1) (w32 (100 + l1)))).tmod (w32 4)) + 1) 1 l2).bind fun r15 => (if w32 r15.1 = 0 then (f_X10_picksByWait r15.2 l0 (((w32 (M (jpt l0 1) (w32 (100 + l1)))).tmod (w32 4)) + 1) 1 (-1)).bind fun r17 => some r17.2 else some r15.2) else (if w32 (M (jpt l0 1) (w32 (96 + l1))) = 6 then grd (0 ≤ w32 (128 + l1) ∧ w32 (128 + l1) < 952) ((if w32 (M (jpt l0 1) (w32 (128 + l1))) ≤ 0 then (f_X10_picksNext M l0 l2).bind fun r21 => some r21 else grd (0 ≤ w32 (128 + l1) ∧ w32 (128 + l1) < 952) ((f_X10_copies M l0 (104 + (6 * l1)) (M (jpt l0 1) (w32 (128 + l1))) 6).bind fun r23 => some r23))) else (f_X10_comes M l0 0 (((w32 (M (jpt l0 1) (w32 (100 + l1)))).tmod (w32 4)) + 1)).bind fun r24 => (f_X10_picks r24 l0).bind fun r25 => some r25)))))))))
def f_X10_best_56  (M : jM) : Option (Int × jM) :=
  some ((-1), M)
def f_X10_best  (M : jM) (l0 l1 l2 l3 : Int) : Option (Int × jM) :=
  (f_X10_isRow M l0 l1).bind fun r1 => (if w32 r1 = 0 then some ((-1), M) else (f_X10_in M l3 0 3).bind fun r3 => (if w32 r3 = 0 then some ((-1), M) else (f_X10_in M l2 1 4).bind fun r5 => (if w32 r5 = 0 then some ((-2), M) else (f_X10_isLawful M l0 l1).bind fun r7 => (if w32 r7 = 0 then some ((-3), M) else (if w32 l2 ≤ w32 l3 then f_X10_best_56 M  else (f_X10_picksBest M l0 l1 l2).bind fun r10 => (if w32 r10.1 = 0 then f_X10_best_56 r10.2  else grd (0 ≤ w32 (46 + l3) ∧ w32 (46 + l3) < 952) (some (r10.2 (jpt l0 1) (w32 (46 + l3)), r10.2))))))))
def f_X10_isAheadOf  (M : jM) (l0 l1 l2 : Int) : Option (Int × jM) :=
  (f_X10_areApart M l0 l1 l2).bind fun r1 => (if w32 r1 = 0 then some (0, M) else (f_X10_looksForOdds M l0 l1 l2).bind fun r3 => (if w64 (r3 l0 13) ≤ w64 (r3 l0 14) then some (0, r3) else some (1, r3)))
def f_X10_ring  (M : jM) (l0 l1 l2 l3 : Int) : Option (Int × jM) :=
  (f_X10_isRow M l0 l1).bind fun r1 => (if w32 r1 = 0 then some ((-1), M) else (f_X10_isRow M l0 l2).bind fun r3 => (if w32 r3 = 0 then some ((-1), M) else (f_X10_isRow M l0 l3).bind fun r5 => (if w32 r5 = 0 then some ((-1), M) else (f_X10_isLawful M l0 l1).bind fun r7 => (if w32 r7 = 0 then some ((-3), M) else (f_X10_isLawful M l0 l2).bind fun r9 => (if w32 r9 = 0 then some ((-3), M) else (f_X10_isLawful M l0 l3).bind fun r11 => (if w32 r11 = 0 then some ((-3), M) else (f_X10_isAheadOf M l0 l1 l2).bind fun r13 => (if w32 r13.1 = 0 then some (0, r13.2) else (f_X10_isAheadOf r13.2 l0 l2 l3).bind fun r15 => (if w32 r15.1 = 0 then some (0, r15.2) else (f_X10_isAheadOf r15.2 l0 l3 l1).bind fun r17 => (if w32 r17.1 = 0 then some (0, r17.2) else some (1, r17.2))))))))))
def f_X10_pick  (M : jM) (l0 l1 l2 l3 : Int) : Option (Int × jM) :=
  (f_X10_isPlayer M l0 l1).bind fun r1 => (if w32 r1 = 0 then some ((-1), M) else (f_X10_isRow M l0 l2).bind fun r3 => (if w32 r3 = 0 then some ((-1), M) else (f_X10_in M l3 (-1) 5).bind fun r5 => (if w32 r5 = 0 then some ((-1), M) else (f_X10_isLawful M l0 l2).bind fun r7 => (if w32 r7 = 0 then some ((-3), M) else (f_X10_picksFor M l0 l1 l2).bind fun r9 => (if w32 l3 = (-1) then some (r9 (jpt l0 1) 64, r9) else (if w32 (r9 (jpt l0 1) 64) ≤ w32 l3 then some ((-1), r9) else grd (0 ≤ w32 (46 + l3) ∧ w32 (46 + l3) < 952) (some (r9 (jpt l0 1) (w32 (46 + l3)), r9))))))))
def f_X10_fair_141  (M : jM) (l0 l1 l2 l3 l4 l6 l8 : Int) : Option ((jM × Int × Int × Int × Int) ⊕ ((jM × Int))) :=
  some (.inl (M, l3, l4, l6, l8 + 1))
def f_X10_fair_123  (M : jM) (l0 l1 l2 l8 l9 : Int) : Option ((jM × Int × Int × Int × Int) ⊕ ((jM × Int))) :=
  f_X10_fair_141 M l0 l1 l2 l8 l9 ((M l0 13) + (M l0 14)) l8
def f_X10_fair_96  (M : jM) (l0 l1 l2 l3 l4 l6 l8 s0 : Int) : Option ((jM × Int × Int × Int × Int) ⊕ ((jM × Int))) :=
  (if w32 l3 = 0 then f_X10_fair_123 M l0 l1 l2 l8 s0 else (f_X10_isLess M s0 ((M l0 13) + (M l0 14)) l4 l6).bind fun r12 => (if w32 r12 = 0 then f_X10_fair_141 M l0 l1 l2 l3 l4 l6 l8 else f_X10_fair_123 M l0 l1 l2 l8 s0))
def f_X10_fair_L41  (M : jM) (l0 l1 l2 : Int) (S : jM × Int × Int × Int × Int) : Option ((jM × Int × Int × Int × Int) ⊕ ((jM × Int))) :=
  (if 10 ≤ w32 S.2.2.2.2 then some (.inr (S.1, S.2.1)) else lt1 (sto S.1 (jpt l0 1) 8 S.2.2.2.2) fun M8 => (f_X10_looksForOdds M8 l0 l1 l2).bind fun r9 => (if w64 (r9 l0 14) ≤ w64 (r9 l0 13) then f_X10_fair_96 r9 l0 l1 l2 S.2.1 S.2.2.1 S.2.2.2.1 S.2.2.2.2 ((r9 l0 13) - (r9 l0 14)) else f_X10_fair_96 r9 l0 l1 l2 S.2.1 S.2.2.1 S.2.2.2.1 S.2.2.2.2 ((r9 l0 14) - (r9 l0 13))))
def f_X10_fair  (M : jM) (l0 l1 l2 : Int) : Option (Int × jM) :=
  (f_X10_isRow M l0 l1).bind fun r1 => (if w32 r1 = 0 then some ((-1), M) else (f_X10_isRow M l0 l2).bind fun r3 => (if w32 r3 = 0 then some ((-1), M) else (f_X10_canMeet M l0 l1 l2).bind fun r5 => (if w32 r5 = 0 then some ((-3), M) else (iter (f_X10_fair_L41 M l0 l1 l2) 5000 (M, 0, 0, 1, 1)).bind (fun x14 => lt1 (sto x14.1 (jpt l0 1) 8 0) fun M15 => some (x14.2, M15)))))
def f_X10_threes_L4  (M : jM) (l0 : Int) (S : Int × Int) : Option ((Int × Int) ⊕ Int) :=
  (if w32 l0 ≤ w32 S.2 then some (.inr S.1) else some (.inl (S.1 * 3, S.2 + 1)))
def f_X10_threes  (M : jM) (l0 : Int) : Option Int :=
  (iter (f_X10_threes_L4 M l0) 5000 (1, 0)).bind (fun x2 => some x2)
def f_X10_doesEnd_L16  (M : jM) (l0 l1 l2 l3 : Int) (S : Int × Int) : Option ((Int × Int) ⊕ Int) :=
  (if w32 l3 ≤ w32 S.2 then some (.inr S.1) else grd (0 ≤ w32 ((10 + (6 * l2)) + S.2) ∧ w32 ((10 + (6 * l2)) + S.2) < 952) (some (.inl ((3 * S.1) + (M (jpt l0 1) (w32 ((10 + (6 * l2)) + S.2))), S.2 + 1))))
def f_X10_doesEnd  (M : jM) (l0 l1 l2 : Int) : Option Int :=
  grd (0 ≤ w32 (58 + l2) ∧ w32 (58 + l2) < 952) ((iter (f_X10_doesEnd_L16 M l0 l1 l2 (M (jpt l0 1) (w32 (58 + l2)))) 5000 (0, 0)).bind (fun x4 => (f_X10_threes M (M (jpt l0 1) (w32 (58 + l2)))).bind fun r5 => (if w32 l1 < w32 r5 then some 0 else (f_X10_threes M (M (jpt l0 1) (w32 (58 + l2)))).bind fun r7 => grd (¬ w32 r7 = 0) ((if w32 ((w32 l1).tmod (w32 r7)) = w32 x4 then some 1 else some 0)))))
def f_X10_firstEnd_31  (M : jM) (l0 l1 l2 : Int) : Option ((Int) ⊕ (Unit ⊕ Int)) :=
  some (.inl (l2 + 1))
def f_X10_firstEnd_L2  (M : jM) (l0 l1 : Int) (S : Int) : Option ((Int) ⊕ (Unit ⊕ Int)) :=
  (if w32 (M (jpt l0 1) 0) ≤ w32 S then some (.inr (.inl ())) else (f_X10_isLawful M l0 S).bind fun r2 => (if w32 r2 = 0 then f_X10_firstEnd_31 M l0 l1 S else (f_X10_doesEnd M l0 l1 S).bind fun r4 => (if w32 r4 = 0 then f_X10_firstEnd_31 M l0 l1 S else some (.inr (.inr S)))))
def f_X10_firstEnd  (M : jM) (l0 l1 : Int) : Option Int :=
  (iter (f_X10_firstEnd_L2 M l0 l1) 5000 0).bind (Sum.elim (fun q7 => some (-1)) (fun q8 => some q8))
def f_X10_looksForEnds_L2  (M : jM) (l0 : Int) (S : jM × Int) : Option ((jM × Int) ⊕ jM) :=
  (if 1458 ≤ w32 S.2 then some (.inr S.1) else (f_X10_firstEnd S.1 l0 S.2).bind fun r2 => grd (0 ≤ w32 S.2 ∧ w32 S.2 < 1458) (lt1 (sto S.1 (jpt l0 17) (w32 S.2) r2) fun M4 => some (.inl (M4, S.2 + 1))))
def f_X10_looksForEnds  (M : jM) (l0 : Int) : Option jM :=
  (iter (f_X10_looksForEnds_L2 M l0) 5000 (M, 1)).bind (fun x5 => some x5)
def f_X10_throwsOn_L5  (M : jM) (l0 l1 l2 l3 : Int) (S : jM × Int) : Option ((jM × Int) ⊕ jM) :=
  (if 486 ≤ w32 S.2 then some (.inr S.1) else grd (jkd (S.1 l0 16) = (12, 486)) (grd (0 ≤ w32 S.2 ∧ w32 S.2 < 486) (lt1 (sto S.1 (S.1 l0 16) (w32 S.2) 0) fun M4 => some (.inl (M4, S.2 + 1)))))
def f_X10_throwsOn_166  (M : jM) (l0 l1 l2 l3 l5 l6 : Int) : Option ((jM × Int × Int) ⊕ ((jM × Int))) :=
  some (.inl (M, l3, l6 + 1))
def f_X10_throwsOn_160  (M : jM) (l0 l1 l2 l3 l5 l6 l8 s0 s1 : Int) : Option ((jM × Int × Int) ⊕ ((jM × Int))) :=
  grd (0 ≤ w32 s1 ∧ w32 s1 < 486) (grd (0 ≤ w32 s1 ∧ w32 s1 < 486) (lt1 (sto M s0 (w32 s1) ((M s0 (w32 s1)) + l8)) fun M23 => f_X10_throwsOn_166 M23 l0 l1 l2 l3 l5 l6))
def f_X10_throwsOn_125  (M : jM) (l0 l1 l2 l5 l6 l7 l8 l10 s0 s1 : Int) : Option ((jM × Int × Int) ⊕ ((jM × Int))) :=
  (if w32 l10 = (-1) then grd (jkd (M l0 16) = (12, 486)) ((if 486 ≤ w32 l7 then grd (¬ w32 243 = 0) (f_X10_throwsOn_160 M l0 l1 l2 (s0 + s1) l5 l6 l8 (M l0 16) (243 + ((w32 l7).tmod (w32 243)))) else f_X10_throwsOn_160 M l0 l1 l2 (s0 + s1) l5 l6 l8 (M l0 16) l7)) else f_X10_throwsOn_166 M l0 l1 l2 (s0 + s1) l5 l6)
def f_X10_throwsOn_124  (M : jM) (l0 l1 l2 l5 l6 l7 l8 l10 s0 : Int) : Option ((jM × Int × Int) ⊕ ((jM × Int))) :=
  f_X10_throwsOn_125 M l0 l1 l2 l5 l6 l7 l8 l10 s0 0
def f_X10_throwsOn_93  (M : jM) (l0 l1 l2 l3 l5 l6 l7 s0 s1 : Int) : Option ((jM × Int × Int) ⊕ ((jM × Int))) :=
  grd (0 ≤ w32 l7 ∧ w32 l7 < 1458) ((if w32 (M (jpt l0 17) (w32 l7)) = (-1) then f_X10_throwsOn_124 M l0 l1 l2 l5 l6 l7 (s0 * (w32 s1)) (M (jpt l0 17) (w32 l7)) l3 else (if w32 (M (jpt l0 17) (w32 l7)) = w32 l1 then f_X10_throwsOn_125 M l0 l1 l2 l5 l6 l7 (s0 * (w32 s1)) (M (jpt l0 17) (w32 l7)) l3 (s0 * (w32 s1)) else f_X10_throwsOn_124 M l0 l1 l2 l5 l6 l7 (s0 * (w32 s1)) (M (jpt l0 17) (w32 l7)) l3)))
def f_X10_throwsOn_L41  (M : jM) (l0 l1 l2 l5 : Int) (S : jM × Int × Int) : Option ((jM × Int × Int) ⊕ ((jM × Int))) :=
  (f_X10_signs S.1 l0).bind fun r7 => (if w32 r7 ≤ w32 S.2.2 then some (.inr (S.1, S.2.1)) else grd (jkd (S.1 l0 15) = (12, 486)) (grd (0 ≤ w32 l5 ∧ w32 l5 < 486) ((if w64 (S.1 (S.1 l0 15) (w32 l5)) ≤ 0 then some (.inr (S.1, S.2.1)) else grd (jkd (S.1 l0 15) = (12, 486)) (grd (0 ≤ w32 l5 ∧ w32 l5 < 486) ((if w32 l2 = 0 then f_X10_throwsOn_93 S.1 l0 l1 l2 S.2.1 l5 S.2.2 ((3 * l5) + S.2.2) (S.1 (S.1 l0 15) (w32 l5)) 1 else grd (0 ≤ w32 S.2.2 ∧ w32 S.2.2 < 3) (f_X10_throwsOn_93 S.1 l0 l1 l2 S.2.1 l5 S.2.2 ((3 * l5) + S.2.2) (S.1 (S.1 l0 15) (w32 l5)) (S.1 (jpt l0 11) (w32 S.2.2))))))))))
def f_X10_throwsOn_L30  (M : jM) (l0 l1 l2 : Int) (S : jM × Int × Int) : Option ((jM × Int × Int) ⊕ ((jM × Int))) :=
  (if 486 ≤ w32 S.2.2 then some (.inr (S.1, S.2.1)) else (iter (f_X10_throwsOn_L41 S.1 l0 l1 l2 S.2.2) 5000 (S.1, S.2.1, 0)).bind (fun x26 => some (.inl (x26.1, x26.2, S.2.2 + 1))))
def f_X10_throwsOn  (M : jM) (l0 l1 l2 : Int) : Option (Int × jM) :=
  (iter (f_X10_throwsOn_L5 M l0 l1 l2 0) 5000 (M, 0)).bind (fun x5 => (iter (f_X10_throwsOn_L30 x5 l0 l1 l2) 5000 (x5, 0, 1)).bind (fun x27 => grd (jkd (x27.1 l0 15) = (12, 486)) (grd (jkd (x27.1 l0 16) = (12, 486)) (lt1 (sto x27.1 l0 15 (x27.1 l0 16)) fun M30 => lt1 (sto M30 l0 16 (x27.1 l0 15)) fun M31 => some (x27.2, M31)))))
def f_X10_beginsThrows_32  (M : jM) (l0 l1 s0 s1 s2 : Int) : Option ((jM × Int) ⊕ jM) :=
  grd (0 ≤ w32 s1 ∧ w32 s1 < 486) (lt1 (sto M s0 (w32 s1) s2) fun M7 => some (.inl (M7, l1 + 1)))
def f_X10_beginsThrows_L10  (M : jM) (l0 : Int) (S : jM × Int) : Option ((jM × Int) ⊕ jM) :=
  (if 486 ≤ w32 S.2 then some (.inr S.1) else grd (jkd (S.1 l0 15) = (12, 486)) ((if w32 S.2 = 1 then f_X10_beginsThrows_32 S.1 l0 S.2 (S.1 l0 15) S.2 1 else f_X10_beginsThrows_32 S.1 l0 S.2 (S.1 l0 15) S.2 0)))
def f_X10_beginsThrows  (M : jM) (l0 : Int) : Option jM :=
  (f_X10_looksForWeights M l0).bind fun r1 => (f_X10_looksForEnds r1 l0).bind fun r2 => (iter (f_X10_beginsThrows_L10 r2 l0) 5000 (r2, 0)).bind (fun x8 => some x8)
def f_X10_within_L52  (M : jM) (l0 l1 l2 l3 : Int) (S : jM × Int × Int × Int) : Option ((jM × Int × Int × Int) ⊕ ((jM × Int × Int))) :=
  (if w32 l2 ≤ w32 S.2.2.2 then some (.inr (S.1, S.2.1, S.2.2.1)) else (f_X10_throwsOn S.1 l0 l1 1).bind fun r11 => some (.inl (r11.2, (S.2.1 * (w32 (S.1 l0 12))) + r11.1, S.2.2.1 * (w32 (r11.2 l0 12)), S.2.2.2 + 1)))
def f_X10_within  (M : jM) (l0 l1 l2 l3 : Int) : Option (Int × jM) :=
  (f_X10_isRow M l0 l1).bind fun r1 => (if w32 r1 = 0 then some ((-9223372036854775808), M) else (f_X10_isLawful M l0 l1).bind fun r3 => (if w32 r3 = 0 then some ((-9223372036854775808), M) else (f_X10_in M l2 0 15).bind fun r5 => (if w32 r5 = 0 then some ((-9223372036854775808), M) else (f_X10_in M l3 0 1).bind fun r7 => (if w32 r7 = 0 then some ((-9223372036854775808), M) else (f_X10_beginsThrows M l0).bind fun r9 => (iter (f_X10_within_L52 r9 l0 l1 l2 l3) 5000 (r9, 0, 1, 0)).bind (fun x12 => (f_X10_lowest x12.1 x12.2.1 x12.2.2 l3).bind fun r13 => some (r13, x12.1))))))
def f_X10_often_L49  (M : jM) (l0 l1 l2 l3 : Int) (S : Int × Int) : Option ((Int × Int) ⊕ Int) :=
  grd (0 ≤ w32 (58 + l1) ∧ w32 (58 + l1) < 952) ((if w32 (M (jpt l0 1) (w32 (58 + l1))) ≤ w32 S.2 then some (.inr S.1) else some (.inl (S.1 * (w32 (M l0 12)), S.2 + 1))))
def f_X10_often_105  (M : jM) (l0 l1 l3 l4 s0 : Int) : Option (Int × jM) :=
  (f_X10_weightsFrom M l0 l1 0).bind fun r15 => (f_X10_lowest M ((w32 s0) * r15) l4 l3).bind fun r16 => some (r16, M)
def f_X10_often  (M : jM) (l0 l1 l2 l3 : Int) : Option (Int × jM) :=
  (f_X10_isRow M l0 l1).bind fun r1 => (if w32 r1 = 0 then some ((-9223372036854775808), M) else (f_X10_isLawful M l0 l1).bind fun r3 => (if w32 r3 = 0 then some ((-9223372036854775808), M) else (f_X10_in M l2 0 60).bind fun r5 => (if w32 r5 = 0 then some ((-9223372036854775808), M) else (f_X10_in M l3 0 1).bind fun r7 => (if w32 r7 = 0 then some ((-9223372036854775808), M) else (f_X10_looksForWeights M l0).bind fun r9 => (iter (f_X10_often_L49 r9 l0 l1 l2 l3) 5000 (1, 0)).bind (fun x12 => grd (0 ≤ w32 (58 + l1) ∧ w32 (58 + l1) < 952) ((if 0 ≤ w32 ((l2 - (r9 (jpt l0 1) (w32 (58 + l1)))) + 1) then f_X10_often_105 r9 l0 l1 l3 x12 ((l2 - (r9 (jpt l0 1) (w32 (58 + l1)))) + 1) else f_X10_often_105 r9 l0 l1 l3 x12 0)))))))
def f_X10_free_L20  (M : jM) (l0 l1 : Int) (S : jM × Int) : Option ((jM × Int) ⊕ jM) :=
  (if w32 l1 ≤ w32 S.2 then some (.inr S.1) else (f_X10_throwsOn S.1 l0 (-1) 0).bind fun r5 => some (.inl (r5.2, S.2 + 1)))
def f_X10_free_L43  (M : jM) (l0 : Int) (S : Int × Int) : Option ((Int × Int) ⊕ Int) :=
  (if 486 ≤ w32 S.2 then some (.inr S.1) else grd (jkd (M l0 15) = (12, 486)) (grd (0 ≤ w32 S.2 ∧ w32 S.2 < 486) (some (.inl (S.1 + (M (M l0 15) (w32 S.2)), S.2 + 1)))))
def f_X10_free  (M : jM) (l0 l1 : Int) : Option (Int × jM) :=
  (f_X10_in M l1 0 30).bind fun r1 => (if w32 r1 = 0 then some ((-9223372036854775808), M) else (f_X10_beginsThrows M l0).bind fun r3 => (iter (f_X10_free_L20 r3 l0 l1) 5000 (r3, 0)).bind (fun x6 => (iter (f_X10_free_L43 x6 l0) 5000 (0, 0)).bind (fun x10 => some (x10, x6))))
def f_X10_toss  (M : jM) (l0 l1 : Int) : Option (Int × jM) :=
  (if w32 l1 = (-1) then lt1 (sto M (jpt l0 1) 4 0) fun M8 => some (0, M8) else (f_X10_in M l1 0 2).bind fun r2 => (if w32 r2 = 0 then some ((-2), M) else (if w32 (M (jpt l0 1) 4) = 24 then some ((-4), M) else grd (0 ≤ w32 (72 + (M (jpt l0 1) 4)) ∧ w32 (72 + (M (jpt l0 1) 4)) < 952) (lt1 (sto M (jpt l0 1) (w32 (72 + (M (jpt l0 1) 4))) l1) fun M6 => lt1 (sto M6 (jpt l0 1) 4 ((M6 (jpt l0 1) 4) + 1)) fun M7 => some (M7 (jpt l0 1) 4, M7)))))
def f_X10_cameBehind_L2  (M : jM) (l0 l1 : Int) (S : Int) : Option ((Int) ⊕ (Unit ⊕ Int)) :=
  (if w32 (M (jpt l0 1) 4) < w32 S then some (.inr (.inl ())) else grd (0 ≤ w32 (58 + l1) ∧ w32 (58 + l1) < 952) ((f_X10_endsWith M l0 72 S l1 (M (jpt l0 1) (w32 (58 + l1)))).bind fun r3 => (if w32 r3 = 0 then some (.inl (S + 1)) else some (.inr (.inr S)))))
def f_X10_cameBehind  (M : jM) (l0 l1 : Int) : Option Int :=
  (iter (f_X10_cameBehind_L2 M l0 l1) 5000 1).bind (Sum.elim (fun q6 => some (-5)) (fun q7 => some q7))
def f_X10_came  (M : jM) (l0 l1 : Int) : Option Int :=
  (f_X10_isRow M l0 l1).bind fun r1 => (if w32 r1 = 0 then some (-1) else (f_X10_cameBehind M l0 l1).bind fun r3 => some r3)
def f_X10_ends_50  (M : jM) (l0 l1 l3 s0 s1 : Int) : Option ((Int × Int) ⊕ Int) :=
  some (.inl (s0 + s1, l3 + 1))
def f_X10_ends_L14  (M : jM) (l0 l1 : Int) (S : Int × Int) : Option ((Int × Int) ⊕ Int) :=
  (if w32 (M (jpt l0 1) 4) < w32 S.2 then some (.inr S.1) else grd (0 ≤ w32 (58 + l1) ∧ w32 (58 + l1) < 952) ((f_X10_endsWith M l0 72 S.2 l1 (M (jpt l0 1) (w32 (58 + l1)))).bind fun r5 => (if w32 r5 = 0 then f_X10_ends_50 M l0 l1 S.2 S.1 0 else f_X10_ends_50 M l0 l1 S.2 S.1 1)))
def f_X10_ends  (M : jM) (l0 l1 : Int) : Option Int :=
  (f_X10_isRow M l0 l1).bind fun r1 => (if w32 r1 = 0 then some (-1) else (iter (f_X10_ends_L14 M l0 l1) 5000 (0, 1)).bind (fun x7 => some x7))
def f_X10_ahead_48  (M : jM) (l0 l2 s0 : Int) : Option ((Int × Int) ⊕ Int) :=
  some (.inl (s0, l2 + (-1)))
def f_X10_ahead_47  (M : jM) (l0 l1 l2 : Int) : Option ((Int × Int) ⊕ Int) :=
  f_X10_ahead_48 M l0 l2 l1
def f_X10_ahead_43  (M : jM) (l0 l2 : Int) : Option ((Int × Int) ⊕ Int) :=
  f_X10_ahead_48 M l0 l2 l2
def f_X10_ahead_L12  (M : jM) (l0 : Int) (S : Int × Int) : Option ((Int × Int) ⊕ Int) :=
  (if w32 S.2 < 0 then some (.inr S.1) else (f_X10_cameBehind M l0 S.2).bind fun r2 => (if w32 r2 = (-5) then f_X10_ahead_47 M l0 S.1 S.2 else (if w32 S.1 = (-5) then f_X10_ahead_43 M l0 S.2 else (f_X10_cameBehind M l0 S.1).bind fun r5 => (if w32 r5 < w32 r2 then f_X10_ahead_47 M l0 S.1 S.2 else f_X10_ahead_43 M l0 S.2))))
def f_X10_ahead  (M : jM) (l0 : Int) : Option Int :=
  (iter (f_X10_ahead_L12 M l0) 5000 ((-5), (M (jpt l0 1) 0) - 1)).bind (fun x7 => some x7)
def f_X10_ranBody_19  (M : jM) (l0 : Int) : Option jM :=
  lt1 (sto M l0 19 ((M l0 19) + 1)) fun M2 => some M2
def f_X10_ranBody  (M : jM) (l0 l1 : Int) : Option jM :=
  (if 20 ≤ w32 (M l0 19) then f_X10_ranBody_19 M l0 else grd (0 ≤ w32 (M l0 19) ∧ w32 (M l0 19) < 20) (lt1 (sto M (jpt l0 18) (w32 (M l0 19)) l1) fun M4 => f_X10_ranBody_19 M4 l0))
def f_X10_isUnder_25  (M : jM) : Option Int :=
  some 1
def f_X10_isUnder  (M : jM) (l0 l1 : Int) : Option Int :=
  (if w32 l1 = 0 then f_X10_isUnder_25 M  else (if w32 l1 = w32 l0 then f_X10_isUnder_25 M  else (if w32 l1 ≤ 0 then some 0 else (if 4 ≤ w32 l1 then some 0 else (if w32 l0 = w32 (l1 + 3) then f_X10_isUnder_25 M  else some 0)))))
def f_X10_plainPicks  (M : jM) (l0 l1 : Int) : Option (Int × jM) :=
  (f_X10_ranBody M l0 1).bind fun r1 => some (l1 + (r1 l0 21), r1)
def f_X10_picksActs  (M : jM) (l0 l1 : Int) : Option (Int × jM) :=
  (f_X10_isUnder M (M l0 20) 1).bind fun r1 => (if w32 r1 = 0 then (if w32 (M l0 20) = 5 then (f_X10_ranBody M l0 51).bind fun r5 => (f_X10_plainPicks r5 l0 l1).bind fun r6 => some (ixor r6.1 (r6.2 l0 21), r6.2) else (f_X10_plainPicks M l0 l1).bind fun r4 => some (r4.1, r4.2)) else (f_X10_ranBody M l0 11).bind fun r7 => (f_X10_plainPicks r7 l0 (l1 * 3)).bind fun r8 => some (r8.1, r8.2))
def f_X10_plainPays  (M : jM) (l0 l1 : Int) : Option (Int × jM) :=
  (f_X10_ranBody M l0 2).bind fun r1 => (f_X10_picksActs r1 l0 l1).bind fun r2 => some (r2.1 - (r2.2 l0 22), r2.2)
def f_X10_paysActs  (M : jM) (l0 l1 : Int) : Option (Int × jM) :=
  (f_X10_isUnder M (M l0 20) 2).bind fun r1 => (if w32 r1 = 0 then (if w32 (M l0 20) = 6 then (f_X10_ranBody M l0 61).bind fun r5 => (f_X10_plainPays r5 l0 l1).bind fun r6 => some (r6.1 + (r6.2 l0 22), r6.2) else (f_X10_plainPays M l0 l1).bind fun r4 => some (r4.1, r4.2)) else (f_X10_ranBody M l0 21).bind fun r7 => (f_X10_plainPays r7 l0 l1).bind fun r8 => some ((-r8.1), r8.2))
def f_X10_plainTells  (M : jM) (l0 l1 : Int) : Option (Int × jM) :=
  (f_X10_ranBody M l0 3).bind fun r1 => (f_X10_paysActs r1 l0 l1).bind fun r2 => some (r2.1 * 2, r2.2)
def f_X10_tellsActs  (M : jM) (l0 l1 : Int) : Option (Int × jM) :=
  (f_X10_isUnder M (M l0 20) 3).bind fun r1 => (if w32 r1 = 0 then (if w32 (M l0 20) = 4 then (f_X10_ranBody M l0 41).bind fun r5 => (f_X10_plainTells r5 l0 (l1 - 1)).bind fun r6 => (f_X10_picksActs r6.2 l0 2).bind fun r7 => some (r6.1 + r7.1, r7.2) else (f_X10_plainTells M l0 l1).bind fun r4 => some (r4.1, r4.2)) else (f_X10_ranBody M l0 31).bind fun r8 => (f_X10_plainTells r8 l0 l1).bind fun r9 => some (ixor r9.1 7, r9.2))
def f_X10_act  (M : jM) (l0 l1 l2 l3 : Int) : Option (Int × jM) :=
  lt1 (sto M l0 19 0) fun M1 => (f_X10_isPlayer M1 l0 l1).bind fun r2 => (if w32 r2 = 0 then some (0, M1) else (f_X10_in M1 l2 0 2).bind fun r4 => (if w32 r4 = 0 then some (0, M1) else grd (0 ≤ w32 (96 + l1) ∧ w32 (96 + l1) < 952) (lt1 (sto M1 l0 20 (M1 (jpt l0 1) (w32 (96 + l1)))) fun M7 => lt1 (sto M7 l0 21 l1) fun M8 => grd (0 ≤ w32 (100 + l1) ∧ w32 (100 + l1) < 952) (lt1 (sto M8 l0 22 (M8 (jpt l0 1) (w32 (100 + l1)))) fun M10 => (if w32 l2 = 0 then (f_X10_picksActs M10 l0 l3).bind fun r15 => some (r15.1, r15.2) else (if w32 l2 = 1 then (f_X10_paysActs M10 l0 l3).bind fun r14 => some (r14.1, r14.2) else (f_X10_tellsActs M10 l0 l3).bind fun r13 => some (r13.1, r13.2)))))))
def f_X10_trace_20  (M : jM) (l0 l1 s0 s1 s2 : Int) : Option Int :=
  (f_X10_in M s0 s1 (s2 - 1)).bind fun r2 => (if w32 r2 = 0 then some (-1) else grd (0 ≤ w32 l1 ∧ w32 l1 < 20) (some (M (jpt l0 18) (w32 l1))))
def f_X10_trace  (M : jM) (l0 l1 : Int) : Option Int :=
  (if 20 ≤ w32 (M l0 19) then f_X10_trace_20 M l0 l1 l1 0 20 else f_X10_trace_20 M l0 l1 l1 0 (M l0 19))
def f_X10_as  (M : jM) (l0 l1 l2 : Int) : Option Int :=
  (f_X10_isPlayer M l0 l1).bind fun r1 => (if w32 r1 = 0 then some (-1) else (f_X10_in M l2 0 6).bind fun r3 => (if w32 r3 = 0 then some (-1) else grd (0 ≤ w32 (96 + l1) ∧ w32 (96 + l1) < 952) ((f_X10_isUnder M (M (jpt l0 1) (w32 (96 + l1))) l2).bind fun r6 => (if w32 r6 = 0 then some (-6) else grd (0 ≤ w32 (100 + l1) ∧ w32 (100 + l1) < 952) (some (M (jpt l0 1) (w32 (100 + l1))))))))
def f_X10_image_L2  (M : jM) (l0 : Int) (S : jM × Int) : Option ((jM × Int) ⊕ jM) :=
  (if 952 ≤ w32 S.2 then some (.inr S.1) else grd (0 ≤ w32 S.2 ∧ w32 S.2 < 952) (grd (0 ≤ w32 S.2 ∧ w32 S.2 < 952) (lt1 (sto S.1 (jpt l0 2) (w32 S.2) (S.1 (jpt l0 1) (w32 S.2))) fun M4 => some (.inl (M4, S.2 + 1)))))
def f_X10_image  (M : jM) (l0 : Int) : Option (Int × jM) :=
  (iter (f_X10_image_L2 M l0) 5000 (M, 0)).bind (fun x5 => lt1 (sto x5 l0 3 1) fun M6 => some (M6 (jpt l0 1) 0, M6))
def f_X10_undo_L12  (M : jM) (l0 : Int) (S : jM × Int) : Option ((jM × Int) ⊕ jM) :=
  (if 952 ≤ w32 S.2 then some (.inr S.1) else grd (0 ≤ w32 S.2 ∧ w32 S.2 < 952) (grd (0 ≤ w32 S.2 ∧ w32 S.2 < 952) (lt1 (sto S.1 (jpt l0 1) (w32 S.2) (S.1 (jpt l0 2) (w32 S.2))) fun M5 => some (.inl (M5, S.2 + 1)))))
def f_X10_undo  (M : jM) (l0 : Int) : Option (Int × jM) :=
  (if w32 (M l0 3) = 0 then some ((-3), M) else (iter (f_X10_undo_L12 M l0) 5000 (M, 0)).bind (fun x6 => some (x6 (jpt l0 1) 0, x6)))
def f_X10_count  (M : jM) (l0 l1 : Int) : Option Int :=
  (if w32 l1 = 0 then some (M (jpt l0 1) 0) else (if w32 l1 = 1 then some (M (jpt l0 1) 1) else (if w32 l1 = 2 then some (M (jpt l0 1) 2) else (if w32 l1 = 3 then some (M (jpt l0 1) 3) else (if w32 l1 = 4 then some (M (jpt l0 1) 4) else (if w32 l1 = 5 then some (M (jpt l0 1) 5) else (if w32 l1 = 6 then some (M l0 19) else some (-1))))))))
