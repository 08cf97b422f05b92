/-! the reference's methods as functions (by program out of the bytecode) -/
noncomputable section
def p_M_in (f : Nat) (l0 : Int) (l1 : Int) (l2 : Int) (M : oM) : Option (Int × oM) :=
  if l0 < l1 then (some (0, M))
  else (if l2 < l0 then (some (0, M))
  else (some (1, M)))
def p_M_person (f : Nat) (l1 : Int) (l2 : Int) (l3 : Int) (M : oM) : Option (Int × oM) :=
  (p_M_in f l1 0 9 M).bind fun q1 =>
  if q1.1 = 0 then (some (0, q1.2))
  else ((p_M_in f l2 0 9 q1.2).bind fun q2 =>
  if q2.1 = 0 then (some (0, q2.2))
  else ((p_M_in f l3 0 9 q2.2).bind fun q3 =>
  if q3.1 = 0 then (some (0, q3.2))
  else (lt (oU q3.2 57 5 (ior (q3.2 57 5) (ishl 1 l1))) fun M4 =>
  bnd 10 l1 fun i5 =>
  lt (oU M4 61 i5 l2) fun M6 =>
  bnd 10 l1 fun i7 =>
  lt (oU M6 62 i7 l3) fun M8 =>
  some (1, M8))))
def p_M_has (f : Nat) (l0 : Int) (l1 : Int) (M : oM) : Option (Int × oM) :=
  if iand (ishr l0 l1) 1 = 1 then (some (1, M))
  else (some (0, M))
def p_M_isPerson (f : Nat) (l1 : Int) (M : oM) : Option (Int × oM) :=
  (p_M_in f l1 0 9 M).bind fun q1 =>
  if q1.1 = 0 then (some (0, q1.2))
  else ((p_M_has f (q1.2 57 5) l1 q1.2).bind fun q2 =>
  if q2.1 = 0 then (some (0, q2.2))
  else (some (1, q2.2)))
def p_M_areTwo (f : Nat) (l1 : Int) (l2 : Int) (M : oM) : Option (Int × oM) :=
  (p_M_isPerson f l1 M).bind fun q1 =>
  if q1.1 = 0 then (some (0, q1.2))
  else ((p_M_isPerson f l2 q1.2).bind fun q2 =>
  if q2.1 = 0 then (some (0, q2.2))
  else (if l1 = l2 then (some (0, q2.2))
  else (some (1, q2.2))))
def p_M_debt (f : Nat) (l1 : Int) (l2 : Int) (l3 : Int) (M : oM) : Option (Int × oM) :=
  (p_M_areTwo f l1 l2 M).bind fun q1 =>
  if q1.1 = 0 then (some (0, q1.2))
  else ((p_M_in f l3 0 99 q1.2).bind fun q2 =>
  if q2.1 = 0 then (some (0, q2.2))
  else (bnd 159 (w32 ((w32 (0 + (w32 (10 * l1)))) + l2)) fun i3 =>
  lt (oU q2.2 58 i3 l3) fun M4 =>
  some (1, M4)))
def p_M_rests (f : Nat) (l1 : Int) (M : oM) : Option (Int × oM) :=
  bnd 159 151 fun i1 =>
  lt (oU M 58 i1 l1) fun M2 =>
  bnd 159 153 fun i3 =>
  lt (oU M2 58 i3 (-2)) fun M4 =>
  bnd 159 154 fun i5 =>
  lt (oU M4 58 i5 0) fun M6 =>
  some (0, M6)
def p_M_coin (f : Nat) (l1 : Int) (M : oM) : Option (Int × oM) :=
  (p_M_isPerson f l1 M).bind fun q1 =>
  if q1.1 = 0 then (some (0, q1.2))
  else ((p_M_rests f l1 q1.2).bind fun q2 =>
  some (1, q2.2))
def p_M_types_L2 (f : Nat) (l1 : Int) : Int × oM → Option ((Int × oM) ⊕ (Int × oM))
  | (l2, M) =>
  if l2 < 0 then (some (.inr (0, M)))
  else (bnd 260 (M 57 7) fun i1 =>
  lt (oU M 63 i1 (i2b (i2b (ishr l1 (w32 (8 * l2)))))) fun M2 =>
  lt (oU M2 57 7 (w32 ((M2 57 7) + 1))) fun M3 =>
  lt (w32 (l2 + (-1))) fun x4 =>
  some (.inl (x4, M3)))
def p_M_types (f : Nat) (l1 : Int) (M : oM) : Option (Int × oM) :=
  iter (p_M_types_L2 f l1) f (3, M)
def p_M_feed (f : Nat) (l1 : Int) (l2 : Int) (l3 : Int) (l4 : Int) (l5 : Int) (M : oM) : Option (Int × oM) :=
  if 260 < w32 ((M 57 7) + 20) then (some ((-1), M))
  else ((p_M_types f l1 M).bind fun q1 =>
  (p_M_types f l2 q1.2).bind fun q2 =>
  (p_M_types f l3 q2.2).bind fun q3 =>
  (p_M_types f l4 q3.2).bind fun q4 =>
  (p_M_types f l5 q4.2).bind fun q5 =>
  some (q5.2 57 7, q5.2))
def p_M_here (f : Nat) (M : oM) : Option (Int × oM) :=
  if M 57 8 < M 57 9 then (bnd 260 (M 57 8) fun i1 =>
  some (iand (M 63 i1) 255, M))
  else (some ((-1), M))
def p_M_notes (f : Nat) (l1 : Int) (l2 : Int) (M : oM) : Option (Int × oM) :=
  bnd 260 (M 57 13) fun i1 =>
  lt (oU M 64 i1 (w32 ((w32 (1048576 * l1)) + l2))) fun M2 =>
  lt (oU M2 57 13 (w32 ((M2 57 13) + 1))) fun M3 =>
  some (0, M3)
def p_M_waitTop (f : Nat) (M : oM) : Option (Int × oM) :=
  if M 57 14 = 0 then (some ((-1), M))
  else (bnd 260 (w32 ((M 57 14) - 1)) fun i1 =>
  nz 1048576 fun z2 =>
  some (w32 (Int.tdiv (M 65 i1) z2), M))
def p_M_endsPiece_L0 (f : Nat) : oM → Option ((oM) ⊕ (Int × oM))
  | M =>
  (p_M_waitTop f  M).bind fun q1 =>
  if q1.1 = 10 then ((p_M_notes f 10 0 q1.2).bind fun q2 =>
  lt (oU q2.2 57 14 (w32 ((q2.2 57 14) - 1))) fun M3 =>
  lt (oU M3 57 12 (w32 ((M3 57 12) - 1))) fun M4 =>
  some (.inl M4))
  else (some (.inr (0, q1.2)))
def p_M_endsPiece (f : Nat) (M : oM) : Option (Int × oM) :=
  iter (p_M_endsPiece_L0 f) f M
def p_M_jumps (f : Nat) (l1 : Int) (M : oM) : Option (Int × oM) :=
  bnd 260 (M 57 14) fun i1 =>
  lt (oU M 65 i1 (w32 ((w32 (1048576 * l1)) + (M 57 13)))) fun M2 =>
  lt (oU M2 57 14 (w32 ((M2 57 14) + 1))) fun M3 =>
  (p_M_notes f l1 0 M3).bind fun q4 =>
  lt (oU q4.2 57 8 (w32 ((q4.2 57 8) + 1))) fun M5 =>
  some (0, M5)
def p_M_lands_B22_0 (f : Nat) (l1 : Int) (M : oM) : Option ((oM) ⊕ (Int × oM)) :=
  bnd 260 (w32 ((M 57 14) - 1)) fun i1 =>
  nz 1048576 fun z2 =>
  lt (Int.tmod (M 65 i1) z2) fun x3 =>
  bnd 260 x3 fun i4 =>
  nz 1048576 fun z5 =>
  bnd 260 x3 fun i6 =>
  lt (oU M 64 i6 (w32 ((w32 (1048576 * (w32 (Int.tdiv (M 64 i4) z5)))) + (M 57 13)))) fun M7 =>
  lt (oU M7 57 14 (w32 ((M7 57 14) - 1))) fun M8 =>
  some (.inl M8)
def p_M_lands_L0 (f : Nat) (l1 : Int) : oM → Option ((oM) ⊕ (Int × oM))
  | M =>
  (p_M_waitTop f  M).bind fun q9 =>
  if q9.1 = 11 then (p_M_lands_B22_0 f l1 q9.2)
  else (if l1 = 0 then (some (.inr (0, q9.2)))
  else ((p_M_waitTop f  q9.2).bind fun q10 =>
  if q10.1 = 12 then (p_M_lands_B22_0 f l1 q10.2)
  else (some (.inr (0, q10.2)))))
def p_M_lands (f : Nat) (l1 : Int) (M : oM) : Option (Int × oM) :=
  iter (p_M_lands_L0 f l1) f M
def p_M_wrongAt (f : Nat) (l1 : Int) (l2 : Int) (M : oM) : Option (Int × oM) :=
  lt (oU M 57 10 (w32 ((w32 ((-1000) * l1)) - l2))) fun M1 =>
  some (0, M1)
def p_M_opens (f : Nat) (l1 : Int) (M : oM) : Option (Int × oM) :=
  if M 57 12 = 6 then ((p_M_wrongAt f 5 (M 57 8) M).bind fun q6 =>
  bnd 2 q6.1 fun b7 => some (b7, q6.2))
  else (lt (oU M 57 12 (w32 ((M 57 12) + 1))) fun M1 =>
  bnd 260 (M1 57 14) fun i2 =>
  lt (oU M1 65 i2 (w32 (1048576 * l1))) fun M3 =>
  lt (oU M3 57 14 (w32 ((M3 57 14) + 1))) fun M4 =>
  lt (oU M4 57 8 (w32 ((M4 57 8) + 1))) fun M5 =>
  some (1, M5))
def p_M_closesSums_B37_0 (f : Nat) (l1 : Int) (M : oM) : Option ((oM) ⊕ (Int × oM)) :=
  (p_M_waitTop f  M).bind fun q1 =>
  (p_M_notes f q1.1 0 q1.2).bind fun q2 =>
  lt (oU q2.2 57 14 (w32 ((q2.2 57 14) - 1))) fun M3 =>
  some (.inl M3)
def p_M_closesSums_B17_0 (f : Nat) (l1 : Int) (M : oM) : Option ((oM) ⊕ (Int × oM)) :=
  if l1 = 0 then (some (.inr (0, M)))
  else ((p_M_waitTop f  M).bind fun q4 =>
  if q4.1 = 2 then (p_M_closesSums_B37_0 f l1 q4.2)
  else ((p_M_waitTop f  q4.2).bind fun q5 =>
  if q5.1 = 3 then (p_M_closesSums_B37_0 f l1 q5.2)
  else (some (.inr (0, q5.2)))))
def p_M_closesSums_L0 (f : Nat) (l1 : Int) : oM → Option ((oM) ⊕ (Int × oM))
  | M =>
  (p_M_waitTop f  M).bind fun q6 =>
  if q6.1 < 4 then (p_M_closesSums_B17_0 f l1 q6.2)
  else ((p_M_waitTop f  q6.2).bind fun q7 =>
  if 6 < q7.1 then (p_M_closesSums_B17_0 f l1 q7.2)
  else (p_M_closesSums_B37_0 f l1 q7.2))
def p_M_closesSums (f : Nat) (l1 : Int) (M : oM) : Option (Int × oM) :=
  iter (p_M_closesSums_L0 f l1) f M
def p_M_hasOpenSum_L2 (f : Nat) : Int × oM → Option ((Int × oM) ⊕ (Int × oM))
  | (l2, M) =>
  if l2 < M 57 14 then (bnd 260 l2 fun i1 =>
  nz 1048576 fun z2 =>
  if w32 (Int.tdiv (M 65 i1) z2) = 14 then (some (.inr (1, M)))
  else (lt (w32 (l2 + 1)) fun x3 =>
  some (.inl (x3, M))))
  else (some (.inr (0, M)))
def p_M_hasOpenSum (f : Nat) (l1 : Int) (M : oM) : Option (Int × oM) :=
  iter (p_M_hasOpenSum_L2 f) f (l1, M)
def p_M_factOf (f : Nat) (l0 : Int) (M : oM) : Option (Int × oM) :=
  if l0 = 99 then (some (1, M))
  else (if l0 = 100 then (some ((-1), M))
  else (if l0 = 101 then (some ((-1), M))
  else (if l0 = 102 then (some ((-1), M))
  else (if l0 = 103 then (some (5, M))
  else (if l0 = 104 then (some (0, M))
  else (if l0 = 105 then (some ((-1), M))
  else (if l0 = 106 then (some ((-1), M))
  else (if l0 = 107 then (some ((-1), M))
  else (if l0 = 108 then (some ((-1), M))
  else (if l0 = 109 then (some ((-1), M))
  else (if l0 = 110 then (some (2, M))
  else (if l0 = 111 then (some (3, M))
  else (if l0 = 112 then (some ((-1), M))
  else (if l0 = 113 then (some ((-1), M))
  else (if l0 = 114 then (some ((-1), M))
  else (if l0 = 115 then (some ((-1), M))
  else (if l0 = 116 then (some (6, M))
  else (if l0 = 117 then (some ((-1), M))
  else (if l0 = 118 then (some ((-1), M))
  else (if l0 = 119 then (some (4, M))
  else (if l0 = 120 then (some ((-1), M))
  else (if l0 = 121 then (some (7, M))
  else (some ((-1), M))))))))))))))))))))))))
def p_M_isDigit (f : Nat) (M : oM) : Option (Int × oM) :=
  (p_M_here f  M).bind fun q1 =>
  if q1.1 < 48 then (some (0, q1.2))
  else ((p_M_here f  q1.2).bind fun q2 =>
  if 57 < q2.1 then (some (0, q2.2))
  else (some (1, q2.2)))
def p_M_readsNumber_L10 (f : Nat) (l1 : Int) : oM → Option ((oM) ⊕ (Int × oM))
  | M =>
  (p_M_isDigit f  M).bind fun q1 =>
  if q1.1 = 0 then (some (.inr (1, q1.2)))
  else (if q1.2 57 8 = w32 (l1 + 5) then ((p_M_wrongAt f 2 (q1.2 57 8) q1.2).bind fun q5 =>
  bnd 2 q5.1 fun b6 => some (.inr (b6, q5.2)))
  else ((p_M_here f  q1.2).bind fun q2 =>
  lt (oU q2.2 57 11 (w32 ((w32 ((w32 (10 * (q1.2 57 11))) + q2.1)) - 48))) fun M3 =>
  lt (oU M3 57 8 (w32 ((M3 57 8) + 1))) fun M4 =>
  some (.inl M4)))
def p_M_readsNumber (f : Nat) (M : oM) : Option (Int × oM) :=
  lt (M 57 8) fun x7 =>
  lt (oU M 57 11 0) fun M8 =>
  iter (p_M_readsNumber_L10 f x7) f M8
def p_M_readsFactor_L0 (f : Nat) : oM → Option ((oM) ⊕ (Int × oM))
  | M =>
  (p_M_here f  M).bind fun q1 =>
  if q1.1 = 91 then ((p_M_opens f 14 q1.2).bind fun q11 =>
  if q11.1 = 0 then (some (.inr (0, q11.2)))
  else (some (.inl q11.2)))
  else ((p_M_isDigit f  q1.2).bind fun q2 =>
  if q2.1 = 0 then ((p_M_here f  q2.2).bind fun q3 =>
  (p_M_factOf f q3.1 q3.2).bind fun q4 =>
  if q4.1 = (-1) then ((p_M_wrongAt f 1 (q4.2 57 8) q4.2).bind fun q7 =>
  bnd 2 q7.1 fun b8 => some (.inr (b8, q7.2)))
  else ((p_M_notes f 1 q4.1 q4.2).bind fun q5 =>
  lt (oU q5.2 57 8 (w32 ((q5.2 57 8) + 1))) fun M6 =>
  some (.inr (1, M6))))
  else ((p_M_readsNumber f  q2.2).bind fun q9 =>
  if q9.1 = 0 then (some (.inr (0, q9.2)))
  else ((p_M_notes f 0 (q9.2 57 11) q9.2).bind fun q10 =>
  some (.inr (1, q10.2)))))
def p_M_readsFactor (f : Nat) (M : oM) : Option (Int × oM) :=
  iter (p_M_readsFactor_L0 f) f M
def p_M_sumSign (f : Nat) (l0 : Int) (M : oM) : Option (Int × oM) :=
  if l0 = 43 then (some (2, M))
  else (if l0 = 45 then (some (3, M))
  else (if l0 = 42 then (some (4, M))
  else (if l0 = 47 then (some (5, M))
  else (if l0 = 37 then (some (6, M))
  else (some ((-1), M))))))
def p_M_readsSum_B138_14 (f : Nat) (l1 : Int) (M : oM) : Option ((oM) ⊕ (Int × oM)) :=
  (p_M_hasOpenSum f l1 M).bind fun q1 =>
  if q1.1 = 0 then ((p_M_closesSums f 1 q1.2).bind fun q2 =>
  some (.inr (1, q2.2)))
  else ((p_M_wrongAt f 1 (q1.2 57 8) q1.2).bind fun q3 =>
  bnd 2 q3.1 fun b4 => some (.inr (b4, q3.2)))
def p_M_readsSum_B163_14 (f : Nat) (l1 : Int) (M : oM) : Option ((oM) ⊕ (Int × oM)) :=
  some (.inl M)
def p_M_readsSum_B38_14 (f : Nat) (l1 : Int) (l2 : Int) (s1 : Int) (M : oM) : Option ((oM) ⊕ (Int × oM)) :=
  (p_M_closesSums f s1 M).bind fun q5 =>
  bnd 260 (q5.2 57 14) fun i6 =>
  lt (oU q5.2 65 i6 (w32 (1048576 * l2))) fun M7 =>
  lt (oU M7 57 14 (w32 ((M7 57 14) + 1))) fun M8 =>
  lt (oU M8 57 8 (w32 ((M8 57 8) + 1))) fun M9 =>
  (p_M_readsFactor f  M9).bind fun q10 =>
  if q10.1 = 0 then (some (.inr (0, q10.2)))
  else (p_M_readsSum_B163_14 f l1 q10.2)
def p_M_readsSum_L14 (f : Nat) (l1 : Int) : oM → Option ((oM) ⊕ (Int × oM))
  | M =>
  (p_M_here f  M).bind fun q11 =>
  (p_M_sumSign f q11.1 q11.2).bind fun q12 =>
  if q12.1 = (-1) then ((p_M_here f  q12.2).bind fun q13 =>
  if q13.1 = 93 then ((p_M_hasOpenSum f l1 q13.2).bind fun q14 =>
  if q14.1 = 0 then (p_M_readsSum_B138_14 f l1 q14.2)
  else ((p_M_closesSums f 1 q14.2).bind fun q15 =>
  lt (oU q15.2 57 14 (w32 ((q15.2 57 14) - 1))) fun M16 =>
  lt (oU M16 57 12 (w32 ((M16 57 12) - 1))) fun M17 =>
  lt (oU M17 57 8 (w32 ((M17 57 8) + 1))) fun M18 =>
  p_M_readsSum_B163_14 f l1 M18))
  else (p_M_readsSum_B138_14 f l1 q13.2))
  else (if q12.1 < 4 then (p_M_readsSum_B38_14 f l1 q12.1 1 q12.2)
  else (p_M_readsSum_B38_14 f l1 q12.1 0 q12.2))
def p_M_readsSum (f : Nat) (M : oM) : Option (Int × oM) :=
  lt (M 57 14) fun x19 =>
  (p_M_readsFactor f  M).bind fun q20 =>
  if q20.1 = 0 then (some (0, q20.2))
  else (iter (p_M_readsSum_L14 f x19) f q20.2)
def p_M_readsCompared_B52 (f : Nat) (s0 : Int) (M : oM) : Option (Int × oM) :=
  if s0 = (-1) then ((p_M_wrongAt f 1 (M 57 8) M).bind fun q5 =>
  bnd 2 q5.1 fun b6 => some (b6, q5.2))
  else (lt (oU M 57 8 (w32 ((M 57 8) + 1))) fun M1 =>
  (p_M_readsSum f  M1).bind fun q2 =>
  if q2.1 = 0 then (some (0, q2.2))
  else ((p_M_notes f s0 0 q2.2).bind fun q3 =>
  (p_M_endsPiece f  q3.2).bind fun q4 =>
  some (1, q4.2)))
def p_M_readsCompared (f : Nat) (M : oM) : Option (Int × oM) :=
  (p_M_readsSum f  M).bind fun q7 =>
  if q7.1 = 0 then (some (0, q7.2))
  else ((p_M_here f  q7.2).bind fun q8 =>
  if q8.1 = 60 then (p_M_readsCompared_B52 f 7 q8.2)
  else ((p_M_here f  q8.2).bind fun q9 =>
  if q9.1 = 62 then (p_M_readsCompared_B52 f 8 q9.2)
  else ((p_M_here f  q9.2).bind fun q10 =>
  if q10.1 = 61 then (p_M_readsCompared_B52 f 9 q10.2)
  else (p_M_readsCompared_B52 f (-1) q10.2))))
def p_M_readsCondition_B75_40 (f : Nat) (s1 : Int) (M : oM) : Option ((oM) ⊕ (Int × oM)) :=
  (p_M_opens f s1 M).bind fun q1 =>
  if q1.1 = 0 then (some (.inr (0, q1.2)))
  else (some (.inl q1.2))
def p_M_readsCondition_B58_40 (f : Nat) (M : oM) : Option ((oM) ⊕ (Int × oM)) :=
  (p_M_here f  M).bind fun q2 =>
  if q2.1 = 33 then (p_M_readsCondition_B75_40 f 10 q2.2)
  else (p_M_readsCondition_B75_40 f 13 q2.2)
def p_M_readsCondition_B215_40 (f : Nat) (s1 : Int) (M : oM) : Option ((oM) ⊕ (Int × oM)) :=
  (p_M_jumps f s1 M).bind fun q3 =>
  some (.inl q3.2)
def p_M_readsCondition_B195_40 (f : Nat) (s1 : Int) (M : oM) : Option ((oM) ⊕ (Int × oM)) :=
  (p_M_lands f s1 M).bind fun q4 =>
  (p_M_here f  q4.2).bind fun q5 =>
  if q5.1 = 38 then (p_M_readsCondition_B215_40 f 11 q5.2)
  else (p_M_readsCondition_B215_40 f 12 q5.2)
def p_M_readsCondition_B180_40 (f : Nat) (M : oM) : Option ((oM) ⊕ (Int × oM)) :=
  (p_M_here f  M).bind fun q6 =>
  if q6.1 = 124 then (p_M_readsCondition_B195_40 f 1 q6.2)
  else (p_M_readsCondition_B195_40 f 0 q6.2)
def p_M_readsCondition_X92 (f : Nat) : (Int × oM) ⊕ (oM) → Option ((oM) ⊕ (Int × oM))
  | .inl q => some (.inr q)
  | .inr M =>
  (p_M_here f  M).bind fun q7 =>
  if q7.1 = 38 then (p_M_readsCondition_B180_40 f q7.2)
  else ((p_M_here f  q7.2).bind fun q8 =>
  if q8.1 = 124 then (p_M_readsCondition_B180_40 f q8.2)
  else ((p_M_wrongAt f 1 (q8.2 57 8) q8.2).bind fun q9 =>
  bnd 2 q9.1 fun b10 => some (.inr (b10, q9.2))))
def p_M_readsCondition_L92 (f : Nat) : oM → Option ((oM) ⊕ ((Int × oM) ⊕ (oM)))
  | M =>
  (p_M_here f  M).bind fun q11 =>
  if q11.1 = 41 then ((p_M_lands f 1 q11.2).bind fun q12 =>
  lt (oU q12.2 57 14 (w32 ((q12.2 57 14) - 1))) fun M13 =>
  lt (oU M13 57 12 (w32 ((M13 57 12) - 1))) fun M14 =>
  lt (oU M14 57 8 (w32 ((M14 57 8) + 1))) fun M15 =>
  if M15 57 14 = 0 then (some (.inr (.inl (1, M15))))
  else ((p_M_endsPiece f  M15).bind fun q16 =>
  some (.inl q16.2)))
  else (some (.inr (.inr q11.2)))
def p_M_readsCondition_L40 (f : Nat) : oM → Option ((oM) ⊕ (Int × oM))
  | M =>
  (p_M_here f  M).bind fun q17 =>
  if q17.1 = 33 then (p_M_readsCondition_B58_40 f q17.2)
  else ((p_M_here f  q17.2).bind fun q18 =>
  if q18.1 = 40 then (p_M_readsCondition_B58_40 f q18.2)
  else ((p_M_readsCompared f  q18.2).bind fun q19 =>
  if q19.1 = 0 then (some (.inr (0, q19.2)))
  else ((iter (p_M_readsCondition_L92 f) f q19.2).bind (p_M_readsCondition_X92 f))))
def p_M_readsCondition (f : Nat) (M : oM) : Option (Int × oM) :=
  (p_M_here f  M).bind fun q20 =>
  if q20.1 = 40 then (lt (oU q20.2 57 12 0) fun M21 =>
  lt (oU M21 57 14 0) fun M22 =>
  (p_M_opens f 13 M22).bind fun q23 =>
  if q23.1 = 0 then (some (0, q23.2))
  else (iter (p_M_readsCondition_L40 f) f q23.2))
  else ((p_M_wrongAt f 1 (q20.2 57 8) q20.2).bind fun q24 =>
  bnd 2 q24.1 fun b25 => some (b25, q24.2))
def p_M_readsRule_B116 (f : Nat) (M : oM) : Option (Int × oM) :=
  bnd 16 (M 57 15) fun i1 =>
  lt (oU M 68 i1 (M 57 13)) fun M2 =>
  (p_M_readsCondition f  M2).bind fun q3 =>
  if q3.1 = 0 then (some (0, q3.2))
  else (bnd 16 (q3.2 57 15) fun i4 =>
  lt (oU q3.2 69 i4 (q3.2 57 13)) fun M5 =>
  lt (oU M5 57 15 (w32 ((M5 57 15) + 1))) fun M6 =>
  some (1, M6))
def p_M_readsRule_B39 (f : Nat) (l1 : Int) (M : oM) : Option (Int × oM) :=
  if M 57 15 = 16 then ((p_M_wrongAt f 4 (M 57 8) M).bind fun q15 =>
  bnd 2 q15.1 fun b16 => some (b16, q15.2))
  else (bnd 16 (M 57 15) fun i7 =>
  lt (oU M 66 i7 l1) fun M8 =>
  lt (oU M8 57 8 (w32 ((M8 57 8) + 1))) fun M9 =>
  bnd 16 (M9 57 15) fun i10 =>
  lt (oU M9 67 i10 (M9 57 13)) fun M11 =>
  lt (oU M11 57 12 0) fun M12 =>
  lt (oU M12 57 14 0) fun M13 =>
  if l1 = 115 then (p_M_readsRule_B116 f M13)
  else ((p_M_readsSum f  M13).bind fun q14 =>
  if q14.1 = 0 then (some (0, q14.2))
  else (p_M_readsRule_B116 f q14.2)))
def p_M_readsRule (f : Nat) (M : oM) : Option (Int × oM) :=
  (p_M_here f  M).bind fun q17 =>
  if q17.1 = 101 then (p_M_readsRule_B39 f q17.1 q17.2)
  else (if q17.1 = 105 then (p_M_readsRule_B39 f q17.1 q17.2)
  else (if q17.1 = 114 then (p_M_readsRule_B39 f q17.1 q17.2)
  else (if q17.1 = 115 then (p_M_readsRule_B39 f q17.1 q17.2)
  else ((p_M_wrongAt f 1 (q17.2 57 8) q17.2).bind fun q18 =>
  bnd 2 q18.1 fun b19 => some (b19, q18.2)))))
def p_M_takes (f : Nat) (l1 : Int) (M : oM) : Option (Int × oM) :=
  (p_M_here f  M).bind fun q1 =>
  if q1.1 = l1 then (lt (oU q1.2 57 8 (w32 ((q1.2 57 8) + 1))) fun M2 =>
  some (1, M2))
  else ((p_M_wrongAt f 1 (q1.2 57 8) q1.2).bind fun q3 =>
  bnd 2 q3.1 fun b4 => some (b4, q3.2))
def p_M_law_L138 (f : Nat) : Int × oM → Option ((Int × oM) ⊕ (Int × oM))
  | (l3, M) =>
  if l3 < M 57 15 then (bnd 16 l3 fun i1 =>
  bnd 16 l3 fun i2 =>
  lt (oU M 71 i2 (M 66 i1)) fun M3 =>
  bnd 16 l3 fun i4 =>
  bnd 16 l3 fun i5 =>
  lt (oU M3 72 i5 (M3 67 i4)) fun M6 =>
  bnd 16 l3 fun i7 =>
  bnd 16 l3 fun i8 =>
  lt (oU M6 73 i8 (M6 68 i7)) fun M9 =>
  bnd 16 l3 fun i10 =>
  bnd 16 l3 fun i11 =>
  lt (oU M9 74 i11 (M9 69 i10)) fun M12 =>
  lt (w32 (l3 + 1)) fun x13 =>
  some (.inl (x13, M12)))
  else (some (.inr (M 57 15, M)))
def p_M_law_X110 (f : Nat) : oM → Option (Int × oM)
  | M =>
  iter (p_M_law_L138 f) f (0, M)
def p_M_law_L110 (f : Nat) : Int × oM → Option ((Int × oM) ⊕ (oM))
  | (l3, M) =>
  if l3 < M 57 13 then (bnd 260 l3 fun i14 =>
  bnd 260 l3 fun i15 =>
  lt (oU M 70 i15 (M 64 i14)) fun M16 =>
  lt (w32 (l3 + 1)) fun x17 =>
  some (.inl (x17, M16)))
  else (some (.inr M))
def p_M_law_X46 (f : Nat) : Int × oM → Option (Int × oM)
  | (l2, M) =>
  lt (oU M 57 7 0) fun M18 =>
  if l2 = 0 then (some (M18 57 10, M18))
  else (lt (oU M18 57 16 (M18 57 15)) fun M19 =>
  (iter (p_M_law_L110 f) f (0, M19)).bind (p_M_law_X110 f))
def p_M_law_B82_46 (f : Nat) (s0 : Int) (M : oM) : Option ((Int × oM) ⊕ (Int × oM)) :=
  some (.inl (s0, M))
def p_M_law_B81_46 (f : Nat) (M : oM) : Option ((Int × oM) ⊕ (Int × oM)) :=
  p_M_law_B82_46 f 0 M
def p_M_law_L46 (f : Nat) : Int × oM → Option ((Int × oM) ⊕ (Int × oM))
  | (l2, M) =>
  if l2 = 0 then (some (.inr (l2, M)))
  else (if M 57 8 < M 57 9 then ((p_M_takes f 59 M).bind fun q20 =>
  if q20.1 = 0 then (p_M_law_B81_46 f q20.2)
  else ((p_M_readsRule f  q20.2).bind fun q21 =>
  if q21.1 = 0 then (p_M_law_B81_46 f q21.2)
  else (p_M_law_B82_46 f 1 q21.2)))
  else (some (.inr (l2, M))))
def p_M_law (f : Nat) (l1 : Int) (M : oM) : Option (Int × oM) :=
  (p_M_in f l1 1 240 M).bind fun q22 =>
  if q22.1 = 0 then (some ((-1), q22.2))
  else (if q22.2 57 7 < l1 then (some ((-1), q22.2))
  else (lt (oU q22.2 57 8 0) fun M23 =>
  lt (oU M23 57 9 l1) fun M24 =>
  lt (oU M24 57 13 0) fun M25 =>
  lt (oU M25 57 15 0) fun M26 =>
  (p_M_readsRule f  M26).bind fun q27 =>
  (iter (p_M_law_L46 f) f (q27.1, q27.2)).bind (p_M_law_X46 f)))
def p_M_debtOf (f : Nat) (l1 : Int) (l2 : Int) (M : oM) : Option (Int × oM) :=
  bnd 159 (w32 ((w32 (0 + (w32 (10 * l1)))) + l2)) fun i1 =>
  some (M 58 i1, M)
def p_M_owesAll_L4 (f : Nat) (l1 : Int) : Int × Int × oM → Option ((Int × Int × oM) ⊕ (Int × oM))
  | (l2, l3, M) =>
  if l3 < 10 then ((p_M_debtOf f l1 l3 M).bind fun q1 =>
  lt (w32 (l2 + q1.1)) fun x2 =>
  lt (w32 (l3 + 1)) fun x3 =>
  some (.inl (x2, x3, q1.2)))
  else (some (.inr (l2, M)))
def p_M_owesAll (f : Nat) (l1 : Int) (M : oM) : Option (Int × oM) :=
  iter (p_M_owesAll_L4 f l1) f (0, 0, M)
def p_M_owedInAll_L4 (f : Nat) : Int × Int × oM → Option ((Int × Int × oM) ⊕ (Int × oM))
  | (l1, l2, M) =>
  if l2 < 10 then ((p_M_owesAll f l2 M).bind fun q1 =>
  lt (w32 (l1 + q1.1)) fun x2 =>
  lt (w32 (l2 + 1)) fun x3 =>
  some (.inl (x2, x3, q1.2)))
  else (some (.inr (l1, M)))
def p_M_owedInAll (f : Nat) (M : oM) : Option (Int × oM) :=
  iter (p_M_owedInAll_L4 f) f (0, 0, M)
def p_M_min (f : Nat) (l0 : Int) (l1 : Int) (M : oM) : Option (Int × oM) :=
  if l0 < l1 then (some (l0, M))
  else (some (l1, M))
def p_M_readsPerson_B47 (f : Nat) (M : oM) : Option (Int × oM) :=
  (p_M_here f  M).bind fun q1 =>
  lt (oU q1.2 57 11 (w32 (q1.1 - 97))) fun M2 =>
  (p_M_isPerson f (M2 57 11) M2).bind fun q3 =>
  if q3.1 = 0 then ((p_M_wrongAt f 7 (q3.2 57 8) q3.2).bind fun q5 =>
  bnd 2 q5.1 fun b6 => some (b6, q5.2))
  else (lt (oU q3.2 57 8 (w32 ((q3.2 57 8) + 1))) fun M4 =>
  some (1, M4))
def p_M_readsPerson (f : Nat) (l1 : Int) (M : oM) : Option (Int × oM) :=
  (p_M_here f  M).bind fun q7 =>
  (p_M_in f q7.1 97 106 q7.2).bind fun q8 =>
  if q8.1 = 0 then ((p_M_wrongAt f 1 (q8.2 57 8) q8.2).bind fun q11 =>
  bnd 2 q11.1 fun b12 => some (b12, q11.2))
  else (if l1 = 0 then (p_M_readsPerson_B47 f q8.2)
  else (if q8.2 57 31 = 30 then ((p_M_wrongAt f 4 (q8.2 57 8) q8.2).bind fun q9 =>
  bnd 2 q9.1 fun b10 => some (b10, q9.2))
  else (p_M_readsPerson_B47 f q8.2)))
def p_M_readsLine_B121_76 (f : Nat) (l1 : Int) (l2 : Int) (l3 : Int) (l4 : Int) (M : oM) : Option ((Int × oM) ⊕ (Int × oM)) :=
  if l4 = 0 then ((p_M_wrongAt f 3 l3 M).bind fun q6 =>
  bnd 2 q6.1 fun b7 => some (.inr (b7, q6.2)))
  else (bnd 100 (w32 ((w32 (10 * l1)) + l2)) fun i1 =>
  (p_M_min f 99 (w32 ((M 77 i1) + l4)) M).bind fun q2 =>
  bnd 100 (w32 ((w32 (10 * l1)) + l2)) fun i3 =>
  lt (oU q2.2 77 i3 q2.1) fun M4 =>
  lt (oU M4 57 31 (w32 ((M4 57 31) + 1))) fun M5 =>
  some (.inr (1, M5)))
def p_M_readsLine_L76 (f : Nat) (l1 : Int) (l2 : Int) (l3 : Int) : Int × oM → Option ((Int × oM) ⊕ (Int × oM))
  | (l4, M) =>
  (p_M_isDigit f  M).bind fun q8 =>
  if q8.1 = 0 then (p_M_readsLine_B121_76 f l1 l2 l3 l4 q8.2)
  else (if q8.2 57 8 < w32 (l3 + 2) then ((p_M_here f  q8.2).bind fun q9 =>
  lt (w32 ((w32 ((w32 (10 * l4)) + q9.1)) - 48)) fun x10 =>
  lt (oU q9.2 57 8 (w32 ((q9.2 57 8) + 1))) fun M11 =>
  some (.inl (x10, M11)))
  else (p_M_readsLine_B121_76 f l1 l2 l3 l4 q8.2))
def p_M_readsLine_B74 (f : Nat) (l1 : Int) (l2 : Int) (l3 : Int) (s0 : Int) (M : oM) : Option (Int × oM) :=
  iter (p_M_readsLine_L76 f l1 l2 l3) f (s0, M)
def p_M_readsLine (f : Nat) (M : oM) : Option (Int × oM) :=
  (p_M_readsPerson f 1 M).bind fun q12 =>
  if q12.1 = 0 then (some (0, q12.2))
  else (lt (q12.2 57 11) fun x13 =>
  (p_M_takes f 62 q12.2).bind fun q14 =>
  if q14.1 = 0 then (some (0, q14.2))
  else ((p_M_readsPerson f 0 q14.2).bind fun q15 =>
  if q15.1 = 0 then (some (0, q15.2))
  else (lt (q15.2 57 11) fun x16 =>
  if x13 = x16 then ((p_M_wrongAt f 6 (w32 ((q15.2 57 8) - 1)) q15.2).bind fun q19 =>
  bnd 2 q19.1 fun b20 => some (b20, q19.2))
  else (lt (q15.2 57 8) fun x17 =>
  (p_M_isDigit f  q15.2).bind fun q18 =>
  if q18.1 = 0 then (p_M_readsLine_B74 f x13 x16 x17 1 q18.2)
  else (p_M_readsLine_B74 f x13 x16 x17 0 q18.2)))))
def p_M_debts_L118 (f : Nat) : Int × oM → Option ((Int × oM) ⊕ (Int × oM))
  | (l3, M) =>
  if l3 < 100 then (bnd 100 l3 fun i2 =>
  bnd 159 (w32 (0 + l3)) fun i3 =>
  lt (oU M 58 i3 (M 77 i2)) fun M4 =>
  lt (w32 (l3 + 1)) fun x5 =>
  some (.inl (x5, M4)))
  else ((p_M_owedInAll f  M).bind fun q1 =>
  some (.inr (q1.1, q1.2)))
def p_M_debts_X62 (f : Nat) : Int × oM → Option (Int × oM)
  | (l2, M) =>
  lt (oU M 57 7 0) fun M6 =>
  if l2 = 0 then (some (M6 57 10, M6))
  else (iter (p_M_debts_L118 f) f (0, M6))
def p_M_debts_B98_62 (f : Nat) (s0 : Int) (M : oM) : Option ((Int × oM) ⊕ (Int × oM)) :=
  some (.inl (s0, M))
def p_M_debts_B97_62 (f : Nat) (M : oM) : Option ((Int × oM) ⊕ (Int × oM)) :=
  p_M_debts_B98_62 f 0 M
def p_M_debts_L62 (f : Nat) : Int × oM → Option ((Int × oM) ⊕ (Int × oM))
  | (l2, M) =>
  if l2 = 0 then (some (.inr (l2, M)))
  else (if M 57 8 < M 57 9 then ((p_M_takes f 59 M).bind fun q7 =>
  if q7.1 = 0 then (p_M_debts_B97_62 f q7.2)
  else ((p_M_readsLine f  q7.2).bind fun q8 =>
  if q8.1 = 0 then (p_M_debts_B97_62 f q8.2)
  else (p_M_debts_B98_62 f 1 q8.2)))
  else (some (.inr (l2, M))))
def p_M_debts_X38 (f : Nat) : oM → Option (Int × oM)
  | M =>
  (p_M_readsLine f  M).bind fun q9 =>
  (iter (p_M_debts_L62 f) f (q9.1, q9.2)).bind (p_M_debts_X62 f)
def p_M_debts_L38 (f : Nat) : Int × oM → Option ((Int × oM) ⊕ (oM))
  | (l2, M) =>
  if l2 < 100 then (bnd 100 l2 fun i10 =>
  lt (oU M 77 i10 0) fun M11 =>
  lt (w32 (l2 + 1)) fun x12 =>
  some (.inl (x12, M11)))
  else (some (.inr M))
def p_M_debts (f : Nat) (l1 : Int) (M : oM) : Option (Int × oM) :=
  (p_M_in f l1 1 160 M).bind fun q13 =>
  if q13.1 = 0 then (some ((-1), q13.2))
  else (if q13.2 57 7 < l1 then (some ((-1), q13.2))
  else (lt (oU q13.2 57 8 0) fun M14 =>
  lt (oU M14 57 9 l1) fun M15 =>
  lt (oU M15 57 31 0) fun M16 =>
  (iter (p_M_debts_L38 f) f (0, M16)).bind (p_M_debts_X38 f)))
def p_M_begins (f : Nat) (M : oM) : Option (Int × oM) :=
  lt (oU M 57 32 0) fun M1 =>
  lt (oU M1 57 33 0) fun M2 =>
  lt (oU M2 57 34 0) fun M3 =>
  some (0, M3)
def p_M_reckon (f : Nat) (l0 : Int) (l1 : Int) (l2 : Int) (M : oM) : Option (Int × oM) :=
  if l0 = 2 then (some (w32 (l1 + l2), M))
  else (if l0 = 3 then (some (w32 (l1 - l2), M))
  else (if l0 = 4 then (some (w32 (l1 * l2), M))
  else (if l0 = 5 then (nz l2 fun z1 =>
  some (w32 (Int.tdiv l1 z1), M))
  else (if l0 = 6 then (nz l2 fun z2 =>
  some (Int.tmod l1 z2, M))
  else (if l0 = 7 then (if l1 < l2 then (some (1, M))
  else (some (0, M)))
  else (if l0 = 8 then (if l2 < l1 then (some (1, M))
  else (some (0, M)))
  else (if l1 = l2 then (some (1, M))
  else (some (0, M)))))))))
def p_M_comesTo_B230_16 (f : Nat) (l2 : Int) (l3 : Int) (l4 : Int) (l5 : Int) (M : oM) : Option ((Int × Int × oM) ⊕ (Int × oM)) :=
  some (.inl (l3, l5, M))
def p_M_comesTo_B85_16 (f : Nat) (l2 : Int) (l3 : Int) (l4 : Int) (l5 : Int) (s1 : Int) (s2 : Int) (M : oM) : Option ((Int × Int × oM) ⊕ (Int × oM)) :=
  bnd 260 s1 fun i1 =>
  lt (oU M 75 i1 s2) fun M2 =>
  lt (w32 (l3 + 1)) fun x3 =>
  p_M_comesTo_B230_16 f l2 x3 l4 l5 M2
def p_M_comesTo_B63_16 (f : Nat) (l2 : Int) (l3 : Int) (l4 : Int) (l5 : Int) (l6 : Int) (l7 : Int) (M : oM) : Option ((Int × Int × oM) ⊕ (Int × oM)) :=
  if l6 = 0 then (p_M_comesTo_B85_16 f l2 l3 l4 l5 l3 l7 M)
  else (bnd 8 l7 fun i4 =>
  p_M_comesTo_B85_16 f l2 l3 l4 l5 l3 (M 76 i4) M)
def p_M_comesTo_B155_16 (f : Nat) (l2 : Int) (l3 : Int) (l4 : Int) (l5 : Int) (l7 : Int) (s0 : Int) (s1 : Int) (M : oM) : Option ((Int × Int × oM) ⊕ (Int × oM)) :=
  if s0 = s1 then (lt (w32 (l4 + l7)) fun x6 =>
  p_M_comesTo_B230_16 f l2 l3 l4 x6 M)
  else (lt (w32 (l3 - 1)) fun x5 =>
  p_M_comesTo_B230_16 f l2 x5 l4 l5 M)
def p_M_comesTo_B135_16 (f : Nat) (l2 : Int) (l3 : Int) (l4 : Int) (l5 : Int) (l6 : Int) (l7 : Int) (M : oM) : Option ((Int × Int × oM) ⊕ (Int × oM)) :=
  bnd 260 (w32 (l3 - 1)) fun i7 =>
  if l6 = 12 then (p_M_comesTo_B155_16 f l2 l3 l4 l5 l7 (M 75 i7) 1 M)
  else (p_M_comesTo_B155_16 f l2 l3 l4 l5 l7 (M 75 i7) 0 M)
def p_M_comesTo_B203_16 (f : Nat) (l2 : Int) (l3 : Int) (l4 : Int) (l5 : Int) (l6 : Int) (M : oM) : Option ((Int × Int × oM) ⊕ (Int × oM)) :=
  bnd 260 (w32 (l3 - 1)) fun i8 =>
  bnd 260 l3 fun i9 =>
  (p_M_reckon f l6 (M 75 i8) (M 75 i9) M).bind fun q10 =>
  bnd 260 (w32 (l3 - 1)) fun i11 =>
  lt (oU q10.2 75 i11 q10.1) fun M12 =>
  p_M_comesTo_B230_16 f l2 l3 l4 l5 M12
def p_M_comesTo_B192_16 (f : Nat) (l2 : Int) (l3 : Int) (l4 : Int) (l5 : Int) (l6 : Int) (M : oM) : Option ((Int × Int × oM) ⊕ (Int × oM)) :=
  bnd 260 l3 fun i13 =>
  if M 75 i13 = 0 then (some (.inr (0, M)))
  else (p_M_comesTo_B203_16 f l2 l3 l4 l5 l6 M)
def p_M_comesTo_L16 (f : Nat) (l2 : Int) (l4 : Int) : Int × Int × oM → Option ((Int × Int × oM) ⊕ (Int × oM))
  | (l3, l5, M) =>
  if l5 < l2 then (bnd 260 l5 fun i15 =>
  nz 1048576 fun z16 =>
  lt (w32 (Int.tdiv (M 70 i15) z16)) fun x17 =>
  bnd 260 l5 fun i18 =>
  nz 1048576 fun z19 =>
  lt (Int.tmod (M 70 i18) z19) fun x20 =>
  lt (w32 (l5 + 1)) fun x21 =>
  if x17 = 0 then (p_M_comesTo_B63_16 f l2 l3 l4 x21 x17 x20 M)
  else (if x17 = 1 then (p_M_comesTo_B63_16 f l2 l3 l4 x21 x17 x20 M)
  else (if x17 = 10 then (bnd 260 (w32 (l3 - 1)) fun i23 =>
  bnd 260 (w32 (l3 - 1)) fun i24 =>
  lt (oU M 75 i24 (w32 (1 - (M 75 i23)))) fun M25 =>
  p_M_comesTo_B230_16 f l2 l3 l4 x21 M25)
  else (if x17 = 11 then (p_M_comesTo_B135_16 f l2 l3 l4 x21 x17 x20 M)
  else (if x17 = 12 then (p_M_comesTo_B135_16 f l2 l3 l4 x21 x17 x20 M)
  else (lt (w32 (l3 - 1)) fun x22 =>
  if x17 = 5 then (p_M_comesTo_B192_16 f l2 x22 l4 x21 x17 M)
  else (if x17 = 6 then (p_M_comesTo_B192_16 f l2 x22 l4 x21 x17 M)
  else (p_M_comesTo_B203_16 f l2 x22 l4 x21 x17 M))))))))
  else (bnd 260 0 fun i14 =>
  some (.inr (M 75 i14, M)))
def p_M_comesTo (f : Nat) (l1 : Int) (l2 : Int) (M : oM) : Option (Int × oM) :=
  nz 260 fun z26 =>
  lt (w32 (260 * (w32 (Int.tdiv l1 z26)))) fun x27 =>
  iter (p_M_comesTo_L16 f l2 x27) f (0, l1, M)
def p_M_byLaw_B83_2 (f : Nat) (l1 : Int) (l2 : Int) (l3 : Int) (M : oM) : Option ((Int × oM) ⊕ (Int × oM)) :=
  lt (w32 (l3 + 1)) fun x1 =>
  some (.inl (x1, M))
def p_M_byLaw_L2 (f : Nat) (l1 : Int) (l2 : Int) : Int × oM → Option ((Int × oM) ⊕ (Int × oM))
  | (l3, M) =>
  if l3 < M 57 16 then (bnd 16 l3 fun i2 =>
  if M 71 i2 = l1 then (bnd 16 l3 fun i3 =>
  bnd 16 l3 fun i4 =>
  (p_M_comesTo f (M 73 i3) (M 74 i4) M).bind fun q5 =>
  if q5.1 = 1 then (bnd 16 l3 fun i6 =>
  bnd 16 l3 fun i7 =>
  (p_M_comesTo f (q5.2 72 i6) (q5.2 73 i7) q5.2).bind fun q8 =>
  if q8.1 < 0 then (some (.inr (0, q8.2)))
  else (if l2 < q8.1 then (some (.inr (l2, q8.2)))
  else (some (.inr (q8.1, q8.2)))))
  else (p_M_byLaw_B83_2 f l1 l2 l3 q5.2))
  else (p_M_byLaw_B83_2 f l1 l2 l3 M))
  else (some (.inr (0, M)))
def p_M_byLaw (f : Nat) (l1 : Int) (l2 : Int) (M : oM) : Option (Int × oM) :=
  iter (p_M_byLaw_L2 f l1 l2) f (0, M)
def p_M_chalksOf_B35_4 (f : Nat) (l1 : Int) (l3 : Int) (s0 : Int) (s1 : Int) (M : oM) : Option ((Int × Int × oM) ⊕ (Int × oM)) :=
  lt (w32 (s0 + s1)) fun x1 =>
  lt (w32 (l3 + 1)) fun x2 =>
  some (.inl (x1, x2, M))
def p_M_chalksOf_L4 (f : Nat) (l1 : Int) : Int × Int × oM → Option ((Int × Int × oM) ⊕ (Int × oM))
  | (l2, l3, M) =>
  bnd 159 150 fun i3 =>
  if l3 < M 58 i3 then (bnd 159 (w32 (110 + l3)) fun i4 =>
  if M 58 i4 = l1 then (p_M_chalksOf_B35_4 f l1 l3 l2 1 M)
  else (p_M_chalksOf_B35_4 f l1 l3 l2 0 M))
  else (some (.inr (l2, M)))
def p_M_chalksOf (f : Nat) (l1 : Int) (M : oM) : Option (Int × oM) :=
  iter (p_M_chalksOf_L4 f l1) f (0, 0, M)
def p_M_feels_L2 (f : Nat) (l1 : Int) : Int × oM → Option ((Int × oM) ⊕ (Int × oM))
  | (l2, M) =>
  if l2 < 8 then (bnd 8 l2 fun i6 =>
  lt (oU M 76 i6 0) fun M7 =>
  lt (w32 (l2 + 1)) fun x8 =>
  some (.inl (x8, M7)))
  else (bnd 8 6 fun i1 =>
  lt (oU M 76 i1 l1) fun M2 =>
  bnd 159 156 fun i3 =>
  bnd 8 7 fun i4 =>
  lt (oU M2 76 i4 (M2 58 i3)) fun M5 =>
  some (.inr (0, M5)))
def p_M_feels (f : Nat) (l1 : Int) (M : oM) : Option (Int × oM) :=
  iter (p_M_feels_L2 f l1) f (0, M)
def p_M_max (f : Nat) (l0 : Int) (l1 : Int) (M : oM) : Option (Int × oM) :=
  if l1 < l0 then (some (l0, M))
  else (some (l1, M))
def p_M_size (f : Nat) (l0 : Int) (M : oM) : Option (Int × oM) :=
  if l0 < 0 then (some (w32 (-l0), M))
  else (some (l0, M))
def p_M_wayOf (f : Nat) (l1 : Int) (l2 : Int) (M : oM) : Option (Int × oM) :=
  bnd 10 l1 fun i1 =>
  bnd 10 l2 fun i2 =>
  (p_M_size f (w32 ((M 61 i1) - (M 61 i2))) M).bind fun q3 =>
  bnd 10 l1 fun i4 =>
  bnd 10 l2 fun i5 =>
  (p_M_size f (w32 ((q3.2 62 i4) - (q3.2 62 i5))) q3.2).bind fun q6 =>
  (p_M_max f 1 (w32 (q3.1 + q6.1)) q6.2).bind fun q7 =>
  some (q7.1, q7.2)
def p_M_feelsTwo (f : Nat) (l1 : Int) (l2 : Int) (M : oM) : Option (Int × oM) :=
  bnd 159 155 fun i1 =>
  (p_M_feels f (M 58 i1) M).bind fun q2 =>
  bnd 8 0 fun i3 =>
  lt (oU q2.2 76 i3 l1) fun M4 =>
  bnd 8 1 fun i5 =>
  lt (oU M4 76 i5 l2) fun M6 =>
  (p_M_debtOf f l1 l2 M6).bind fun q7 =>
  bnd 8 2 fun i8 =>
  lt (oU q7.2 76 i8 q7.1) fun M9 =>
  (p_M_owesAll f l1 M9).bind fun q10 =>
  bnd 8 3 fun i11 =>
  lt (oU q10.2 76 i11 q10.1) fun M12 =>
  (p_M_wayOf f l1 l2 M12).bind fun q13 =>
  bnd 8 4 fun i14 =>
  lt (oU q13.2 76 i14 q13.1) fun M15 =>
  (p_M_chalksOf f l2 M15).bind fun q16 =>
  bnd 8 5 fun i17 =>
  lt (oU q16.2 76 i17 q16.1) fun M18 =>
  some (0, M18)
def p_M_rainBy (f : Nat) (M : oM) : Option (Int × oM) :=
  (p_M_feels f 0 M).bind fun q1 =>
  (p_M_byLaw f 114 10 q1.2).bind fun q2 =>
  some (q2.1, q2.2)
def p_M_dayBegins_X86 (f : Nat) (l1 : Int) : oM → Option ((Int × oM) ⊕ (Int × oM))
  | M =>
  lt (w32 (l1 + 1)) fun x1 =>
  some (.inl (x1, M))
def p_M_dayBegins_B162_86 (f : Nat) (l1 : Int) (l2 : Int) (M : oM) : Option ((Int × oM) ⊕ (oM)) :=
  lt (w32 (l2 + 1)) fun x2 =>
  some (.inl (x2, M))
def p_M_dayBegins_L86 (f : Nat) (l1 : Int) : Int × oM → Option ((Int × oM) ⊕ (oM))
  | (l2, M) =>
  if l2 < 10 then ((p_M_debtOf f l1 l2 M).bind fun q3 =>
  if q3.1 = 0 then (p_M_dayBegins_B162_86 f l1 l2 q3.2)
  else ((p_M_feelsTwo f l1 l2 q3.2).bind fun q4 =>
  (p_M_debtOf f l1 l2 q4.2).bind fun q5 =>
  (p_M_byLaw f 105 9 q5.2).bind fun q6 =>
  (p_M_min f 99 (w32 (q5.1 + q6.1)) q6.2).bind fun q7 =>
  (p_M_debtOf f l1 l2 q7.2).bind fun q8 =>
  lt (oU q8.2 57 34 (w32 ((w32 ((q7.2 57 34) + q7.1)) - q8.1))) fun M9 =>
  bnd 159 (w32 ((w32 (0 + (w32 (10 * l1)))) + l2)) fun i10 =>
  lt (oU M9 58 i10 q7.1) fun M11 =>
  p_M_dayBegins_B162_86 f l1 l2 M11))
  else (some (.inr M))
def p_M_dayBegins_L78 (f : Nat) : Int × oM → Option ((Int × oM) ⊕ (Int × oM))
  | (l1, M) =>
  if l1 < 10 then ((iter (p_M_dayBegins_L86 f l1) f (0, M)).bind (p_M_dayBegins_X86 f l1))
  else (some (.inr (0, M)))
def p_M_dayBegins_B58 (f : Nat) (s1 : Int) (s2 : Int) (M : oM) : Option (Int × oM) :=
  bnd 159 s1 fun i12 =>
  lt (oU M 58 i12 s2) fun M13 =>
  bnd 159 157 fun i14 =>
  lt (oU M13 57 33 (w32 ((M13 57 33) + (M13 58 i14)))) fun M15 =>
  iter (p_M_dayBegins_L78 f) f (0, M15)
def p_M_dayBegins (f : Nat) (M : oM) : Option (Int × oM) :=
  bnd 159 158 fun i16 =>
  nz 65536 fun z17 =>
  bnd 159 158 fun i18 =>
  lt (oU M 58 i18 (Int.tmod (w32 ((w32 (25173 * (M 58 i16))) + 13849)) z17)) fun M19 =>
  bnd 159 158 fun i20 =>
  nz 10 fun z21 =>
  (p_M_rainBy f  M19).bind fun q22 =>
  if Int.tmod (M19 58 i20) z21 < q22.1 then (p_M_dayBegins_B58 f 157 1 q22.2)
  else (p_M_dayBegins_B58 f 157 0 q22.2)
def p_M_holdsAny_B42_2 (f : Nat) (l1 : Int) (l2 : Int) (M : oM) : Option ((Int × oM) ⊕ (Int × oM)) :=
  lt (w32 (l2 + 1)) fun x1 =>
  some (.inl (x1, M))
def p_M_holdsAny_L2 (f : Nat) (l1 : Int) : Int × oM → Option ((Int × oM) ⊕ (Int × oM))
  | (l2, M) =>
  if l2 < M 57 16 then (bnd 16 l2 fun i2 =>
  if M 71 i2 = l1 then (bnd 16 l2 fun i3 =>
  bnd 16 l2 fun i4 =>
  (p_M_comesTo f (M 73 i3) (M 74 i4) M).bind fun q5 =>
  if q5.1 = 1 then (some (.inr (1, q5.2)))
  else (p_M_holdsAny_B42_2 f l1 l2 q5.2))
  else (p_M_holdsAny_B42_2 f l1 l2 M))
  else (some (.inr (0, M)))
def p_M_holdsAny (f : Nat) (l1 : Int) (M : oM) : Option (Int × oM) :=
  iter (p_M_holdsAny_L2 f l1) f (0, M)
def p_M_likesBy (f : Nat) (l1 : Int) (l2 : Int) (M : oM) : Option (Int × oM) :=
  (p_M_feelsTwo f l1 l2 M).bind fun q1 =>
  (p_M_holdsAny f 115 q1.2).bind fun q2 =>
  if q2.1 = 0 then ((p_M_byLaw f 101 9999 q2.2).bind fun q3 =>
  some (q3.1, q3.2))
  else (some (0, q2.2))
def p_M_nextPaid_B61_8 (f : Nat) (l1 : Int) (l2 : Int) (l3 : Int) (l4 : Int) (M : oM) : Option ((Int × Int × Int × oM) ⊕ (Int × oM)) :=
  lt (w32 (l4 + 1)) fun x1 =>
  some (.inl (l2, l3, x1, M))
def p_M_nextPaid_L8 (f : Nat) (l1 : Int) : Int × Int × Int × oM → Option ((Int × Int × Int × oM) ⊕ (Int × oM))
  | (l2, l3, l4, M) =>
  if l4 < 10 then ((p_M_isPerson f l4 M).bind fun q2 =>
  if q2.1 = 0 then (p_M_nextPaid_B61_8 f l1 l2 l3 l4 q2.2)
  else ((p_M_debtOf f l1 l4 q2.2).bind fun q3 =>
  if q3.1 = 0 then (p_M_nextPaid_B61_8 f l1 l2 l3 l4 q3.2)
  else ((p_M_likesBy f l1 l4 q3.2).bind fun q4 =>
  if l3 < q4.1 then (p_M_nextPaid_B61_8 f l1 l4 q4.1 l4 q4.2)
  else (p_M_nextPaid_B61_8 f l1 l2 l3 l4 q4.2))))
  else (some (.inr (l2, M)))
def p_M_nextPaid (f : Nat) (l1 : Int) (M : oM) : Option (Int × oM) :=
  iter (p_M_nextPaid_L8 f l1) f ((-2), 0, 0, M)
def p_M_setsOut (f : Nat) (l1 : Int) (l2 : Int) (M : oM) : Option (Int × oM) :=
  bnd 159 151 fun i1 =>
  lt (oU M 58 i1 (-2)) fun M2 =>
  bnd 159 152 fun i3 =>
  lt (oU M2 58 i3 l1) fun M4 =>
  bnd 159 153 fun i5 =>
  lt (oU M4 58 i5 l2) fun M6 =>
  (p_M_wayOf f l1 l2 M6).bind fun q7 =>
  bnd 159 154 fun i8 =>
  lt (oU q7.2 58 i8 q7.1) fun M9 =>
  some (0, M9)
def p_M_holds (f : Nat) (l1 : Int) (M : oM) : Option (Int × oM) :=
  bnd 159 (w32 (100 + l1)) fun i1 =>
  bnd 159 (w32 (100 + l1)) fun i2 =>
  lt (oU M 58 i2 (w32 ((M 58 i1) + 1))) fun M3 =>
  bnd 159 155 fun i4 =>
  (p_M_in f (M3 58 i4) 6 19 M3).bind fun q5 =>
  if q5.1 = 0 then (some (0, q5.2))
  else (bnd 159 157 fun i6 =>
  if q5.2 58 i6 = 1 then (some (0, q5.2))
  else ((p_M_nextPaid f l1 q5.2).bind fun q7 =>
  if q7.1 < 0 then (some (0, q7.2))
  else ((p_M_setsOut f l1 q7.1 q7.2).bind fun q8 =>
  some (0, q8.2))))
def p_M_chalks_L15 (f : Nat) (l1 : Int) : Int × oM → Option ((Int × oM) ⊕ (Int × oM))
  | (l2, M) =>
  if l2 < 40 then (bnd 159 (w32 (110 + l2)) fun i9 =>
  bnd 159 (w32 ((w32 (110 + l2)) - 1)) fun i10 =>
  lt (oU M 58 i10 (M 58 i9)) fun M11 =>
  lt (w32 (l2 + 1)) fun x12 =>
  some (.inl (x12, M11)))
  else (bnd 159 150 fun i1 =>
  lt (oU M 58 i1 39) fun M2 =>
  bnd 159 150 fun i3 =>
  bnd 159 (w32 (110 + (M2 58 i3))) fun i4 =>
  lt (oU M2 58 i4 l1) fun M5 =>
  bnd 159 150 fun i6 =>
  bnd 159 150 fun i7 =>
  lt (oU M5 58 i7 (w32 ((M5 58 i6) + 1))) fun M8 =>
  some (.inr (0, M8)))
def p_M_chalks (f : Nat) (l1 : Int) (M : oM) : Option (Int × oM) :=
  bnd 159 150 fun i13 =>
  if M 58 i13 = 40 then (iter (p_M_chalks_L15 f l1) f (1, M))
  else (bnd 159 150 fun i14 =>
  bnd 159 (w32 (110 + (M 58 i14))) fun i15 =>
  lt (oU M 58 i15 l1) fun M16 =>
  bnd 159 150 fun i17 =>
  bnd 159 150 fun i18 =>
  lt (oU M16 58 i18 (w32 ((M16 58 i17) + 1))) fun M19 =>
  some (0, M19))
def p_M_pays (f : Nat) (l1 : Int) (l2 : Int) (M : oM) : Option (Int × oM) :=
  (p_M_debtOf f l1 l2 M).bind fun q1 =>
  (p_M_max f 0 (w32 (q1.1 - 1)) q1.2).bind fun q2 =>
  bnd 159 (w32 ((w32 (0 + (w32 (10 * l1)))) + l2)) fun i3 =>
  lt (oU q2.2 58 i3 q2.1) fun M4 =>
  (p_M_rests f l2 M4).bind fun q5 =>
  (p_M_chalks f l2 q5.2).bind fun q6 =>
  some (0, q6.2)
def p_M_hourGoes_B125 (f : Nat) (M : oM) : Option (Int × oM) :=
  bnd 159 155 fun i1 =>
  bnd 159 155 fun i2 =>
  lt (oU M 58 i2 (w32 ((M 58 i1) + 1))) fun M3 =>
  bnd 159 155 fun i4 =>
  if M3 58 i4 < 24 then (some (0, M3))
  else (bnd 159 155 fun i5 =>
  lt (oU M3 58 i5 0) fun M6 =>
  bnd 159 156 fun i7 =>
  bnd 159 156 fun i8 =>
  lt (oU M6 58 i8 (w32 ((M6 58 i7) + 1))) fun M9 =>
  some (0, M9))
def p_M_hourGoes_B21 (f : Nat) (M : oM) : Option (Int × oM) :=
  bnd 159 154 fun i10 =>
  if 0 < M 58 i10 then (bnd 159 154 fun i14 =>
  bnd 159 154 fun i15 =>
  lt (oU M 58 i15 (w32 ((M 58 i14) - 1))) fun M16 =>
  bnd 159 154 fun i17 =>
  if M16 58 i17 = 0 then (bnd 159 153 fun i18 =>
  lt (oU M16 57 35 (M16 58 i18)) fun M19 =>
  bnd 159 152 fun i20 =>
  (p_M_pays f (M19 58 i20) (M19 57 35) M19).bind fun q21 =>
  lt (oU q21.2 57 32 (w32 ((q21.2 57 32) + 1))) fun M22 =>
  p_M_hourGoes_B125 f M22)
  else (p_M_hourGoes_B125 f M16))
  else (bnd 159 151 fun i11 =>
  if M 58 i11 < 0 then (p_M_hourGoes_B125 f M)
  else (bnd 159 151 fun i12 =>
  (p_M_holds f (M 58 i12) M).bind fun q13 =>
  p_M_hourGoes_B125 f q13.2))
def p_M_hourGoes (f : Nat) (M : oM) : Option (Int × oM) :=
  lt (oU M 57 35 (-2)) fun M23 =>
  bnd 159 155 fun i24 =>
  if M23 58 i24 = 0 then ((p_M_dayBegins f  M23).bind fun q25 =>
  p_M_hourGoes_B21 f q25.2)
  else (p_M_hourGoes_B21 f M23)
def p_M_hoursGo_L6 (f : Nat) (l1 : Int) : Int × oM → Option ((Int × oM) ⊕ (Int × oM))
  | (l2, M) =>
  if l2 < l1 then (bnd 159 156 fun i1 =>
  if M 58 i1 < 9999 then ((p_M_hourGoes f  M).bind fun q2 =>
  lt (w32 (l2 + 1)) fun x3 =>
  some (.inl (x3, q2.2)))
  else (some (.inr (0, M))))
  else (some (.inr (0, M)))
def p_M_hoursGo (f : Nat) (l1 : Int) (M : oM) : Option (Int × oM) :=
  (p_M_begins f  M).bind fun q4 =>
  iter (p_M_hoursGo_L6 f l1) f (0, q4.2)
def p_M_hours (f : Nat) (l1 : Int) (M : oM) : Option (Int × oM) :=
  (p_M_in f l1 1 240 M).bind fun q1 =>
  if q1.1 = 0 then (some ((-1), q1.2))
  else ((p_M_hoursGo f l1 q1.2).bind fun q2 =>
  some (q2.2 57 32, q2.2))
def p_M_copies_L2 (f : Nat) (o0 : Nat) (o1 : Nat) : Int × oM → Option ((Int × oM) ⊕ (Int × oM))
  | (l2, M) =>
  if l2 < 159 then (bnd 159 l2 fun i1 =>
  bnd 159 l2 fun i2 =>
  lt (oU M o1 i2 (M o0 i1)) fun M3 =>
  lt (w32 (l2 + 1)) fun x4 =>
  some (.inl (x4, M3)))
  else (some (.inr (0, M)))
def p_M_copies (f : Nat) (o0 : Nat) (o1 : Nat) (M : oM) : Option (Int × oM) :=
  iter (p_M_copies_L2 f o0 o1) f (0, M)
def p_M_tried_B182 (f : Nat) (l3 : Int) (M : oM) : Option (Int × oM) :=
  (p_M_copies f 59 58  M).bind fun q1 =>
  some (l3, q1.2)
def p_M_tried_B44 (f : Nat) (l1 : Int) (l2 : Int) (M : oM) : Option (Int × oM) :=
  (p_M_copies f 58 59  M).bind fun q2 =>
  (p_M_hoursGo f l1 q2.2).bind fun q3 =>
  if l2 = 0 then (lt (q3.2 57 32) fun x4 =>
  p_M_tried_B182 f x4 q3.2)
  else (if l2 = 1 then ((p_M_owedInAll f  q3.2).bind fun q5 =>
  p_M_tried_B182 f q5.1 q5.2)
  else (if l2 = 2 then (bnd 159 151 fun i6 =>
  lt (q3.2 58 i6) fun x7 =>
  p_M_tried_B182 f x7 q3.2)
  else (if l2 = 3 then (lt (q3.2 57 33) fun x8 =>
  p_M_tried_B182 f x8 q3.2)
  else (if l2 = 4 then (lt (q3.2 57 34) fun x9 =>
  p_M_tried_B182 f x9 q3.2)
  else (if l2 = 5 then (bnd 159 155 fun i10 =>
  lt (q3.2 58 i10) fun x11 =>
  p_M_tried_B182 f x11 q3.2)
  else (bnd 159 (w32 ((w32 (100 + l2)) - 10)) fun i12 =>
  bnd 159 (w32 ((w32 (100 + l2)) - 10)) fun i13 =>
  lt (w32 ((q3.2 58 i12) - (q3.2 59 i13))) fun x14 =>
  p_M_tried_B182 f x14 q3.2))))))
def p_M_tried (f : Nat) (l1 : Int) (l2 : Int) (M : oM) : Option (Int × oM) :=
  (p_M_in f l1 1 240 M).bind fun q15 =>
  if q15.1 = 0 then (some ((-1), q15.2))
  else ((p_M_in f l2 0 5 q15.2).bind fun q16 =>
  if q16.1 = 0 then ((p_M_in f l2 10 19 q16.2).bind fun q17 =>
  if q17.1 = 0 then (some ((-1), q17.2))
  else ((p_M_isPerson f (w32 (l2 - 10)) q17.2).bind fun q18 =>
  if q18.1 = 0 then (some ((-1), q18.2))
  else (p_M_tried_B44 f l1 l2 q18.2)))
  else (p_M_tried_B44 f l1 l2 q16.2))
def p_M_getsAll_L4 (f : Nat) (l1 : Int) : Int × Int × oM → Option ((Int × Int × oM) ⊕ (Int × oM))
  | (l2, l3, M) =>
  if l3 < 10 then ((p_M_debtOf f l3 l1 M).bind fun q1 =>
  lt (w32 (l2 + q1.1)) fun x2 =>
  lt (w32 (l3 + 1)) fun x3 =>
  some (.inl (x2, x3, q1.2)))
  else (some (.inr (l2, M)))
def p_M_getsAll (f : Nat) (l1 : Int) (M : oM) : Option (Int × oM) :=
  iter (p_M_getsAll_L4 f l1) f (0, 0, M)
def p_M_personIs (f : Nat) (l1 : Int) (l2 : Int) (M : oM) : Option (Int × oM) :=
  (p_M_isPerson f l1 M).bind fun q1 =>
  if q1.1 = 0 then (some ((-1), q1.2))
  else (if l2 = 0 then (bnd 10 l1 fun i2 =>
  some (q1.2 61 i2, q1.2))
  else (if l2 = 1 then (bnd 10 l1 fun i3 =>
  some (q1.2 62 i3, q1.2))
  else (if l2 = 2 then ((p_M_owesAll f l1 q1.2).bind fun q4 =>
  some (q4.1, q4.2))
  else (if l2 = 3 then ((p_M_getsAll f l1 q1.2).bind fun q5 =>
  some (q5.1, q5.2))
  else (if l2 = 4 then (bnd 159 (w32 (100 + l1)) fun i6 =>
  some (q1.2 58 i6, q1.2))
  else (if l2 = 5 then ((p_M_chalksOf f l1 q1.2).bind fun q7 =>
  some (q7.1, q7.2))
  else (some ((-1), q1.2))))))))
def p_M_owes (f : Nat) (l1 : Int) (l2 : Int) (M : oM) : Option (Int × oM) :=
  (p_M_areTwo f l1 l2 M).bind fun q1 =>
  if q1.1 = 0 then (some ((-1), q1.2))
  else ((p_M_debtOf f l1 l2 q1.2).bind fun q2 =>
  some (q2.1, q2.2))
def p_M_likes (f : Nat) (l1 : Int) (l2 : Int) (M : oM) : Option (Int × oM) :=
  (p_M_areTwo f l1 l2 M).bind fun q1 =>
  if q1.1 = 0 then (some ((-1), q1.2))
  else ((p_M_likesBy f l1 l2 q1.2).bind fun q2 =>
  some (q2.1, q2.2))
def p_M_readsTimes (f : Nat) (M : oM) : Option (Int × oM) :=
  lt (oU M 57 42 (M 57 8)) fun M1 =>
  lt (oU M1 57 43 1) fun M2 =>
  (p_M_here f  M2).bind fun q3 =>
  (p_M_in f q3.1 50 57 q3.2).bind fun q4 =>
  if q4.1 = 0 then (some (0, q4.2))
  else ((p_M_here f  q4.2).bind fun q5 =>
  lt (oU q5.2 57 43 (w32 (q5.1 - 48))) fun M6 =>
  lt (oU M6 57 8 (w32 ((M6 57 8) + 1))) fun M7 =>
  some (0, M7))
def p_M_repeats_L31 (f : Nat) (l1 : Int) (l2 : Int) (l4 : Int) : Int × oM → Option ((Int × oM) ⊕ (Int × oM))
  | (l5, M) =>
  if l5 < w32 (l4 * l2) then (bnd 60 (w32 ((w32 (l1 + l5)) - l4)) fun i2 =>
  bnd 60 (w32 (l1 + l5)) fun i3 =>
  lt (oU M 78 i3 (M 78 i2)) fun M4 =>
  lt (w32 (l5 + 1)) fun x5 =>
  some (.inl (x5, M4)))
  else (lt (oU M 57 40 (w32 (l1 + (w32 (l4 * l2))))) fun M1 =>
  some (.inr (1, M1)))
def p_M_repeats (f : Nat) (l1 : Int) (l2 : Int) (l3 : Int) (M : oM) : Option (Int × oM) :=
  lt (w32 ((M 57 40) - l1)) fun x6 =>
  if 60 < w32 (l1 + (w32 (x6 * l2))) then ((p_M_wrongAt f 6 l3 M).bind fun q7 =>
  bnd 2 q7.1 fun b8 => some (b8, q7.2))
  else (iter (p_M_repeats_L31 f l1 l2 x6) f (x6, M))
def p_M_readsItem_L203 (f : Nat) : oM → Option ((oM) ⊕ (Int × oM))
  | M =>
  (p_M_here f  M).bind fun q1 =>
  if q1.1 = 41 then (if 0 < q1.2 57 41 then (lt (oU q1.2 57 8 (w32 ((q1.2 57 8) + 1))) fun M2 =>
  lt (oU M2 57 41 (w32 ((M2 57 41) - 1))) fun M3 =>
  bnd 2 (M3 57 41) fun i4 =>
  bnd 2 (M3 57 41) fun i5 =>
  bnd 2 (M3 57 41) fun i6 =>
  (p_M_repeats f (M3 80 i4) (M3 81 i5) (M3 79 i6) M3).bind fun q7 =>
  if q7.1 = 0 then (some (.inr (0, q7.2)))
  else (some (.inl q7.2)))
  else (some (.inr (1, q1.2))))
  else (some (.inr (1, q1.2)))
def p_M_readsItem_X4 (f : Nat) : (Int × oM) ⊕ (oM) → Option (Int × oM)
  | .inl q => some q
  | .inr M =>
  lt (M 57 42) fun x8 =>
  lt (M 57 43) fun x9 =>
  (p_M_here f  M).bind fun q10 =>
  (p_M_in f q10.1 97 106 q10.2).bind fun q11 =>
  if q11.1 = 0 then ((p_M_wrongAt f 1 (q11.2 57 8) q11.2).bind fun q20 =>
  bnd 2 q20.1 fun b21 => some (b21, q20.2))
  else (if 60 < w32 ((q11.2 57 40) + x9) then ((p_M_wrongAt f 6 x8 q11.2).bind fun q18 =>
  bnd 2 q18.1 fun b19 => some (b19, q18.2))
  else ((p_M_here f  q11.2).bind fun q12 =>
  bnd 60 (q11.2 57 40) fun i13 =>
  lt (oU q12.2 78 i13 (w32 (q12.1 - 97))) fun M14 =>
  lt (oU M14 57 40 (w32 ((M14 57 40) + 1))) fun M15 =>
  lt (oU M15 57 8 (w32 ((M15 57 8) + 1))) fun M16 =>
  (p_M_repeats f (w32 ((M16 57 40) - 1)) x9 x8 M16).bind fun q17 =>
  if q17.1 = 0 then (some (0, q17.2))
  else (iter (p_M_readsItem_L203 f) f q17.2)))
def p_M_readsItem_L4 (f : Nat) : oM → Option ((oM) ⊕ ((Int × oM) ⊕ (oM)))
  | M =>
  (p_M_here f  M).bind fun q22 =>
  if q22.1 = 40 then (if q22.2 57 41 = 2 then ((p_M_wrongAt f 5 (q22.2 57 8) q22.2).bind fun q32 =>
  bnd 2 q32.1 fun b33 => some (.inr (.inl (b33, q32.2))))
  else (bnd 2 (q22.2 57 41) fun i23 =>
  lt (oU q22.2 79 i23 (q22.2 57 42)) fun M24 =>
  bnd 2 (M24 57 41) fun i25 =>
  lt (oU M24 80 i25 (M24 57 40)) fun M26 =>
  bnd 2 (M26 57 41) fun i27 =>
  lt (oU M26 81 i27 (M26 57 43)) fun M28 =>
  lt (oU M28 57 41 (w32 ((M28 57 41) + 1))) fun M29 =>
  lt (oU M29 57 8 (w32 ((M29 57 8) + 1))) fun M30 =>
  (p_M_readsTimes f  M30).bind fun q31 =>
  some (.inl q31.2)))
  else (some (.inr (.inr q22.2)))
def p_M_readsItem (f : Nat) (M : oM) : Option (Int × oM) :=
  (p_M_readsTimes f  M).bind fun q34 =>
  (iter (p_M_readsItem_L4 f) f q34.2).bind (p_M_readsItem_X4 f)
def p_M_readsRoute_B55_25 (f : Nat) (l2 : Int) (M : oM) : Option ((Int × oM) ⊕ (Int × oM)) :=
  lt (oU M 57 7 0) fun M1 =>
  if l2 = 0 then (some (.inr (M1 57 10, M1)))
  else (some (.inr (0, M1)))
def p_M_readsRoute_B47_25 (f : Nat) (M : oM) : Option ((Int × oM) ⊕ (Int × oM)) :=
  (p_M_readsItem f  M).bind fun q2 =>
  some (.inl (q2.1, q2.2))
def p_M_readsRoute_L25 (f : Nat) : Int × oM → Option ((Int × oM) ⊕ (Int × oM))
  | (l2, M) =>
  if l2 = 0 then (p_M_readsRoute_B55_25 f l2 M)
  else (if M 57 8 < M 57 9 then (p_M_readsRoute_B47_25 f M)
  else (if 0 < M 57 41 then (p_M_readsRoute_B47_25 f M)
  else (p_M_readsRoute_B55_25 f l2 M)))
def p_M_readsRoute (f : Nat) (l1 : Int) (M : oM) : Option (Int × oM) :=
  lt (oU M 57 8 0) fun M3 =>
  lt (oU M3 57 9 l1) fun M4 =>
  lt (oU M4 57 40 0) fun M5 =>
  lt (oU M5 57 41 0) fun M6 =>
  (p_M_readsItem f  M6).bind fun q7 =>
  iter (p_M_readsRoute_L25 f) f (q7.1, q7.2)
def p_M_walksRoute_L10 (f : Nat) : oM → Option ((oM) ⊕ (Int × oM))
  | M =>
  if M 57 44 < M 57 40 then (bnd 159 151 fun i1 =>
  lt (M 58 i1) fun x2 =>
  bnd 60 (M 57 44) fun i3 =>
  lt (M 78 i3) fun x4 =>
  (p_M_debtOf f x2 x4 M).bind fun q5 =>
  if q5.1 = 0 then (some (.inr (0, q5.2)))
  else ((p_M_wayOf f x2 x4 q5.2).bind fun q6 =>
  lt (oU q6.2 57 45 (w32 ((q5.2 57 45) + q6.1))) fun M7 =>
  (p_M_pays f x2 x4 M7).bind fun q8 =>
  lt (oU q8.2 57 44 (w32 ((q8.2 57 44) + 1))) fun M9 =>
  some (.inl M9)))
  else (some (.inr (0, M)))
def p_M_walksRoute (f : Nat) (M : oM) : Option (Int × oM) :=
  lt (oU M 57 44 0) fun M10 =>
  lt (oU M10 57 45 0) fun M11 =>
  iter (p_M_walksRoute_L10 f) f M11
def p_M_route (f : Nat) (l1 : Int) (l2 : Int) (M : oM) : Option (Int × oM) :=
  (p_M_in f l1 1 60 M).bind fun q1 =>
  if q1.1 = 0 then (some ((-1), q1.2))
  else ((p_M_in f l2 0 2 q1.2).bind fun q2 =>
  if q2.1 = 0 then (some ((-1), q2.2))
  else (if q2.2 57 7 < l1 then (some ((-1), q2.2))
  else ((p_M_readsRoute f l1 q2.2).bind fun q3 =>
  if q3.1 = 0 then (bnd 159 151 fun i4 =>
  if q3.2 58 i4 < 0 then (some ((-2), q3.2))
  else ((p_M_copies f 58 59  q3.2).bind fun q5 =>
  (p_M_walksRoute f  q5.2).bind fun q6 =>
  bnd 159 151 fun i7 =>
  lt (q6.2 58 i7) fun x8 =>
  (p_M_copies f 59 58  q6.2).bind fun q9 =>
  if l2 = 0 then (some (q9.2 57 44, q9.2))
  else (if l2 = 1 then (some (q9.2 57 45, q9.2))
  else (some (x8, q9.2)))))
  else (some (q3.1, q3.2)))))
def p_M_walk (f : Nat) (l1 : Int) (M : oM) : Option (Int × oM) :=
  (p_M_in f l1 1 60 M).bind fun q1 =>
  if q1.1 = 0 then (some ((-1), q1.2))
  else (if q1.2 57 7 < l1 then (some ((-1), q1.2))
  else ((p_M_readsRoute f l1 q1.2).bind fun q2 =>
  if q2.1 = 0 then (bnd 159 151 fun i3 =>
  if q2.2 58 i3 < 0 then (some ((-2), q2.2))
  else ((p_M_walksRoute f  q2.2).bind fun q4 =>
  some (q4.2 57 44, q4.2)))
  else (some (q2.1, q2.2))))
def p_M_leftOf (f : Nat) (l1 : Int) (l2 : Int) (M : oM) : Option (Int × oM) :=
  bnd 100 (w32 ((w32 (10 * l1)) + l2)) fun i1 =>
  some (M 82 i1, M)
def p_M_reachLeft_X16 (f : Nat) (l3 : Int) : Int × oM → Option ((Int × Int × oM) ⊕ (Int × oM))
  | (l2, M) =>
  some (.inl (l2, l3, M))
def p_M_reachLeft_X26 (f : Nat) (l3 : Int) (l4 : Int) : Int × oM → Option ((Int × Int × oM) ⊕ (Int × oM))
  | (l2, M) =>
  lt (w32 (l4 + 1)) fun x1 =>
  some (.inl (l2, x1, M))
def p_M_reachLeft_B60_26 (f : Nat) (l2 : Int) (l3 : Int) (l4 : Int) (l5 : Int) (M : oM) : Option ((Int × Int × oM) ⊕ (Int × oM)) :=
  lt (w32 (l5 + 1)) fun x2 =>
  some (.inl (l2, x2, M))
def p_M_reachLeft_L26 (f : Nat) (l3 : Int) (l4 : Int) : Int × Int × oM → Option ((Int × Int × oM) ⊕ (Int × oM))
  | (l2, l5, M) =>
  if l5 < 10 then ((p_M_has f l2 l4 M).bind fun q3 =>
  if q3.1 = 0 then (p_M_reachLeft_B60_26 f l2 l3 l4 l5 q3.2)
  else ((p_M_leftOf f l4 l5 q3.2).bind fun q4 =>
  if 0 < q4.1 then (lt (ior l2 (ishl 1 l5)) fun x5 =>
  p_M_reachLeft_B60_26 f x5 l3 l4 l5 q4.2)
  else (p_M_reachLeft_B60_26 f l2 l3 l4 l5 q4.2)))
  else (some (.inr (l2, M)))
def p_M_reachLeft_L16 (f : Nat) (l3 : Int) : Int × Int × oM → Option ((Int × Int × oM) ⊕ (Int × oM))
  | (l2, l4, M) =>
  if l4 < 10 then ((iter (p_M_reachLeft_L26 f l3 l4) f (l2, 0, M)).bind (p_M_reachLeft_X26 f l3 l4))
  else (some (.inr (l2, M)))
def p_M_reachLeft_L6 (f : Nat) : Int × Int × oM → Option ((Int × Int × oM) ⊕ (Int × oM))
  | (l2, l3, M) =>
  if l2 = l3 then (some (.inr (l2, M)))
  else ((iter (p_M_reachLeft_L16 f l2) f (l2, 0, M)).bind (p_M_reachLeft_X16 f l2))
def p_M_reachLeft (f : Nat) (l1 : Int) (M : oM) : Option (Int × oM) :=
  lt (ishl 1 l1) fun x6 =>
  iter (p_M_reachLeft_L6 f) f (x6, 0, M)
def p_M_isRow_B144_14 (f : Nat) (M : oM) : Option ((Int × Int × Int × oM) ⊕ (Int × oM)) :=
  some (.inr (1, M))
def p_M_isRow_B133_14 (f : Nat) (l3 : Int) (l4 : Int) (M : oM) : Option ((Int × Int × Int × oM) ⊕ (Int × oM)) :=
  if l3 = 1 then (if l4 = 1 then (p_M_isRow_B144_14 f M)
  else (some (.inr (0, M))))
  else (some (.inr (0, M)))
def p_M_isRow_B118_14 (f : Nat) (l1 : Int) (l2 : Int) (l3 : Int) (l4 : Int) (l5 : Int) (M : oM) : Option ((Int × Int × Int × oM) ⊕ (Int × oM)) :=
  lt (w32 (l5 + 1)) fun x1 =>
  some (.inl (l3, l4, x1, M))
def p_M_isRow_B105_14 (f : Nat) (l1 : Int) (l2 : Int) (l3 : Int) (l4 : Int) (l5 : Int) (l6 : Int) (l7 : Int) (M : oM) : Option ((Int × Int × Int × oM) ⊕ (Int × oM)) :=
  if l5 = l1 then (lt (w32 (l6 - l7)) fun x2 =>
  p_M_isRow_B118_14 f l1 l2 l3 x2 l5 M)
  else (p_M_isRow_B118_14 f l1 l2 l3 l4 l5 M)
def p_M_isRow_B83_14 (f : Nat) (l1 : Int) (l2 : Int) (l3 : Int) (l4 : Int) (l5 : Int) (l6 : Int) (l7 : Int) (M : oM) : Option ((Int × Int × Int × oM) ⊕ (Int × oM)) :=
  if w32 (l7 + 1) < l6 then (some (.inr (0, M)))
  else (if l7 < l6 then (lt (w32 (l3 + 1)) fun x3 =>
  p_M_isRow_B105_14 f l1 l2 x3 l4 l5 l6 l7 M)
  else (p_M_isRow_B105_14 f l1 l2 l3 l4 l5 l6 l7 M))
def p_M_isRow_X30 (f : Nat) (l1 : Int) (l2 : Int) (l3 : Int) (l4 : Int) (l5 : Int) : Int × Int × oM → Option ((Int × Int × Int × oM) ⊕ (Int × oM))
  | (l6, l7, M) =>
  if 0 < l6 then ((p_M_has f l2 l5 M).bind fun q4 =>
  if q4.1 = 0 then (some (.inr (0, q4.2)))
  else (p_M_isRow_B83_14 f l1 l2 l3 l4 l5 l6 l7 q4.2))
  else (p_M_isRow_B83_14 f l1 l2 l3 l4 l5 l6 l7 M)
def p_M_isRow_L30 (f : Nat) (l1 : Int) (l2 : Int) (l3 : Int) (l4 : Int) (l5 : Int) : Int × Int × Int × oM → Option ((Int × Int × Int × oM) ⊕ (Int × Int × oM))
  | (l6, l7, l8, M) =>
  if l8 < 10 then ((p_M_leftOf f l5 l8 M).bind fun q5 =>
  lt (w32 (l6 + q5.1)) fun x6 =>
  (p_M_leftOf f l8 l5 q5.2).bind fun q7 =>
  lt (w32 (l7 + q7.1)) fun x8 =>
  lt (w32 (l8 + 1)) fun x9 =>
  some (.inl (x6, x8, x9, q7.2)))
  else (some (.inr (l6, l7, M)))
def p_M_isRow_L14 (f : Nat) (l1 : Int) (l2 : Int) : Int × Int × Int × oM → Option ((Int × Int × Int × oM) ⊕ (Int × oM))
  | (l3, l4, l5, M) =>
  if l5 < 10 then ((iter (p_M_isRow_L30 f l1 l2 l3 l4 l5) f (0, 0, 0, M)).bind (p_M_isRow_X30 f l1 l2 l3 l4 l5))
  else (if l3 = 0 then (if l4 = 0 then (p_M_isRow_B144_14 f M)
  else (p_M_isRow_B133_14 f l3 l4 M))
  else (p_M_isRow_B133_14 f l3 l4 M))
def p_M_isRow (f : Nat) (l1 : Int) (M : oM) : Option (Int × oM) :=
  (p_M_reachLeft f l1 M).bind fun q10 =>
  iter (p_M_isRow_L14 f l1 q10.1) f (0, 0, 0, q10.2)
def p_M_canGo (f : Nat) (l1 : Int) (l2 : Int) (M : oM) : Option (Int × oM) :=
  (p_M_leftOf f l1 l2 M).bind fun q1 =>
  if q1.1 = 0 then (some (0, q1.2))
  else ((p_M_leftOf f l1 l2 q1.2).bind fun q2 =>
  bnd 100 (w32 ((w32 (10 * l1)) + l2)) fun i3 =>
  lt (oU q2.2 82 i3 (w32 (q2.1 - 1))) fun M4 =>
  (p_M_isRow f l2 M4).bind fun q5 =>
  (p_M_leftOf f l1 l2 q5.2).bind fun q6 =>
  bnd 100 (w32 ((w32 (10 * l1)) + l2)) fun i7 =>
  lt (oU q6.2 82 i7 (w32 (q6.1 + 1))) fun M8 =>
  bnd 2 q5.1 fun b9 => some (b9, M8))
def p_M_laysTour_X52 (f : Nat) (l2 : Int) (l3 : Int) (l4 : Int) : Int × oM → Option ((Int × Int × oM) ⊕ (Int × oM))
  | (l5, M) =>
  (p_M_leftOf f l3 l5 M).bind fun q1 =>
  bnd 100 (w32 ((w32 (10 * l3)) + l5)) fun i2 =>
  lt (oU q1.2 82 i2 (w32 (q1.1 - 1))) fun M3 =>
  bnd 60 l4 fun i4 =>
  lt (oU M3 83 i4 l5) fun M5 =>
  lt (w32 (l4 + 1)) fun x6 =>
  some (.inl (l5, x6, M5))
def p_M_laysTour_L52 (f : Nat) (l2 : Int) (l3 : Int) (l4 : Int) : Int × oM → Option ((Int × oM) ⊕ (Int × oM))
  | (l5, M) =>
  (p_M_canGo f l3 l5 M).bind fun q7 =>
  if q7.1 = 0 then (lt (w32 (l5 + 1)) fun x8 =>
  some (.inl (x8, q7.2)))
  else (some (.inr (l5, q7.2)))
def p_M_laysTour_L43 (f : Nat) (l2 : Int) : Int × Int × oM → Option ((Int × Int × oM) ⊕ (Int × oM))
  | (l3, l4, M) =>
  if l4 < l2 then ((iter (p_M_laysTour_L52 f l2 l3 l4) f (0, M)).bind (p_M_laysTour_X52 f l2 l3 l4))
  else (some (.inr (1, M)))
def p_M_laysTour_X2 (f : Nat) (l1 : Int) (l2 : Int) : oM → Option (Int × oM)
  | M =>
  (p_M_isRow f l1 M).bind fun q9 =>
  if q9.1 = 0 then (some (0, q9.2))
  else (iter (p_M_laysTour_L43 f l2) f (l1, 0, q9.2))
def p_M_laysTour_L2 (f : Nat) (l1 : Int) (l2 : Int) : Int × oM → Option ((Int × oM) ⊕ (oM))
  | (l3, M) =>
  if l3 < 100 then (bnd 159 (w32 (0 + l3)) fun i10 =>
  bnd 100 l3 fun i11 =>
  lt (oU M 82 i11 (M 58 i10)) fun M12 =>
  lt (w32 (l3 + 1)) fun x13 =>
  some (.inl (x13, M12)))
  else (some (.inr M))
def p_M_laysTour (f : Nat) (l1 : Int) (l2 : Int) (M : oM) : Option (Int × oM) :=
  (iter (p_M_laysTour_L2 f l1 l2) f (0, M)).bind (p_M_laysTour_X2 f l1 l2)
def p_M_tour_B143 (f : Nat) (M : oM) : Option (Int × oM) :=
  some (1, M)
def p_M_tour_B107 (f : Nat) (l1 : Int) (l2 : Int) (M : oM) : Option (Int × oM) :=
  if l1 < 100 then (bnd 60 l1 fun i3 =>
  some (M 83 i3, M))
  else (if l2 = 0 then (p_M_tour_B143 f M)
  else (bnd 60 (w32 (l2 - 1)) fun i1 =>
  bnd 159 151 fun i2 =>
  if M 83 i1 = M 58 i2 then (p_M_tour_B143 f M)
  else (some (0, M))))
def p_M_tour_B23 (f : Nat) (l1 : Int) (M : oM) : Option (Int × oM) :=
  bnd 159 151 fun i4 =>
  if M 58 i4 < 0 then (some ((-2), M))
  else ((p_M_owedInAll f  M).bind fun q5 =>
  if 60 < q5.1 then (some ((-3), q5.2))
  else (if l1 = 101 then (some (q5.1, q5.2))
  else (bnd 159 151 fun i6 =>
  (p_M_laysTour f (q5.2 58 i6) q5.1 q5.2).bind fun q7 =>
  if l1 = 100 then (if q7.1 = 0 then (some (0, q7.2))
  else (some (1, q7.2)))
  else (if q7.1 = 0 then (some ((-4), q7.2))
  else (if l1 < 100 then (if l1 < q5.1 then (p_M_tour_B107 f l1 q5.1 q7.2)
  else (some ((-4), q7.2)))
  else (p_M_tour_B107 f l1 q5.1 q7.2))))))
def p_M_tour (f : Nat) (l1 : Int) (M : oM) : Option (Int × oM) :=
  (p_M_in f l1 0 59 M).bind fun q8 =>
  if q8.1 = 0 then ((p_M_in f l1 100 102 q8.2).bind fun q9 =>
  if q9.1 = 0 then (some ((-1), q9.2))
  else (p_M_tour_B23 f l1 q9.2))
  else (p_M_tour_B23 f l1 q8.2)
def p_M_bestCoin_B99_5 (f : Nat) (l1 : Int) (l2 : Int) (l3 : Int) (l4 : Int) (M : oM) : Option ((Int × Int × oM) ⊕ (Int × oM)) :=
  lt (w32 (l4 + 1)) fun x1 =>
  some (.inl (l3, x1, M))
def p_M_bestCoin_B96_5 (f : Nat) (l1 : Int) (l2 : Int) (l4 : Int) (M : oM) : Option ((Int × Int × oM) ⊕ (Int × oM)) :=
  p_M_bestCoin_B99_5 f l1 l2 l4 l4 M
def p_M_bestCoin_L5 (f : Nat) (l1 : Int) (l2 : Int) : Int × Int × oM → Option ((Int × Int × oM) ⊕ (Int × oM))
  | (l3, l4, M) =>
  if l4 < M 57 50 then (bnd 12 l4 fun i2 =>
  if M 84 i2 = l2 then ((p_M_has f l1 l4 M).bind fun q3 =>
  if q3.1 = 0 then (bnd 12 l4 fun i4 =>
  bnd 40960 (w32 ((w32 (10 * (ior l1 (ishl 1 l4)))) + (q3.2 85 i4))) fun i5 =>
  bnd 40960 (w32 ((w32 (10 * l1)) + l2)) fun i6 =>
  if w32 (1 + (q3.2 86 i5)) = q3.2 86 i6 then (if l3 = (-1) then (p_M_bestCoin_B96_5 f l1 l2 l4 q3.2)
  else (bnd 12 l4 fun i7 =>
  bnd 12 l3 fun i8 =>
  if q3.2 85 i7 < q3.2 85 i8 then (p_M_bestCoin_B96_5 f l1 l2 l4 q3.2)
  else (p_M_bestCoin_B99_5 f l1 l2 l3 l4 q3.2)))
  else (p_M_bestCoin_B99_5 f l1 l2 l3 l4 q3.2))
  else (p_M_bestCoin_B99_5 f l1 l2 l3 l4 q3.2))
  else (p_M_bestCoin_B99_5 f l1 l2 l3 l4 M))
  else (some (.inr (l3, M)))
def p_M_bestCoin (f : Nat) (l1 : Int) (l2 : Int) (M : oM) : Option (Int × oM) :=
  iter (p_M_bestCoin_L5 f l1 l2) f ((-1), 0, M)
def p_M_laysCoins_X25 (f : Nat) (l2 : Int) : oM → Option ((Int × oM) ⊕ (Int × oM))
  | M =>
  lt (w32 (l2 + 1)) fun x1 =>
  some (.inl (x1, M))
def p_M_laysCoins_X34 (f : Nat) (l2 : Int) (l3 : Int) : oM → Option ((Int × oM) ⊕ (oM))
  | M =>
  lt (w32 (l3 + 1)) fun x2 =>
  some (.inl (x2, M))
def p_M_laysCoins_L34 (f : Nat) (l2 : Int) (l3 : Int) : Int × oM → Option ((Int × oM) ⊕ (oM))
  | (l4, M) =>
  (p_M_debtOf f l2 l3 M).bind fun q3 =>
  if l4 < q3.1 then (bnd 12 (q3.2 57 50) fun i4 =>
  lt (oU q3.2 84 i4 l2) fun M5 =>
  bnd 12 (M5 57 50) fun i6 =>
  lt (oU M5 85 i6 l3) fun M7 =>
  lt (oU M7 57 50 (w32 ((M7 57 50) + 1))) fun M8 =>
  lt (w32 (l4 + 1)) fun x9 =>
  some (.inl (x9, M8)))
  else (some (.inr q3.2))
def p_M_laysCoins_L25 (f : Nat) (l2 : Int) : Int × oM → Option ((Int × oM) ⊕ (oM))
  | (l3, M) =>
  if l3 < 10 then ((iter (p_M_laysCoins_L34 f l2 l3) f (0, M)).bind (p_M_laysCoins_X34 f l2 l3))
  else (some (.inr M))
def p_M_laysCoins_L17 (f : Nat) : Int × oM → Option ((Int × oM) ⊕ (Int × oM))
  | (l2, M) =>
  if l2 < 10 then ((iter (p_M_laysCoins_L25 f l2) f (0, M)).bind (p_M_laysCoins_X25 f l2))
  else (some (.inr (1, M)))
def p_M_laysCoins (f : Nat) (l1 : Int) (M : oM) : Option (Int × oM) :=
  lt (oU M 57 50 0) fun M10 =>
  (p_M_owedInAll f  M10).bind fun q11 =>
  if l1 < q11.1 then (some (0, q11.2))
  else (iter (p_M_laysCoins_L17 f) f (0, q11.2))
def p_M_laysMore_X17 (f : Nat) (l2 : Int) : oM → Option ((Int × oM) ⊕ (Int × oM))
  | M =>
  lt (w32 (l2 + (-1))) fun x1 =>
  some (.inl (x1, M))
def p_M_laysMore_X29 (f : Nat) (l2 : Int) (l3 : Int) : Int × oM → Option ((Int × oM) ⊕ (oM))
  | (l4, M) =>
  bnd 40960 (w32 ((w32 (10 * l2)) + l3)) fun i2 =>
  lt (oU M 86 i2 (i2b (i2b l4))) fun M3 =>
  lt (w32 (l3 + 1)) fun x4 =>
  some (.inl (x4, M3))
def p_M_laysMore_B89_29 (f : Nat) (l2 : Int) (l3 : Int) (l4 : Int) (l5 : Int) (M : oM) : Option ((Int × Int × oM) ⊕ (Int × oM)) :=
  lt (w32 (l5 + 1)) fun x5 =>
  some (.inl (l4, x5, M))
def p_M_laysMore_L29 (f : Nat) (l2 : Int) (l3 : Int) : Int × Int × oM → Option ((Int × Int × oM) ⊕ (Int × oM))
  | (l4, l5, M) =>
  if l5 < M 57 50 then (bnd 12 l5 fun i6 =>
  if M 84 i6 = l3 then ((p_M_has f l2 l5 M).bind fun q7 =>
  if q7.1 = 0 then (bnd 12 l5 fun i8 =>
  bnd 40960 (w32 ((w32 (10 * (ior l2 (ishl 1 l5)))) + (q7.2 85 i8))) fun i9 =>
  (p_M_max f l4 (w32 (1 + (q7.2 86 i9))) q7.2).bind fun q10 =>
  p_M_laysMore_B89_29 f l2 l3 q10.1 l5 q10.2)
  else (p_M_laysMore_B89_29 f l2 l3 l4 l5 q7.2))
  else (p_M_laysMore_B89_29 f l2 l3 l4 l5 M))
  else (some (.inr (l4, M)))
def p_M_laysMore_L17 (f : Nat) (l2 : Int) : Int × oM → Option ((Int × oM) ⊕ (oM))
  | (l3, M) =>
  if l3 < 10 then ((iter (p_M_laysMore_L29 f l2 l3) f (0, 0, M)).bind (p_M_laysMore_X29 f l2 l3))
  else (some (.inr M))
def p_M_laysMore_L11 (f : Nat) : Int × oM → Option ((Int × oM) ⊕ (Int × oM))
  | (l2, M) =>
  if l2 < 0 then (some (.inr (0, M)))
  else ((iter (p_M_laysMore_L17 f l2) f (0, M)).bind (p_M_laysMore_X17 f l2))
def p_M_laysMore (f : Nat) (M : oM) : Option (Int × oM) :=
  lt (w32 ((ishl 1 (M 57 50)) - 1)) fun x11 =>
  iter (p_M_laysMore_L11 f) f (x11, M)
def p_M_most_L102 (f : Nat) (l1 : Int) : Int × Int × Int × oM → Option ((Int × Int × Int × oM) ⊕ (Int × oM))
  | (l2, l3, l4, M) =>
  if l1 < l4 then (some (.inr (l3, M)))
  else ((p_M_bestCoin f l2 l3 M).bind fun q1 =>
  lt (ior l2 (ishl 1 q1.1)) fun x2 =>
  bnd 12 q1.1 fun i3 =>
  lt (q1.2 85 i3) fun x4 =>
  lt (w32 (l4 + 1)) fun x5 =>
  some (.inl (x2, x4, x5, q1.2)))
def p_M_most_B18 (f : Nat) (l1 : Int) (M : oM) : Option (Int × oM) :=
  bnd 159 151 fun i6 =>
  if M 58 i6 < 0 then (some ((-2), M))
  else ((p_M_laysCoins f 12 M).bind fun q7 =>
  if q7.1 = 0 then (some ((-3), q7.2))
  else ((p_M_laysMore f  q7.2).bind fun q8 =>
  if l1 = 100 then (bnd 159 151 fun i13 =>
  bnd 40960 (q8.2 58 i13) fun i14 =>
  some (q8.2 86 i14, q8.2))
  else (bnd 159 151 fun i9 =>
  bnd 40960 (q8.2 58 i9) fun i10 =>
  if l1 < q8.2 86 i10 then (bnd 159 151 fun i11 =>
  lt (q8.2 58 i11) fun x12 =>
  iter (p_M_most_L102 f l1) f (0, x12, 0, q8.2))
  else (some ((-4), q8.2)))))
def p_M_most (f : Nat) (l1 : Int) (M : oM) : Option (Int × oM) :=
  (p_M_in f l1 0 11 M).bind fun q15 =>
  if q15.1 = 0 then (if l1 = 100 then (p_M_most_B18 f l1 q15.2)
  else (some ((-1), q15.2)))
  else (p_M_most_B18 f l1 q15.2)
def p_M_laysBack_X102 (f : Nat) (l1 : Int) : oM → Option ((Int × oM) ⊕ (Int × oM))
  | M =>
  lt (w32 (l1 + 1)) fun x1 =>
  some (.inl (x1, M))
def p_M_laysBack_X110 (f : Nat) (l1 : Int) (l2 : Int) : oM → Option ((Int × oM) ⊕ (oM))
  | M =>
  lt (w32 (l2 + 1)) fun x2 =>
  some (.inl (x2, M))
def p_M_laysBack_L110 (f : Nat) (l1 : Int) (l2 : Int) : Int × oM → Option ((Int × oM) ⊕ (oM))
  | (l3, M) =>
  if l3 < 10 then (bnd 100 (w32 ((w32 (10 * l2)) + l3)) fun i3 =>
  bnd 100 (w32 ((w32 (10 * l2)) + l1)) fun i4 =>
  bnd 100 (w32 ((w32 (10 * l1)) + l3)) fun i5 =>
  (p_M_min f (M 87 i3) (w32 ((M 87 i4) + (M 87 i5))) M).bind fun q6 =>
  bnd 100 (w32 ((w32 (10 * l2)) + l3)) fun i7 =>
  lt (oU q6.2 87 i7 q6.1) fun M8 =>
  bnd 100 (w32 ((w32 (10 * l2)) + l3)) fun i9 =>
  bnd 100 (w32 ((w32 (10 * l2)) + l1)) fun i10 =>
  bnd 100 (w32 ((w32 (10 * l1)) + l3)) fun i11 =>
  (p_M_min f (M8 88 i9) (w32 ((M8 88 i10) + (M8 88 i11))) M8).bind fun q12 =>
  bnd 100 (w32 ((w32 (10 * l2)) + l3)) fun i13 =>
  lt (oU q12.2 88 i13 q12.1) fun M14 =>
  lt (w32 (l3 + 1)) fun x15 =>
  some (.inl (x15, M14)))
  else (some (.inr M))
def p_M_laysBack_L102 (f : Nat) (l1 : Int) : Int × oM → Option ((Int × oM) ⊕ (oM))
  | (l2, M) =>
  if l2 < 10 then ((iter (p_M_laysBack_L110 f l1 l2) f (0, M)).bind (p_M_laysBack_X110 f l1 l2))
  else (some (.inr M))
def p_M_laysBack_L94 (f : Nat) : Int × oM → Option ((Int × oM) ⊕ (Int × oM))
  | (l1, M) =>
  if l1 < 10 then ((iter (p_M_laysBack_L102 f l1) f (0, M)).bind (p_M_laysBack_X102 f l1))
  else (some (.inr (0, M)))
def p_M_laysBack_X2 (f : Nat) : oM → Option (Int × oM)
  | M =>
  iter (p_M_laysBack_L94 f) f (0, M)
def p_M_laysBack_X10 (f : Nat) (l1 : Int) : oM → Option ((Int × oM) ⊕ (oM))
  | M =>
  lt (w32 (l1 + 1)) fun x16 =>
  some (.inl (x16, M))
def p_M_laysBack_B79_10 (f : Nat) (l1 : Int) (l2 : Int) (s1 : Int) (s2 : Int) (M : oM) : Option ((Int × oM) ⊕ (oM)) :=
  bnd 100 s1 fun i17 =>
  lt (oU M 88 i17 s2) fun M18 =>
  lt (w32 (l2 + 1)) fun x19 =>
  some (.inl (x19, M18))
def p_M_laysBack_B52_10 (f : Nat) (l1 : Int) (l2 : Int) (l3 : Int) (s1 : Int) (s2 : Int) (M : oM) : Option ((Int × oM) ⊕ (oM)) :=
  bnd 100 s1 fun i20 =>
  lt (oU M 87 i20 s2) fun M21 =>
  if l3 = 0 then (p_M_laysBack_B79_10 f l1 l2 (w32 ((w32 (10 * l1)) + l2)) 1000000 M21)
  else ((p_M_wayOf f l1 l2 M21).bind fun q22 =>
  p_M_laysBack_B79_10 f l1 l2 (w32 ((w32 (10 * l1)) + l2)) q22.1 q22.2)
def p_M_laysBack_B30_10 (f : Nat) (l1 : Int) (l2 : Int) (s0 : Int) (M : oM) : Option ((Int × oM) ⊕ (oM)) :=
  if s0 = 0 then (p_M_laysBack_B52_10 f l1 l2 s0 (w32 ((w32 (10 * l1)) + l2)) 1000000 M)
  else (p_M_laysBack_B52_10 f l1 l2 s0 (w32 ((w32 (10 * l1)) + l2)) 1 M)
def p_M_laysBack_L10 (f : Nat) (l1 : Int) : Int × oM → Option ((Int × oM) ⊕ (oM))
  | (l2, M) =>
  if l2 < 10 then ((p_M_debtOf f l1 l2 M).bind fun q23 =>
  if 0 < q23.1 then (p_M_laysBack_B30_10 f l1 l2 1 q23.2)
  else (p_M_laysBack_B30_10 f l1 l2 0 q23.2))
  else (some (.inr M))
def p_M_laysBack_L2 (f : Nat) : Int × oM → Option ((Int × oM) ⊕ (oM))
  | (l1, M) =>
  if l1 < 10 then ((iter (p_M_laysBack_L10 f l1) f (0, M)).bind (p_M_laysBack_X10 f l1))
  else (some (.inr M))
def p_M_laysBack (f : Nat) (M : oM) : Option (Int × oM) :=
  (iter (p_M_laysBack_L2 f) f (0, M)).bind (p_M_laysBack_X2 f)
def p_M_back_B48 (f : Nat) (s0 : Int) (M : oM) : Option (Int × oM) :=
  if s0 < 1000000 then (some (s0, M))
  else (some ((-2), M))
def p_M_back (f : Nat) (l1 : Int) (l2 : Int) (M : oM) : Option (Int × oM) :=
  (p_M_isPerson f l1 M).bind fun q1 =>
  if q1.1 = 0 then (some ((-1), q1.2))
  else ((p_M_in f l2 0 1 q1.2).bind fun q2 =>
  if q2.1 = 0 then (some ((-1), q2.2))
  else ((p_M_laysBack f  q2.2).bind fun q3 =>
  if l2 = 0 then (bnd 100 (w32 (11 * l1)) fun i5 =>
  p_M_back_B48 f (q3.2 87 i5) q3.2)
  else (bnd 100 (w32 (11 * l1)) fun i4 =>
  p_M_back_B48 f (q3.2 88 i4) q3.2)))
def p_M_hoursOfRow_L4 (f : Nat) (l1 : Int) : Int × Int × oM → Option ((Int × Int × oM) ⊕ (Int × oM))
  | (l2, l3, M) =>
  if l3 < l1 then (bnd 6 l3 fun i1 =>
  bnd 6 l3 fun i2 =>
  bnd 6 (M 91 i2) fun i3 =>
  (p_M_wayOf f (M 89 i1) (M 90 i3) M).bind fun q4 =>
  lt (w32 (l2 + q4.1)) fun x5 =>
  lt (w32 (l3 + 1)) fun x6 =>
  some (.inl (x5, x6, q4.2)))
  else (some (.inr (l2, M)))
def p_M_hoursOfRow (f : Nat) (l1 : Int) (M : oM) : Option (Int × oM) :=
  iter (p_M_hoursOfRow_L4 f l1) f (0, 0, M)
def p_M_setOffOf (f : Nat) (l1 : Int) (M : oM) : Option (Int × oM) :=
  (p_M_getsAll f l1 M).bind fun q1 =>
  (p_M_owesAll f l1 q1.2).bind fun q2 =>
  some (w32 (q1.1 - q2.1), q2.2)
def p_M_laysLacks_X68 (f : Nat) (l2 : Int) (l3 : Int) : Int × oM → Option ((Int × Int × oM) ⊕ (Int × oM))
  | (l1, M) =>
  lt (w32 (l2 + 1)) fun x1 =>
  some (.inl (l1, x1, M))
def p_M_laysLacks_B88_68 (f : Nat) (l1 : Int) (l2 : Int) (l3 : Int) (l4 : Int) (M : oM) : Option ((Int × Int × oM) ⊕ (Int × oM)) :=
  lt (w32 (l1 + 1)) fun x2 =>
  lt (w32 (l4 + 1)) fun x3 =>
  some (.inl (x2, x3, M))
def p_M_laysLacks_L68 (f : Nat) (l2 : Int) (l3 : Int) : Int × Int × oM → Option ((Int × Int × oM) ⊕ (Int × oM))
  | (l1, l4, M) =>
  if l4 < w32 (-l3) then (if l1 < 6 then (bnd 6 l1 fun i4 =>
  lt (oU M 90 i4 l2) fun M5 =>
  p_M_laysLacks_B88_68 f l1 l2 l3 l4 M5)
  else (p_M_laysLacks_B88_68 f l1 l2 l3 l4 M))
  else (some (.inr (l1, M)))
def p_M_laysLacks_X24 (f : Nat) (l1 : Int) (l2 : Int) (l3 : Int) : oM → Option ((Int × Int × oM) ⊕ (Int × oM))
  | M =>
  (iter (p_M_laysLacks_L68 f l2 l3) f (l1, 0, M)).bind (p_M_laysLacks_X68 f l2 l3)
def p_M_laysLacks_B49_24 (f : Nat) (l1 : Int) (l2 : Int) (l3 : Int) (l4 : Int) (M : oM) : Option ((Int × oM) ⊕ (oM)) :=
  lt (oU M 57 58 (w32 ((M 57 58) + 1))) fun M6 =>
  lt (w32 (l4 + 1)) fun x7 =>
  some (.inl (x7, M6))
def p_M_laysLacks_L24 (f : Nat) (l1 : Int) (l2 : Int) (l3 : Int) : Int × oM → Option ((Int × oM) ⊕ (oM))
  | (l4, M) =>
  if l4 < l3 then (if M 57 58 < 6 then (bnd 6 (M 57 58) fun i8 =>
  lt (oU M 89 i8 l2) fun M9 =>
  p_M_laysLacks_B49_24 f l1 l2 l3 l4 M9)
  else (p_M_laysLacks_B49_24 f l1 l2 l3 l4 M))
  else (some (.inr M))
def p_M_laysLacks_L9 (f : Nat) : Int × Int × oM → Option ((Int × Int × oM) ⊕ (Int × oM))
  | (l1, l2, M) =>
  if l2 < 10 then ((p_M_setOffOf f l2 M).bind fun q10 =>
  (iter (p_M_laysLacks_L24 f l1 l2 q10.1) f (0, q10.2)).bind (p_M_laysLacks_X24 f l1 l2 q10.1))
  else (some (.inr (0, M)))
def p_M_laysLacks (f : Nat) (M : oM) : Option (Int × oM) :=
  lt (oU M 57 58 0) fun M11 =>
  iter (p_M_laysLacks_L9 f) f (0, 0, M11)
def p_M_readsRow_L10 (f : Nat) (l2 : Int) : Int × Int × Int × oM → Option ((Int × Int × Int × oM) ⊕ (Int × oM))
  | (l3, l4, l5, M) =>
  if l5 < 0 then (some (.inr (1, M)))
  else (nz l2 fun z1 =>
  bnd 6 l5 fun i2 =>
  lt (oU M 91 i2 (Int.tmod l3 z1)) fun M3 =>
  nz l2 fun z4 =>
  lt (w32 (Int.tdiv l3 z4)) fun x5 =>
  bnd 6 l5 fun i6 =>
  (p_M_has f l4 (M3 91 i6) M3).bind fun q7 =>
  if q7.1 = 0 then (bnd 6 l5 fun i8 =>
  lt (ior l4 (ishl 1 (q7.2 91 i8))) fun x9 =>
  lt (w32 (l5 + (-1))) fun x10 =>
  some (.inl (x5, x9, x10, q7.2)))
  else (some (.inr (0, q7.2))))
def p_M_readsRow (f : Nat) (l1 : Int) (l2 : Int) (M : oM) : Option (Int × oM) :=
  lt (w32 (l2 - 1)) fun x11 =>
  iter (p_M_readsRow_L10 f l2) f (l1, 0, x11, M)
def p_M_even_B178_98 (f : Nat) (l1 : Int) (l2 : Int) (l3 : Int) (l4 : Int) (M : oM) : Option ((Int × Int × oM) ⊕ (Int × oM)) :=
  lt (w32 (l4 + 1)) fun x1 =>
  some (.inl (l3, x1, M))
def p_M_even_X144 (f : Nat) (l1 : Int) (l2 : Int) (l3 : Int) (l4 : Int) : oM → Option ((Int × Int × oM) ⊕ (Int × oM))
  | M =>
  p_M_even_B178_98 f l1 l2 l3 l4 M
def p_M_even_L144 (f : Nat) (l1 : Int) (l2 : Int) (l3 : Int) (l4 : Int) : Int × oM → Option ((Int × oM) ⊕ (oM))
  | (l5, M) =>
  if l5 < M 57 58 then (bnd 6 l5 fun i2 =>
  bnd 6 (M 91 i2) fun i3 =>
  bnd 6 l5 fun i4 =>
  lt (oU M 92 i4 (M 90 i3)) fun M5 =>
  lt (w32 (l5 + 1)) fun x6 =>
  some (.inl (x6, M5)))
  else (some (.inr M))
def p_M_even_L98 (f : Nat) (l1 : Int) (l2 : Int) : Int × Int × oM → Option ((Int × Int × oM) ⊕ (Int × oM))
  | (l3, l4, M) =>
  if l4 < l2 then ((p_M_readsRow f l4 (M 57 58) M).bind fun q8 =>
  if q8.1 = 0 then (p_M_even_B178_98 f l1 l2 l3 l4 q8.2)
  else ((p_M_hoursOfRow f (q8.2 57 58) q8.2).bind fun q9 =>
  if q9.1 < l3 then ((p_M_hoursOfRow f (q9.2 57 58) q9.2).bind fun q10 =>
  (iter (p_M_even_L144 f l1 l2 q10.1 l4) f (0, q10.2)).bind (p_M_even_X144 f l1 l2 q10.1 l4))
  else (p_M_even_B178_98 f l1 l2 l3 l4 q9.2)))
  else (if l1 = 101 then (some (.inr (l3, M)))
  else (bnd 6 l1 fun i7 =>
  some (.inr (M 92 i7, M))))
def p_M_even_X70 (f : Nat) (l1 : Int) : Int × oM → Option (Int × oM)
  | (l2, M) =>
  iter (p_M_even_L98 f l1 l2) f (1000000, 0, M)
def p_M_even_L70 (f : Nat) (l1 : Int) : Int × Int × oM → Option ((Int × Int × oM) ⊕ (Int × oM))
  | (l2, l3, M) =>
  if l3 < M 57 58 then (lt (w32 (l2 * (M 57 58))) fun x11 =>
  lt (w32 (l3 + 1)) fun x12 =>
  some (.inl (x11, x12, M)))
  else (some (.inr (l2, M)))
def p_M_even_B66 (f : Nat) (l1 : Int) (M : oM) : Option (Int × oM) :=
  (iter (p_M_even_L70 f l1) f (1, 0, M)).bind (p_M_even_X70 f l1)
def p_M_even_B22 (f : Nat) (l1 : Int) (M : oM) : Option (Int × oM) :=
  (p_M_laysLacks f  M).bind fun q13 =>
  if l1 = 100 then (some (q13.2 57 58, q13.2))
  else (if 6 < q13.2 57 58 then (some ((-3), q13.2))
  else (if l1 < 100 then (if l1 < q13.2 57 58 then (p_M_even_B66 f l1 q13.2)
  else (some ((-4), q13.2)))
  else (p_M_even_B66 f l1 q13.2)))
def p_M_even (f : Nat) (l1 : Int) (M : oM) : Option (Int × oM) :=
  (p_M_in f l1 0 5 M).bind fun q14 =>
  if q14.1 = 0 then ((p_M_in f l1 100 101 q14.2).bind fun q15 =>
  if q15.1 = 0 then (some ((-1), q15.2))
  else (p_M_even_B22 f l1 q15.2))
  else (p_M_even_B22 f l1 q14.2)
def p_M_bits_L4 (f : Nat) (l0 : Int) : Int × Int × oM → Option ((Int × Int × oM) ⊕ (Int × oM))
  | (l1, l2, M) =>
  if l2 < 12 then (lt (w32 (l1 + (iand (ishr l0 l2) 1))) fun x1 =>
  lt (w32 (l2 + 1)) fun x2 =>
  some (.inl (x1, x2, M)))
  else (some (.inr (l1, M)))
def p_M_bits (f : Nat) (l0 : Int) (M : oM) : Option (Int × oM) :=
  iter (p_M_bits_L4 f l0) f (0, 0, M)
def p_M_isEven_X13 (f : Nat) (l1 : Int) (l2 : Int) : Int × oM → Option ((Int × oM) ⊕ (Int × oM))
  | (l3, M) =>
  if l3 = 0 then (lt (w32 (l2 + 1)) fun x1 =>
  some (.inl (x1, M)))
  else (some (.inr (0, M)))
def p_M_isEven_B70_13 (f : Nat) (l1 : Int) (l2 : Int) (l3 : Int) (l4 : Int) (M : oM) : Option ((Int × Int × oM) ⊕ (Int × oM)) :=
  lt (w32 (l4 + 1)) fun x2 =>
  some (.inl (l3, x2, M))
def p_M_isEven_B54_13 (f : Nat) (l1 : Int) (l2 : Int) (l3 : Int) (l4 : Int) (l5 : Int) (M : oM) : Option ((Int × Int × oM) ⊕ (Int × oM)) :=
  bnd 12 l4 fun i3 =>
  if M 84 i3 = l2 then (lt (w32 (l3 - l5)) fun x4 =>
  p_M_isEven_B70_13 f l1 l2 x4 l4 M)
  else (p_M_isEven_B70_13 f l1 l2 l3 l4 M)
def p_M_isEven_B36_13 (f : Nat) (l1 : Int) (l2 : Int) (l3 : Int) (l4 : Int) (s0 : Int) (M : oM) : Option ((Int × Int × oM) ⊕ (Int × oM)) :=
  bnd 12 l4 fun i5 =>
  if M 85 i5 = l2 then (lt (w32 (l3 + s0)) fun x6 =>
  p_M_isEven_B54_13 f l1 l2 x6 l4 s0 M)
  else (p_M_isEven_B54_13 f l1 l2 l3 l4 s0 M)
def p_M_isEven_L13 (f : Nat) (l1 : Int) (l2 : Int) : Int × Int × oM → Option ((Int × Int × oM) ⊕ (Int × oM))
  | (l3, l4, M) =>
  if l4 < M 57 50 then ((p_M_has f l1 l4 M).bind fun q7 =>
  if q7.1 = 0 then (p_M_isEven_B36_13 f l1 l2 l3 l4 1 q7.2)
  else (p_M_isEven_B36_13 f l1 l2 l3 l4 (-1) q7.2))
  else (some (.inr (l3, M)))
def p_M_isEven_L2 (f : Nat) (l1 : Int) : Int × oM → Option ((Int × oM) ⊕ (Int × oM))
  | (l2, M) =>
  if l2 < 10 then ((iter (p_M_isEven_L13 f l1 l2) f (0, 0, M)).bind (p_M_isEven_X13 f l1 l2))
  else (some (.inr (1, M)))
def p_M_isEven (f : Nat) (l1 : Int) (M : oM) : Option (Int × oM) :=
  iter (p_M_isEven_L2 f l1) f (0, M)
def p_M_turned_B85_28 (f : Nat) (l2 : Int) (M : oM) : Option ((Int × Int × oM) ⊕ (Int × oM)) :=
  some (.inr (l2, M))
def p_M_turned_B68_28 (f : Nat) (l1 : Int) (l2 : Int) (l3 : Int) (M : oM) : Option ((Int × Int × oM) ⊕ (Int × oM)) :=
  lt (w32 (l3 + 1)) fun x1 =>
  some (.inl (l2, x1, M))
def p_M_turned_B55_28 (f : Nat) (l1 : Int) (l2 : Int) (l3 : Int) (M : oM) : Option ((Int × Int × oM) ⊕ (Int × oM)) :=
  (p_M_isEven f l3 M).bind fun q2 =>
  if q2.1 = 0 then (p_M_turned_B68_28 f l1 l2 l3 q2.2)
  else (p_M_turned_B68_28 f l1 l3 l3 q2.2)
def p_M_turned_L28 (f : Nat) (l1 : Int) : Int × Int × oM → Option ((Int × Int × oM) ⊕ (Int × oM))
  | (l2, l3, M) =>
  if l3 < ishl 1 (M 57 50) then (if l2 = (-2) then (p_M_turned_B55_28 f l1 l2 l3 M)
  else ((p_M_bits f l3 M).bind fun q4 =>
  (p_M_bits f l2 q4.2).bind fun q5 =>
  if q4.1 < q5.1 then (p_M_turned_B55_28 f l1 l2 l3 q5.2)
  else (p_M_turned_B68_28 f l1 l2 l3 q5.2)))
  else (if l1 = 1 then (p_M_turned_B85_28 f l2 M)
  else (if l2 = (-2) then (p_M_turned_B85_28 f l2 M)
  else ((p_M_bits f l2 M).bind fun q3 =>
  some (.inr (q3.1, q3.2)))))
def p_M_turned (f : Nat) (l1 : Int) (M : oM) : Option (Int × oM) :=
  (p_M_in f l1 0 1 M).bind fun q6 =>
  if q6.1 = 0 then (some ((-1), q6.2))
  else ((p_M_laysCoins f 12 q6.2).bind fun q7 =>
  if q7.1 = 0 then (some ((-3), q7.2))
  else (iter (p_M_turned_L28 f l1) f ((-2), 0, q7.2)))
def p_M_setOff (f : Nat) (l1 : Int) (M : oM) : Option (Int × oM) :=
  (p_M_isPerson f l1 M).bind fun q1 =>
  if q1.1 = 0 then (some ((-1000000), q1.2))
  else ((p_M_setOffOf f l1 q1.2).bind fun q2 =>
  some (q2.1, q2.2))
def p_M_laysGroups_B120_2 (f : Nat) (l1 : Int) (M : oM) : Option ((Int × oM) ⊕ (Int × oM)) :=
  lt (w32 (l1 + 1)) fun x1 =>
  some (.inl (x1, M))
def p_M_laysGroups_X25 (f : Nat) (l1 : Int) : oM → Option ((Int × oM) ⊕ (Int × oM))
  | M =>
  if l1 = 0 then (p_M_laysGroups_B120_2 f l1 M)
  else (bnd 1024 l1 fun i2 =>
  if M 93 i2 = 0 then (bnd 1024 l1 fun i3 =>
  bnd 1024 l1 fun i4 =>
  lt (oU M 94 i4 (w32 ((M 94 i3) + 1))) fun M5 =>
  p_M_laysGroups_B120_2 f l1 M5)
  else (p_M_laysGroups_B120_2 f l1 M))
def p_M_laysGroups_B87_25 (f : Nat) (l1 : Int) (l2 : Int) (M : oM) : Option ((Int × oM) ⊕ (oM)) :=
  lt (w32 (l2 + 1)) fun x6 =>
  some (.inl (x6, M))
def p_M_laysGroups_L25 (f : Nat) (l1 : Int) : Int × oM → Option ((Int × oM) ⊕ (oM))
  | (l2, M) =>
  if l2 < 10 then ((p_M_has f l1 l2 M).bind fun q7 =>
  if q7.1 = 0 then (p_M_laysGroups_B87_25 f l1 l2 q7.2)
  else (bnd 1024 l1 fun i8 =>
  (p_M_setOffOf f l2 q7.2).bind fun q9 =>
  bnd 1024 l1 fun i10 =>
  lt (oU q9.2 93 i10 (w32 ((q7.2 93 i8) + q9.1))) fun M11 =>
  bnd 1024 l1 fun i12 =>
  bnd 1024 (iand l1 (ixor (ishl 1 l2) (-1))) fun i13 =>
  (p_M_max f (M11 94 i12) (M11 94 i13) M11).bind fun q14 =>
  bnd 1024 l1 fun i15 =>
  lt (oU q14.2 94 i15 q14.1) fun M16 =>
  p_M_laysGroups_B87_25 f l1 l2 M16))
  else (some (.inr M))
def p_M_laysGroups_L2 (f : Nat) : Int × oM → Option ((Int × oM) ⊕ (Int × oM))
  | (l1, M) =>
  if l1 < 1024 then (bnd 1024 l1 fun i17 =>
  lt (oU M 93 i17 0) fun M18 =>
  bnd 1024 l1 fun i19 =>
  lt (oU M18 94 i19 0) fun M20 =>
  (iter (p_M_laysGroups_L25 f l1) f (0, M20)).bind (p_M_laysGroups_X25 f l1))
  else (some (.inr (0, M)))
def p_M_laysGroups (f : Nat) (M : oM) : Option (Int × oM) :=
  iter (p_M_laysGroups_L2 f) f (0, M)
def p_M_fewest_B24_4 (f : Nat) (l1 : Int) (l2 : Int) (M : oM) : Option ((Int × Int × oM) ⊕ (Int × oM)) :=
  lt (w32 (l2 + 1)) fun x1 =>
  some (.inl (l1, x1, M))
def p_M_fewest_L4 (f : Nat) : Int × Int × oM → Option ((Int × Int × oM) ⊕ (Int × oM))
  | (l1, l2, M) =>
  if l2 < 10 then ((p_M_setOffOf f l2 M).bind fun q5 =>
  if q5.1 = 0 then (p_M_fewest_B24_4 f l1 l2 q5.2)
  else (lt (ior l1 (ishl 1 l2)) fun x6 =>
  p_M_fewest_B24_4 f x6 l2 q5.2))
  else ((p_M_laysGroups f  M).bind fun q2 =>
  (p_M_bits f l1 q2.2).bind fun q3 =>
  bnd 1024 l1 fun i4 =>
  some (.inr (w32 (q3.1 - (q3.2 94 i4)), q3.2)))
def p_M_fewest (f : Nat) (M : oM) : Option (Int × oM) :=
  iter (p_M_fewest_L4 f) f (0, 0, M)
def p_M_reachOf_L2 (f : Nat) (l1 : Int) : Int × oM → Option ((Int × oM) ⊕ (Int × oM))
  | (l2, M) =>
  if l2 < 100 then (bnd 159 (w32 (0 + l2)) fun i2 =>
  bnd 100 l2 fun i3 =>
  lt (oU M 82 i3 (M 58 i2)) fun M4 =>
  lt (w32 (l2 + 1)) fun x5 =>
  some (.inl (x5, M4)))
  else ((p_M_reachLeft f l1 M).bind fun q1 =>
  some (.inr (q1.1, q1.2)))
def p_M_reachOf (f : Nat) (l1 : Int) (M : oM) : Option (Int × oM) :=
  iter (p_M_reachOf_L2 f l1) f (0, M)
def p_M_ringOf_B56_11 (f : Nat) (l1 : Int) (l2 : Int) (l3 : Int) (l4 : Int) (M : oM) : Option ((Int × Int × oM) ⊕ (Int × oM)) :=
  lt (w32 (l4 + 1)) fun x1 =>
  some (.inl (l2, x1, M))
def p_M_ringOf_L11 (f : Nat) (l1 : Int) (l3 : Int) : Int × Int × oM → Option ((Int × Int × oM) ⊕ (Int × oM))
  | (l2, l4, M) =>
  if l4 < 10 then ((p_M_isPerson f l4 M).bind fun q2 =>
  if q2.1 = 0 then (p_M_ringOf_B56_11 f l1 l2 l3 l4 q2.2)
  else ((p_M_has f l3 l4 q2.2).bind fun q3 =>
  if q3.1 = 0 then (p_M_ringOf_B56_11 f l1 l2 l3 l4 q3.2)
  else ((p_M_reachOf f l4 q3.2).bind fun q4 =>
  (p_M_has f q4.1 l1 q4.2).bind fun q5 =>
  if q5.1 = 0 then (p_M_ringOf_B56_11 f l1 l2 l3 l4 q5.2)
  else (lt (ior l2 (ishl 1 l4)) fun x6 =>
  p_M_ringOf_B56_11 f l1 x6 l3 l4 q5.2))))
  else (some (.inr (l2, M)))
def p_M_ringOf (f : Nat) (l1 : Int) (M : oM) : Option (Int × oM) :=
  (p_M_reachOf f l1 M).bind fun q7 =>
  iter (p_M_ringOf_L11 f l1 q7.1) f (0, 0, q7.2)
def p_M_rings_B68_34 (f : Nat) (l2 : Int) (l3 : Int) (l4 : Int) (M : oM) : Option ((Int × Int × Int × oM) ⊕ (Int × oM)) :=
  lt (w32 (l4 + 1)) fun x1 =>
  some (.inl (l2, l3, x1, M))
def p_M_rings_L34 (f : Nat) : Int × Int × Int × oM → Option ((Int × Int × Int × oM) ⊕ (Int × oM))
  | (l2, l3, l4, M) =>
  if l4 < 10 then ((p_M_has f l2 l4 M).bind fun q2 =>
  if q2.1 = 0 then (p_M_rings_B68_34 f l2 l3 l4 q2.2)
  else ((p_M_ringOf f l4 q2.2).bind fun q3 =>
  lt (iand l2 (ixor q3.1 (-1))) fun x4 =>
  lt (w32 (l3 + 1)) fun x5 =>
  p_M_rings_B68_34 f x4 x5 l4 q3.2))
  else (some (.inr (l3, M)))
def p_M_rings (f : Nat) (l1 : Int) (M : oM) : Option (Int × oM) :=
  if l1 = 100 then (lt (M 57 5) fun x6 =>
  iter (p_M_rings_L34 f) f (x6, 0, 0, M))
  else ((p_M_isPerson f l1 M).bind fun q7 =>
  if q7.1 = 0 then (some ((-1), q7.2))
  else ((p_M_ringOf f l1 q7.2).bind fun q8 =>
  some (q8.1, q8.2)))
def p_M_off (f : Nat) (M : oM) : Option (Int × oM) :=
  bnd 159 151 fun i1 =>
  if M 58 i1 < 0 then (some ((-2), M))
  else (bnd 159 151 fun i2 =>
  (p_M_reachOf f (M 58 i2) M).bind fun q3 =>
  some (iand (M 57 5) (ixor q3.1 (-1)), q3.2))
def p_M_when_B103_56 (f : Nat) (l3 : Int) (M : oM) : Option ((Int × Int × oM) ⊕ (Int × oM)) :=
  (p_M_copies f 59 58  M).bind fun q1 =>
  some (.inr (l3, q1.2))
def p_M_when_B97_56 (f : Nat) (l1 : Int) (l2 : Int) (l3 : Int) (l4 : Int) (M : oM) : Option ((Int × Int × oM) ⊕ (Int × oM)) :=
  lt (w32 (l4 + 1)) fun x2 =>
  some (.inl (l3, x2, M))
def p_M_when_L56 (f : Nat) (l1 : Int) (l2 : Int) : Int × Int × oM → Option ((Int × Int × oM) ⊕ (Int × oM))
  | (l3, l4, M) =>
  if l2 < l4 then (p_M_when_B103_56 f l3 M)
  else (bnd 159 156 fun i3 =>
  if M 58 i3 < 9999 then (if l3 = (-2) then ((p_M_hourGoes f  M).bind fun q4 =>
  if q4.2 57 35 = l1 then (p_M_when_B97_56 f l1 l2 l4 l4 q4.2)
  else (p_M_when_B97_56 f l1 l2 l3 l4 q4.2))
  else (p_M_when_B103_56 f l3 M))
  else (p_M_when_B103_56 f l3 M))
def p_M_when (f : Nat) (l1 : Int) (l2 : Int) (M : oM) : Option (Int × oM) :=
  (p_M_isPerson f l1 M).bind fun q5 =>
  if q5.1 = 0 then (some ((-1), q5.2))
  else ((p_M_in f l2 1 240 q5.2).bind fun q6 =>
  if q6.1 = 0 then (some ((-1), q6.2))
  else (bnd 159 151 fun i7 =>
  if q6.2 58 i7 = l1 then (some (0, q6.2))
  else ((p_M_copies f 58 59  q6.2).bind fun q8 =>
  (p_M_begins f  q8.2).bind fun q9 =>
  iter (p_M_when_L56 f l1 l2) f ((-2), 1, q9.2))))
def p_M_wedding_B148_47 (f : Nat) (l4 : Int) (M : oM) : Option ((Int × Int × Int × oM) ⊕ (Int × oM)) :=
  (p_M_copies f 59 58  M).bind fun q1 =>
  some (.inr (l4, q1.2))
def p_M_wedding_B142_47 (f : Nat) (l1 : Int) (l2 : Int) (l3 : Int) (l4 : Int) (l5 : Int) (l6 : Int) (M : oM) : Option ((Int × Int × Int × oM) ⊕ (Int × oM)) :=
  lt (w32 (l6 + 1)) fun x2 =>
  some (.inl (l4, l5, x2, M))
def p_M_wedding_B120_47 (f : Nat) (l1 : Int) (l2 : Int) (l3 : Int) (l4 : Int) (l5 : Int) (l6 : Int) (l7 : Int) (M : oM) : Option ((Int × Int × Int × oM) ⊕ (Int × oM)) :=
  (p_M_has f l5 l1 M).bind fun q3 =>
  if q3.1 = 0 then (p_M_wedding_B142_47 f l1 l2 l3 l4 l5 l6 q3.2)
  else ((p_M_has f l5 l2 q3.2).bind fun q4 =>
  if q4.1 = 0 then (p_M_wedding_B142_47 f l1 l2 l3 l4 l5 l6 q4.2)
  else (p_M_wedding_B142_47 f l1 l2 l3 l7 l5 l6 q4.2))
def p_M_wedding_B98_47 (f : Nat) (l1 : Int) (l2 : Int) (l3 : Int) (l4 : Int) (l5 : Int) (l6 : Int) (l7 : Int) (M : oM) : Option ((Int × Int × Int × oM) ⊕ (Int × oM)) :=
  (p_M_hourGoes f  M).bind fun q5 =>
  if q5.2 57 35 < 0 then (p_M_wedding_B120_47 f l1 l2 l3 l4 l5 l6 l7 q5.2)
  else (lt (ior l5 (ishl 1 (q5.2 57 35))) fun x6 =>
  p_M_wedding_B120_47 f l1 l2 l3 l4 x6 l6 l7 q5.2)
def p_M_wedding_L47 (f : Nat) (l1 : Int) (l2 : Int) (l3 : Int) : Int × Int × Int × oM → Option ((Int × Int × Int × oM) ⊕ (Int × oM))
  | (l4, l5, l6, M) =>
  if l6 < l3 then (bnd 159 156 fun i7 =>
  if M 58 i7 < 9999 then (if l4 = (-2) then (bnd 159 156 fun i8 =>
  lt (M 58 i8) fun x9 =>
  bnd 159 155 fun i10 =>
  if M 58 i10 = 0 then (p_M_wedding_B98_47 f l1 l2 l3 l4 0 l6 x9 M)
  else (p_M_wedding_B98_47 f l1 l2 l3 l4 l5 l6 x9 M))
  else (p_M_wedding_B148_47 f l4 M))
  else (p_M_wedding_B148_47 f l4 M))
  else (p_M_wedding_B148_47 f l4 M)
def p_M_wedding (f : Nat) (l1 : Int) (l2 : Int) (l3 : Int) (M : oM) : Option (Int × oM) :=
  (p_M_areTwo f l1 l2 M).bind fun q11 =>
  if q11.1 = 0 then (some ((-1), q11.2))
  else ((p_M_in f l3 1 240 q11.2).bind fun q12 =>
  if q12.1 = 0 then (some ((-1), q12.2))
  else ((p_M_copies f 58 59  q12.2).bind fun q13 =>
  (p_M_begins f  q13.2).bind fun q14 =>
  iter (p_M_wedding_L47 f l1 l2 l3) f ((-2), 0, 0, q14.2)))
def p_M_longest_B49_7 (f : Nat) (l1 : Int) (l2 : Int) (l3 : Int) (M : oM) : Option ((Int × Int × Int × oM) ⊕ (Int × oM)) :=
  lt (w32 (l3 + 1)) fun x1 =>
  some (.inl (l1, l2, x1, M))
def p_M_longest_L7 (f : Nat) : Int × Int × Int × oM → Option ((Int × Int × Int × oM) ⊕ (Int × oM))
  | (l1, l2, l3, M) =>
  if l3 < 10 then ((p_M_isPerson f l3 M).bind fun q2 =>
  if q2.1 = 0 then (p_M_longest_B49_7 f l1 l2 l3 q2.2)
  else (bnd 159 (w32 (100 + l3)) fun i3 =>
  if l2 < q2.2 58 i3 then (bnd 159 (w32 (100 + l3)) fun i4 =>
  lt (q2.2 58 i4) fun x5 =>
  p_M_longest_B49_7 f l3 x5 l3 q2.2)
  else (p_M_longest_B49_7 f l1 l2 l3 q2.2)))
  else (some (.inr (l1, M)))
def p_M_longest (f : Nat) (M : oM) : Option (Int × oM) :=
  iter (p_M_longest_L7 f) f ((-2), 0, 0, M)
def p_M_chalk (f : Nat) (l1 : Int) (M : oM) : Option (Int × oM) :=
  bnd 159 150 fun i1 =>
  (p_M_in f l1 0 (w32 ((M 58 i1) - 1)) M).bind fun q2 =>
  if q2.1 = 0 then (some ((-1), q2.2))
  else (bnd 159 (w32 (110 + l1)) fun i3 =>
  some (q2.2 58 i3, q2.2))
def p_M_hoursOf_B41_4 (f : Nat) (l1 : Int) (l3 : Int) (s0 : Int) (s1 : Int) (M : oM) : Option ((Int × Int × oM) ⊕ (Int × oM)) :=
  lt (w32 (s0 + s1)) fun x1 =>
  lt (w32 (l3 + 1)) fun x2 =>
  some (.inl (x1, x2, M))
def p_M_hoursOf_L4 (f : Nat) (l1 : Int) : Int × Int × oM → Option ((Int × Int × oM) ⊕ (Int × oM))
  | (l2, l3, M) =>
  if l3 < M 57 50 then ((p_M_has f l1 l3 M).bind fun q3 =>
  if q3.1 = 0 then (p_M_hoursOf_B41_4 f l1 l3 l2 0 q3.2)
  else (bnd 12 l3 fun i4 =>
  bnd 12 l3 fun i5 =>
  (p_M_wayOf f (q3.2 84 i4) (q3.2 85 i5) q3.2).bind fun q6 =>
  p_M_hoursOf_B41_4 f l1 l3 l2 q6.1 q6.2))
  else (some (.inr (l2, M)))
def p_M_hoursOf (f : Nat) (l1 : Int) (M : oM) : Option (Int × oM) :=
  iter (p_M_hoursOf_L4 f l1) f (0, 0, M)
def p_M_isRowOf_B78_23 (f : Nat) (l1 : Int) (l2 : Int) (l3 : Int) (M : oM) : Option ((Int × oM) ⊕ (Int × oM)) :=
  lt (w32 (l3 + 1)) fun x1 =>
  some (.inl (x1, M))
def p_M_isRowOf_L23 (f : Nat) (l1 : Int) (l2 : Int) : Int × oM → Option ((Int × oM) ⊕ (Int × oM))
  | (l3, M) =>
  if l3 < M 57 50 then ((p_M_has f l1 l3 M).bind fun q4 =>
  if q4.1 = 0 then (p_M_isRowOf_B78_23 f l1 l2 l3 q4.2)
  else (bnd 12 l3 fun i5 =>
  bnd 12 l3 fun i6 =>
  bnd 12 l3 fun i7 =>
  bnd 12 l3 fun i8 =>
  (p_M_leftOf f (q4.2 84 i7) (q4.2 85 i8) q4.2).bind fun q9 =>
  bnd 100 (w32 ((w32 (10 * (q4.2 84 i5))) + (q4.2 85 i6))) fun i10 =>
  lt (oU q9.2 82 i10 (w32 (q9.1 + 1))) fun M11 =>
  p_M_isRowOf_B78_23 f l1 l2 l3 M11))
  else ((p_M_isRow f l2 M).bind fun q2 =>
  bnd 2 q2.1 fun b3 => some (.inr (b3, q2.2)))
def p_M_isRowOf_X2 (f : Nat) (l1 : Int) (l2 : Int) : oM → Option (Int × oM)
  | M =>
  iter (p_M_isRowOf_L23 f l1 l2) f (0, M)
def p_M_isRowOf_L2 (f : Nat) (l1 : Int) (l2 : Int) : Int × oM → Option ((Int × oM) ⊕ (oM))
  | (l3, M) =>
  if l3 < 100 then (bnd 100 l3 fun i12 =>
  lt (oU M 82 i12 0) fun M13 =>
  lt (w32 (l3 + 1)) fun x14 =>
  some (.inl (x14, M13)))
  else (some (.inr M))
def p_M_isRowOf (f : Nat) (l1 : Int) (l2 : Int) (M : oM) : Option (Int × oM) :=
  (iter (p_M_isRowOf_L2 f l1 l2) f (0, M)).bind (p_M_isRowOf_X2 f l1 l2)
def p_M_two_B119_52 (f : Nat) (l1 : Int) (l2 : Int) (l3 : Int) (l4 : Int) (M : oM) : Option ((Int × Int × oM) ⊕ (Int × oM)) :=
  lt (w32 (l4 + 1)) fun x1 =>
  some (.inl (l3, x1, M))
def p_M_two_L52 (f : Nat) (l1 : Int) (l2 : Int) : Int × Int × oM → Option ((Int × Int × oM) ⊕ (Int × oM))
  | (l3, l4, M) =>
  if l2 < l4 then (if l3 = 1000000 then (some (.inr ((-4), M)))
  else (some (.inr (l3, M))))
  else ((p_M_hoursOf f l4 M).bind fun q2 =>
  (p_M_hoursOf f (iand l2 (ixor l4 (-1))) q2.2).bind fun q3 =>
  (p_M_max f q2.1 q3.1 q3.2).bind fun q4 =>
  if q4.1 < l3 then (bnd 159 151 fun i5 =>
  (p_M_isRowOf f l4 (q4.2 58 i5) q4.2).bind fun q6 =>
  if q6.1 = 0 then (p_M_two_B119_52 f l1 l2 l3 l4 q6.2)
  else ((p_M_isRowOf f (iand l2 (ixor l4 (-1))) l1 q6.2).bind fun q7 =>
  if q7.1 = 0 then (p_M_two_B119_52 f l1 l2 l3 l4 q7.2)
  else (p_M_two_B119_52 f l1 l2 q4.1 l4 q7.2)))
  else (p_M_two_B119_52 f l1 l2 l3 l4 q4.2))
def p_M_two (f : Nat) (l1 : Int) (M : oM) : Option (Int × oM) :=
  (p_M_isPerson f l1 M).bind fun q8 =>
  if q8.1 = 0 then (some ((-1), q8.2))
  else (bnd 159 151 fun i9 =>
  if q8.2 58 i9 < 0 then (some ((-2), q8.2))
  else ((p_M_laysCoins f 8 q8.2).bind fun q10 =>
  if q10.1 = 0 then (some ((-3), q10.2))
  else (lt (w32 ((ishl 1 (q10.2 57 50)) - 1)) fun x11 =>
  iter (p_M_two_L52 f l1 x11) f (1000000, 0, q10.2))))
def p_M_gcd_L4 (f : Nat) : Int × Int × oM → Option ((Int × Int × oM) ⊕ (Int × oM))
  | (l2, l3, M) =>
  if l3 = 0 then (some (.inr (l2, M)))
  else (nz l3 fun z1 =>
  lt (Int.tmod l2 z1) fun x2 =>
  some (.inl (l3, x2, M)))
def p_M_gcd (f : Nat) (l0 : Int) (l1 : Int) (M : oM) : Option (Int × oM) :=
  iter (p_M_gcd_L4 f) f (l0, l1, M)
def p_M_dry_L38 (f : Nat) (l1 : Int) (l2 : Int) (l3 : Int) : Int × Int × Int × oM → Option ((Int × Int × Int × oM) ⊕ (Int × oM))
  | (l4, l5, l6, M) =>
  if l6 < l1 then (lt (w32 (l4 * l3)) fun x4 =>
  lt (w32 (l5 * 10)) fun x5 =>
  lt (w32 (l6 + 1)) fun x6 =>
  some (.inl (x4, x5, x6, M)))
  else ((p_M_gcd f l4 l5 M).bind fun q1 =>
  if l2 = 0 then (nz q1.1 fun z3 =>
  some (.inr (w32 (Int.tdiv l4 z3), q1.2)))
  else (nz q1.1 fun z2 =>
  some (.inr (w32 (Int.tdiv l5 z2), q1.2))))
def p_M_dry (f : Nat) (l1 : Int) (l2 : Int) (M : oM) : Option (Int × oM) :=
  (p_M_in f l1 1 9 M).bind fun q7 =>
  if q7.1 = 0 then (some ((-1), q7.2))
  else ((p_M_in f l2 0 1 q7.2).bind fun q8 =>
  if q8.1 = 0 then (some ((-1), q8.2))
  else ((p_M_rainBy f  q8.2).bind fun q9 =>
  lt (w32 (10 - q9.1)) fun x10 =>
  iter (p_M_dry_L38 f l1 l2 x10) f (1, 1, 0, q9.2)))
def p_M_seed (f : Nat) (l1 : Int) (M : oM) : Option (Int × oM) :=
  (p_M_in f l1 0 65535 M).bind fun q1 =>
  if q1.1 = 0 then (some (0, q1.2))
  else (bnd 159 158 fun i2 =>
  lt (oU q1.2 58 i2 l1) fun M3 =>
  some (1, M3))
def p_M_keep (f : Nat) (M : oM) : Option (Int × oM) :=
  lt (oU M 57 61 1) fun M1 =>
  (p_M_copies f 58 60  M1).bind fun q2 =>
  (p_M_owedInAll f  q2.2).bind fun q3 =>
  some (q3.1, q3.2)
def p_M_undo (f : Nat) (M : oM) : Option (Int × oM) :=
  if M 57 61 = 0 then (some (0, M))
  else ((p_M_copies f 60 58  M).bind fun q1 =>
  some (1, q1.2))
def p_M_check_B66_28 (f : Nat) (l1 : Int) (l2 : Int) (s0 : Int) (s1 : Int) (M : oM) : Option ((Int × oM) ⊕ (Int × oM)) :=
  if s0 = s1 then (lt (w32 (l2 + 1)) fun x1 =>
  some (.inl (x1, M)))
  else (some (.inr (l2, M)))
def p_M_check_L28 (f : Nat) (l1 : Int) : Int × oM → Option ((Int × oM) ⊕ (Int × oM))
  | (l2, M) =>
  if l2 < l1 then (bnd 260 l2 fun i2 =>
  (p_M_isPerson f l2 M).bind fun q3 =>
  if q3.1 = 0 then (p_M_check_B66_28 f l1 l2 (iand (M 63 i2) 255) 0 q3.2)
  else ((p_M_owesAll f l2 q3.2).bind fun q4 =>
  (p_M_min f 255 q4.1 q4.2).bind fun q5 =>
  p_M_check_B66_28 f l1 l2 (iand (M 63 i2) 255) q5.1 q5.2))
  else (some (.inr ((-1), M)))
def p_M_check (f : Nat) (l1 : Int) (M : oM) : Option (Int × oM) :=
  (p_M_in f l1 0 10 M).bind fun q6 =>
  if q6.1 = 0 then (some ((-2), q6.2))
  else (if q6.2 57 7 < l1 then (some ((-2), q6.2))
  else (lt (oU q6.2 57 7 0) fun M7 =>
  iter (p_M_check_L28 f l1) f (0, M7)))
def p_M_count (f : Nat) (l1 : Int) (M : oM) : Option (Int × oM) :=
  if l1 = 0 then (some (M 57 5, M))
  else (if l1 = 1 then ((p_M_owedInAll f  M).bind fun q1 =>
  some (q1.1, q1.2))
  else (if l1 = 2 then (bnd 159 151 fun i2 =>
  some (M 58 i2, M))
  else (if l1 = 3 then (bnd 159 153 fun i3 =>
  some (M 58 i3, M))
  else (if l1 = 4 then (bnd 159 154 fun i4 =>
  some (M 58 i4, M))
  else (if l1 = 5 then (bnd 159 155 fun i5 =>
  some (M 58 i5, M))
  else (if l1 = 6 then (bnd 159 156 fun i6 =>
  some (M 58 i6, M))
  else (if l1 = 7 then (bnd 159 157 fun i7 =>
  some (M 58 i7, M))
  else (if l1 = 8 then (bnd 159 150 fun i8 =>
  some (M 58 i8, M))
  else (if l1 = 9 then (some (M 57 16, M))
  else (if l1 = 10 then (some (M 57 7, M))
  else (if l1 = 11 then (bnd 159 158 fun i9 =>
  some (M 58 i9, M))
  else (some ((-1), M)))))))))))))
end
