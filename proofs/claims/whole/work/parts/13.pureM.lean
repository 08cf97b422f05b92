/-! the reference's methods as functions (by program out of the bytecode) -/
noncomputable section
def p_M_in (f : Nat) (l0 : Int) (l1 : Int) (l2 : Int) (M : oM) : Option (Int × oM) :=
  if l0 < l1 then (some (0, M))
  else (if l2 < l0 then (some (0, M))
  else (some (1, M)))
def p_M_person (f : Nat) (l1 : Int) (l2 : Int) (l3 : Int) (M : oM) : Option (Int × oM) :=
  (p_M_in f l1 0 9 M).bind fun q1 =>
  let M2 : oM := q1.2
  let r3 : Int := q1.1
  if r3 = 0 then (some (0, M2))
  else ((p_M_in f l2 0 9 M2).bind fun q4 =>
  let M5 : oM := q4.2
  let r6 : Int := q4.1
  if r6 = 0 then (some (0, M5))
  else ((p_M_in f l3 0 9 M5).bind fun q7 =>
  let M8 : oM := q7.2
  let r9 : Int := q7.1
  if r9 = 0 then (some (0, M8))
  else (let M10 : oM := oU M8 57 5 (ior (M8 57 5) (ishl 1 l1))
  bnd 10 l1 fun i11 =>
  let M12 : oM := oU M10 61 i11 l2
  bnd 10 l1 fun i13 =>
  let M14 : oM := oU M12 62 i13 l3
  some (1, M14))))
def p_M_has (f : Nat) (l0 : Int) (l1 : Int) (M : oM) : Option (Int × oM) :=
  if iand (ishr l0 l1) 1 = 1 then (some (1, M))
  else (some (0, M))
def p_M_isPerson (f : Nat) (l1 : Int) (M : oM) : Option (Int × oM) :=
  (p_M_in f l1 0 9 M).bind fun q1 =>
  let M2 : oM := q1.2
  let r3 : Int := q1.1
  if r3 = 0 then (some (0, M2))
  else ((p_M_has f (M2 57 5) l1 M2).bind fun q4 =>
  let M5 : oM := q4.2
  let r6 : Int := q4.1
  if r6 = 0 then (some (0, M5))
  else (some (1, M5)))
def p_M_areTwo (f : Nat) (l1 : Int) (l2 : Int) (M : oM) : Option (Int × oM) :=
  (p_M_isPerson f l1 M).bind fun q1 =>
  let M2 : oM := q1.2
  let r3 : Int := q1.1
  if r3 = 0 then (some (0, M2))
  else ((p_M_isPerson f l2 M2).bind fun q4 =>
  let M5 : oM := q4.2
  let r6 : Int := q4.1
  if r6 = 0 then (some (0, M5))
  else (if l1 = l2 then (some (0, M5))
  else (some (1, M5))))
def p_M_debt (f : Nat) (l1 : Int) (l2 : Int) (l3 : Int) (M : oM) : Option (Int × oM) :=
  (p_M_areTwo f l1 l2 M).bind fun q1 =>
  let M2 : oM := q1.2
  let r3 : Int := q1.1
  if r3 = 0 then (some (0, M2))
  else ((p_M_in f l3 0 99 M2).bind fun q4 =>
  let M5 : oM := q4.2
  let r6 : Int := q4.1
  if r6 = 0 then (some (0, M5))
  else (bnd 159 (w32 ((w32 (0 + (w32 (10 * l1)))) + l2)) fun i7 =>
  let M8 : oM := oU M5 58 i7 l3
  some (1, M8)))
def p_M_rests (f : Nat) (l1 : Int) (M : oM) : Option (Int × oM) :=
  bnd 159 151 fun i1 =>
  let M2 : oM := oU M 58 i1 l1
  bnd 159 153 fun i3 =>
  let M4 : oM := oU M2 58 i3 (-2)
  bnd 159 154 fun i5 =>
  let M6 : oM := oU M4 58 i5 0
  some (0, M6)
def p_M_coin (f : Nat) (l1 : Int) (M : oM) : Option (Int × oM) :=
  (p_M_isPerson f l1 M).bind fun q1 =>
  let M2 : oM := q1.2
  let r3 : Int := q1.1
  if r3 = 0 then (some (0, M2))
  else ((p_M_rests f l1 M2).bind fun q4 =>
  let M5 : oM := q4.2
  some (1, M5))
def p_M_types_L2 (f : Nat) (l1 : Int) (t : Int × oM) : Option ((Int × oM) ⊕ (Int × oM)) :=
  let l2 : Int := t.1
  let M : oM := t.2
  if l2 < 0 then (some (.inr (0, M)))
  else (bnd 260 (M 57 7) fun i1 =>
  let M2 : oM := oU M 63 i1 (i2b (i2b (ishr l1 (w32 (8 * l2)))))
  let M3 : oM := oU M2 57 7 (w32 ((M2 57 7) + 1))
  let x4 : Int := w32 (l2 + (-1))
  some (.inl (x4, M3)))
def p_M_types (f : Nat) (l1 : Int) (M : oM) : Option (Int × oM) :=
  iter (p_M_types_L2 f l1) f (3, M)
def p_M_feed (f : Nat) (l1 : Int) (l2 : Int) (l3 : Int) (l4 : Int) (l5 : Int) (M : oM) : Option (Int × oM) :=
  if 260 < w32 ((M 57 7) + 20) then (some ((-1), M))
  else ((p_M_types f l1 M).bind fun q1 =>
  let M2 : oM := q1.2
  (p_M_types f l2 M2).bind fun q3 =>
  let M4 : oM := q3.2
  (p_M_types f l3 M4).bind fun q5 =>
  let M6 : oM := q5.2
  (p_M_types f l4 M6).bind fun q7 =>
  let M8 : oM := q7.2
  (p_M_types f l5 M8).bind fun q9 =>
  let M10 : oM := q9.2
  some (M10 57 7, M10))
def p_M_here (f : Nat) (M : oM) : Option (Int × oM) :=
  if M 57 8 < M 57 9 then (bnd 260 (M 57 8) fun i1 =>
  some (iand (M 63 i1) 255, M))
  else (some ((-1), M))
def p_M_notes (f : Nat) (l1 : Int) (l2 : Int) (M : oM) : Option (Int × oM) :=
  bnd 260 (M 57 13) fun i1 =>
  let M2 : oM := oU M 64 i1 (w32 ((w32 (1048576 * l1)) + l2))
  let M3 : oM := oU M2 57 13 (w32 ((M2 57 13) + 1))
  some (0, M3)
def p_M_waitTop (f : Nat) (M : oM) : Option (Int × oM) :=
  if M 57 14 = 0 then (some ((-1), M))
  else (bnd 260 (w32 ((M 57 14) - 1)) fun i1 =>
  nz 1048576 fun z2 =>
  some (w32 (Int.tdiv (M 65 i1) z2), M))
def p_M_endsPiece_L0 (f : Nat) (t : oM) : Option ((oM) ⊕ (Int × oM)) :=
  let M : oM := t
  (p_M_waitTop f  M).bind fun q1 =>
  let M2 : oM := q1.2
  let r3 : Int := q1.1
  if r3 = 10 then ((p_M_notes f 10 0 M2).bind fun q4 =>
  let M5 : oM := q4.2
  let M6 : oM := oU M5 57 14 (w32 ((M5 57 14) - 1))
  let M7 : oM := oU M6 57 12 (w32 ((M6 57 12) - 1))
  some (.inl M7))
  else (some (.inr (0, M2)))
def p_M_endsPiece (f : Nat) (M : oM) : Option (Int × oM) :=
  iter (p_M_endsPiece_L0 f) f M
def p_M_jumps (f : Nat) (l1 : Int) (M : oM) : Option (Int × oM) :=
  bnd 260 (M 57 14) fun i1 =>
  let M2 : oM := oU M 65 i1 (w32 ((w32 (1048576 * l1)) + (M 57 13)))
  let M3 : oM := oU M2 57 14 (w32 ((M2 57 14) + 1))
  (p_M_notes f l1 0 M3).bind fun q4 =>
  let M5 : oM := q4.2
  let M6 : oM := oU M5 57 8 (w32 ((M5 57 8) + 1))
  some (0, M6)
def p_M_lands_B22_0 (f : Nat) (l1 : Int) (M : oM) : Option ((oM) ⊕ (Int × oM)) :=
  bnd 260 (w32 ((M 57 14) - 1)) fun i1 =>
  nz 1048576 fun z2 =>
  let x3 : Int := Int.tmod (M 65 i1) z2
  bnd 260 x3 fun i4 =>
  nz 1048576 fun z5 =>
  bnd 260 x3 fun i6 =>
  let M7 : oM := oU M 64 i6 (w32 ((w32 (1048576 * (w32 (Int.tdiv (M 64 i4) z5)))) + (M 57 13)))
  let M8 : oM := oU M7 57 14 (w32 ((M7 57 14) - 1))
  some (.inl M8)
def p_M_lands_L0 (f : Nat) (l1 : Int) (t : oM) : Option ((oM) ⊕ (Int × oM)) :=
  let M : oM := t
  (p_M_waitTop f  M).bind fun q9 =>
  let M10 : oM := q9.2
  let r11 : Int := q9.1
  if r11 = 11 then (p_M_lands_B22_0 f l1 M10)
  else (if l1 = 0 then (some (.inr (0, M10)))
  else ((p_M_waitTop f  M10).bind fun q12 =>
  let M13 : oM := q12.2
  let r14 : Int := q12.1
  if r14 = 12 then (p_M_lands_B22_0 f l1 M13)
  else (some (.inr (0, M13)))))
def p_M_lands (f : Nat) (l1 : Int) (M : oM) : Option (Int × oM) :=
  iter (p_M_lands_L0 f l1) f M
def p_M_wrongAt (f : Nat) (l1 : Int) (l2 : Int) (M : oM) : Option (Int × oM) :=
  let M1 : oM := oU M 57 10 (w32 ((w32 ((-1000) * l1)) - l2))
  some (0, M1)
def p_M_opens (f : Nat) (l1 : Int) (M : oM) : Option (Int × oM) :=
  if M 57 12 = 6 then ((p_M_wrongAt f 5 (M 57 8) M).bind fun q6 =>
  let M7 : oM := q6.2
  let r8 : Int := q6.1
  bnd 2 r8 fun b9 => some (b9, M7))
  else (let M1 : oM := oU M 57 12 (w32 ((M 57 12) + 1))
  bnd 260 (M1 57 14) fun i2 =>
  let M3 : oM := oU M1 65 i2 (w32 (1048576 * l1))
  let M4 : oM := oU M3 57 14 (w32 ((M3 57 14) + 1))
  let M5 : oM := oU M4 57 8 (w32 ((M4 57 8) + 1))
  some (1, M5))
def p_M_closesSums_B37_0 (f : Nat) (l1 : Int) (M : oM) : Option ((oM) ⊕ (Int × oM)) :=
  (p_M_waitTop f  M).bind fun q1 =>
  let M2 : oM := q1.2
  let r3 : Int := q1.1
  (p_M_notes f r3 0 M2).bind fun q4 =>
  let M5 : oM := q4.2
  let M6 : oM := oU M5 57 14 (w32 ((M5 57 14) - 1))
  some (.inl M6)
def p_M_closesSums_B17_0 (f : Nat) (l1 : Int) (M : oM) : Option ((oM) ⊕ (Int × oM)) :=
  if l1 = 0 then (some (.inr (0, M)))
  else ((p_M_waitTop f  M).bind fun q7 =>
  let M8 : oM := q7.2
  let r9 : Int := q7.1
  if r9 = 2 then (p_M_closesSums_B37_0 f l1 M8)
  else ((p_M_waitTop f  M8).bind fun q10 =>
  let M11 : oM := q10.2
  let r12 : Int := q10.1
  if r12 = 3 then (p_M_closesSums_B37_0 f l1 M11)
  else (some (.inr (0, M11)))))
def p_M_closesSums_L0 (f : Nat) (l1 : Int) (t : oM) : Option ((oM) ⊕ (Int × oM)) :=
  let M : oM := t
  (p_M_waitTop f  M).bind fun q13 =>
  let M14 : oM := q13.2
  let r15 : Int := q13.1
  if r15 < 4 then (p_M_closesSums_B17_0 f l1 M14)
  else ((p_M_waitTop f  M14).bind fun q16 =>
  let M17 : oM := q16.2
  let r18 : Int := q16.1
  if 6 < r18 then (p_M_closesSums_B17_0 f l1 M17)
  else (p_M_closesSums_B37_0 f l1 M17))
def p_M_closesSums (f : Nat) (l1 : Int) (M : oM) : Option (Int × oM) :=
  iter (p_M_closesSums_L0 f l1) f M
def p_M_hasOpenSum_L2 (f : Nat) (t : Int × oM) : Option ((Int × oM) ⊕ (Int × oM)) :=
  let l2 : Int := t.1
  let M : oM := t.2
  if l2 < M 57 14 then (bnd 260 l2 fun i1 =>
  nz 1048576 fun z2 =>
  if w32 (Int.tdiv (M 65 i1) z2) = 14 then (some (.inr (1, M)))
  else (let x3 : Int := w32 (l2 + 1)
  some (.inl (x3, M))))
  else (some (.inr (0, M)))
def p_M_hasOpenSum (f : Nat) (l1 : Int) (M : oM) : Option (Int × oM) :=
  iter (p_M_hasOpenSum_L2 f) f (l1, M)
def p_M_factOf (f : Nat) (l0 : Int) (M : oM) : Option (Int × oM) :=
  if l0 = 99 then (some (1, M))
  else (if l0 = 100 then (some ((-1), M))
  else (if l0 = 101 then (some ((-1), M))
  else (if l0 = 102 then (some ((-1), M))
  else (if l0 = 103 then (some (5, M))
  else (if l0 = 104 then (some (0, M))
  else (if l0 = 105 then (some ((-1), M))
  else (if l0 = 106 then (some ((-1), M))
  else (if l0 = 107 then (some ((-1), M))
  else (if l0 = 108 then (some ((-1), M))
  else (if l0 = 109 then (some ((-1), M))
  else (if l0 = 110 then (some (2, M))
  else (if l0 = 111 then (some (3, M))
  else (if l0 = 112 then (some ((-1), M))
  else (if l0 = 113 then (some ((-1), M))
  else (if l0 = 114 then (some ((-1), M))
  else (if l0 = 115 then (some ((-1), M))
  else (if l0 = 116 then (some (6, M))
  else (if l0 = 117 then (some ((-1), M))
  else (if l0 = 118 then (some ((-1), M))
  else (if l0 = 119 then (some (4, M))
  else (if l0 = 120 then (some ((-1), M))
  else (if l0 = 121 then (some (7, M))
  else (some ((-1), M))))))))))))))))))))))))
def p_M_isDigit (f : Nat) (M : oM) : Option (Int × oM) :=
  (p_M_here f  M).bind fun q1 =>
  let M2 : oM := q1.2
  let r3 : Int := q1.1
  if r3 < 48 then (some (0, M2))
  else ((p_M_here f  M2).bind fun q4 =>
  let M5 : oM := q4.2
  let r6 : Int := q4.1
  if 57 < r6 then (some (0, M5))
  else (some (1, M5)))
def p_M_readsNumber_L10 (f : Nat) (l1 : Int) (t : oM) : Option ((oM) ⊕ (Int × oM)) :=
  let M : oM := t
  (p_M_isDigit f  M).bind fun q1 =>
  let M2 : oM := q1.2
  let r3 : Int := q1.1
  if r3 = 0 then (some (.inr (1, M2)))
  else (if M2 57 8 = w32 (l1 + 5) then ((p_M_wrongAt f 2 (M2 57 8) M2).bind fun q9 =>
  let M10 : oM := q9.2
  let r11 : Int := q9.1
  bnd 2 r11 fun b12 => some (.inr (b12, M10)))
  else ((p_M_here f  M2).bind fun q4 =>
  let M5 : oM := q4.2
  let r6 : Int := q4.1
  let M7 : oM := oU M5 57 11 (w32 ((w32 ((w32 (10 * (M2 57 11))) + r6)) - 48))
  let M8 : oM := oU M7 57 8 (w32 ((M7 57 8) + 1))
  some (.inl M8)))
def p_M_readsNumber (f : Nat) (M : oM) : Option (Int × oM) :=
  let x13 : Int := M 57 8
  let M14 : oM := oU M 57 11 0
  iter (p_M_readsNumber_L10 f x13) f M14
def p_M_readsFactor_L0 (f : Nat) (t : oM) : Option ((oM) ⊕ (Int × oM)) :=
  let M : oM := t
  (p_M_here f  M).bind fun q1 =>
  let M2 : oM := q1.2
  let r3 : Int := q1.1
  if r3 = 91 then ((p_M_opens f 14 M2).bind fun q25 =>
  let M26 : oM := q25.2
  let r27 : Int := q25.1
  if r27 = 0 then (some (.inr (0, M26)))
  else (some (.inl M26)))
  else ((p_M_isDigit f  M2).bind fun q4 =>
  let M5 : oM := q4.2
  let r6 : Int := q4.1
  if r6 = 0 then ((p_M_here f  M5).bind fun q7 =>
  let M8 : oM := q7.2
  let r9 : Int := q7.1
  (p_M_factOf f r9 M8).bind fun q10 =>
  let M11 : oM := q10.2
  let r12 : Int := q10.1
  if r12 = (-1) then ((p_M_wrongAt f 1 (M11 57 8) M11).bind fun q16 =>
  let M17 : oM := q16.2
  let r18 : Int := q16.1
  bnd 2 r18 fun b19 => some (.inr (b19, M17)))
  else ((p_M_notes f 1 r12 M11).bind fun q13 =>
  let M14 : oM := q13.2
  let M15 : oM := oU M14 57 8 (w32 ((M14 57 8) + 1))
  some (.inr (1, M15))))
  else ((p_M_readsNumber f  M5).bind fun q20 =>
  let M21 : oM := q20.2
  let r22 : Int := q20.1
  if r22 = 0 then (some (.inr (0, M21)))
  else ((p_M_notes f 0 (M21 57 11) M21).bind fun q23 =>
  let M24 : oM := q23.2
  some (.inr (1, M24)))))
def p_M_readsFactor (f : Nat) (M : oM) : Option (Int × oM) :=
  iter (p_M_readsFactor_L0 f) f M
def p_M_sumSign (f : Nat) (l0 : Int) (M : oM) : Option (Int × oM) :=
  if l0 = 43 then (some (2, M))
  else (if l0 = 45 then (some (3, M))
  else (if l0 = 42 then (some (4, M))
  else (if l0 = 47 then (some (5, M))
  else (if l0 = 37 then (some (6, M))
  else (some ((-1), M))))))
def p_M_readsSum_B138_14 (f : Nat) (l1 : Int) (M : oM) : Option ((oM) ⊕ (Int × oM)) :=
  (p_M_hasOpenSum f l1 M).bind fun q1 =>
  let M2 : oM := q1.2
  let r3 : Int := q1.1
  if r3 = 0 then ((p_M_closesSums f 1 M2).bind fun q4 =>
  let M5 : oM := q4.2
  some (.inr (1, M5)))
  else ((p_M_wrongAt f 1 (M2 57 8) M2).bind fun q6 =>
  let M7 : oM := q6.2
  let r8 : Int := q6.1
  bnd 2 r8 fun b9 => some (.inr (b9, M7)))
def p_M_readsSum_B163_14 (f : Nat) (l1 : Int) (M : oM) : Option ((oM) ⊕ (Int × oM)) :=
  some (.inl M)
def p_M_readsSum_B38_14 (f : Nat) (l1 : Int) (l2 : Int) (s1 : Int) (M : oM) : Option ((oM) ⊕ (Int × oM)) :=
  (p_M_closesSums f s1 M).bind fun q10 =>
  let M11 : oM := q10.2
  bnd 260 (M11 57 14) fun i12 =>
  let M13 : oM := oU M11 65 i12 (w32 (1048576 * l2))
  let M14 : oM := oU M13 57 14 (w32 ((M13 57 14) + 1))
  let M15 : oM := oU M14 57 8 (w32 ((M14 57 8) + 1))
  (p_M_readsFactor f  M15).bind fun q16 =>
  let M17 : oM := q16.2
  let r18 : Int := q16.1
  if r18 = 0 then (some (.inr (0, M17)))
  else (p_M_readsSum_B163_14 f l1 M17)
def p_M_readsSum_L14 (f : Nat) (l1 : Int) (t : oM) : Option ((oM) ⊕ (Int × oM)) :=
  let M : oM := t
  (p_M_here f  M).bind fun q19 =>
  let M20 : oM := q19.2
  let r21 : Int := q19.1
  (p_M_sumSign f r21 M20).bind fun q22 =>
  let M23 : oM := q22.2
  let r24 : Int := q22.1
  if r24 = (-1) then ((p_M_here f  M23).bind fun q25 =>
  let M26 : oM := q25.2
  let r27 : Int := q25.1
  if r27 = 93 then ((p_M_hasOpenSum f l1 M26).bind fun q28 =>
  let M29 : oM := q28.2
  let r30 : Int := q28.1
  if r30 = 0 then (p_M_readsSum_B138_14 f l1 M29)
  else ((p_M_closesSums f 1 M29).bind fun q31 =>
  let M32 : oM := q31.2
  let M33 : oM := oU M32 57 14 (w32 ((M32 57 14) - 1))
  let M34 : oM := oU M33 57 12 (w32 ((M33 57 12) - 1))
  let M35 : oM := oU M34 57 8 (w32 ((M34 57 8) + 1))
  p_M_readsSum_B163_14 f l1 M35))
  else (p_M_readsSum_B138_14 f l1 M26))
  else (if r24 < 4 then (p_M_readsSum_B38_14 f l1 r24 1 M23)
  else (p_M_readsSum_B38_14 f l1 r24 0 M23))
def p_M_readsSum (f : Nat) (M : oM) : Option (Int × oM) :=
  let x36 : Int := M 57 14
  (p_M_readsFactor f  M).bind fun q37 =>
  let M38 : oM := q37.2
  let r39 : Int := q37.1
  if r39 = 0 then (some (0, M38))
  else (iter (p_M_readsSum_L14 f x36) f M38)
def p_M_readsCompared_B52 (f : Nat) (s0 : Int) (M : oM) : Option (Int × oM) :=
  if s0 = (-1) then ((p_M_wrongAt f 1 (M 57 8) M).bind fun q9 =>
  let M10 : oM := q9.2
  let r11 : Int := q9.1
  bnd 2 r11 fun b12 => some (b12, M10))
  else (let M1 : oM := oU M 57 8 (w32 ((M 57 8) + 1))
  (p_M_readsSum f  M1).bind fun q2 =>
  let M3 : oM := q2.2
  let r4 : Int := q2.1
  if r4 = 0 then (some (0, M3))
  else ((p_M_notes f s0 0 M3).bind fun q5 =>
  let M6 : oM := q5.2
  (p_M_endsPiece f  M6).bind fun q7 =>
  let M8 : oM := q7.2
  some (1, M8)))
def p_M_readsCompared (f : Nat) (M : oM) : Option (Int × oM) :=
  (p_M_readsSum f  M).bind fun q13 =>
  let M14 : oM := q13.2
  let r15 : Int := q13.1
  if r15 = 0 then (some (0, M14))
  else ((p_M_here f  M14).bind fun q16 =>
  let M17 : oM := q16.2
  let r18 : Int := q16.1
  if r18 = 60 then (p_M_readsCompared_B52 f 7 M17)
  else ((p_M_here f  M17).bind fun q19 =>
  let M20 : oM := q19.2
  let r21 : Int := q19.1
  if r21 = 62 then (p_M_readsCompared_B52 f 8 M20)
  else ((p_M_here f  M20).bind fun q22 =>
  let M23 : oM := q22.2
  let r24 : Int := q22.1
  if r24 = 61 then (p_M_readsCompared_B52 f 9 M23)
  else (p_M_readsCompared_B52 f (-1) M23))))
def p_M_readsCondition_B75_40 (f : Nat) (s1 : Int) (M : oM) : Option ((oM) ⊕ (Int × oM)) :=
  (p_M_opens f s1 M).bind fun q1 =>
  let M2 : oM := q1.2
  let r3 : Int := q1.1
  if r3 = 0 then (some (.inr (0, M2)))
  else (some (.inl M2))
def p_M_readsCondition_B58_40 (f : Nat) (M : oM) : Option ((oM) ⊕ (Int × oM)) :=
  (p_M_here f  M).bind fun q4 =>
  let M5 : oM := q4.2
  let r6 : Int := q4.1
  if r6 = 33 then (p_M_readsCondition_B75_40 f 10 M5)
  else (p_M_readsCondition_B75_40 f 13 M5)
def p_M_readsCondition_B215_40 (f : Nat) (s1 : Int) (M : oM) : Option ((oM) ⊕ (Int × oM)) :=
  (p_M_jumps f s1 M).bind fun q7 =>
  let M8 : oM := q7.2
  some (.inl M8)
def p_M_readsCondition_B195_40 (f : Nat) (s1 : Int) (M : oM) : Option ((oM) ⊕ (Int × oM)) :=
  (p_M_lands f s1 M).bind fun q9 =>
  let M10 : oM := q9.2
  (p_M_here f  M10).bind fun q11 =>
  let M12 : oM := q11.2
  let r13 : Int := q11.1
  if r13 = 38 then (p_M_readsCondition_B215_40 f 11 M12)
  else (p_M_readsCondition_B215_40 f 12 M12)
def p_M_readsCondition_B180_40 (f : Nat) (M : oM) : Option ((oM) ⊕ (Int × oM)) :=
  (p_M_here f  M).bind fun q14 =>
  let M15 : oM := q14.2
  let r16 : Int := q14.1
  if r16 = 124 then (p_M_readsCondition_B195_40 f 1 M15)
  else (p_M_readsCondition_B195_40 f 0 M15)
def p_M_readsCondition_X92 (f : Nat) (r : (Int × oM) ⊕ (oM)) : Option ((oM) ⊕ (Int × oM)) := match r with
  | .inl q => some (.inr q)
  | .inr t =>
  let M : oM := t
  (p_M_here f  M).bind fun q17 =>
  let M18 : oM := q17.2
  let r19 : Int := q17.1
  if r19 = 38 then (p_M_readsCondition_B180_40 f M18)
  else ((p_M_here f  M18).bind fun q20 =>
  let M21 : oM := q20.2
  let r22 : Int := q20.1
  if r22 = 124 then (p_M_readsCondition_B180_40 f M21)
  else ((p_M_wrongAt f 1 (M21 57 8) M21).bind fun q23 =>
  let M24 : oM := q23.2
  let r25 : Int := q23.1
  bnd 2 r25 fun b26 => some (.inr (b26, M24))))
def p_M_readsCondition_L92 (f : Nat) (t : oM) : Option ((oM) ⊕ ((Int × oM) ⊕ (oM))) :=
  let M : oM := t
  (p_M_here f  M).bind fun q27 =>
  let M28 : oM := q27.2
  let r29 : Int := q27.1
  if r29 = 41 then ((p_M_lands f 1 M28).bind fun q30 =>
  let M31 : oM := q30.2
  let M32 : oM := oU M31 57 14 (w32 ((M31 57 14) - 1))
  let M33 : oM := oU M32 57 12 (w32 ((M32 57 12) - 1))
  let M34 : oM := oU M33 57 8 (w32 ((M33 57 8) + 1))
  if M34 57 14 = 0 then (some (.inr (.inl (1, M34))))
  else ((p_M_endsPiece f  M34).bind fun q35 =>
  let M36 : oM := q35.2
  some (.inl M36)))
  else (some (.inr (.inr M28)))
def p_M_readsCondition_L40 (f : Nat) (t : oM) : Option ((oM) ⊕ (Int × oM)) :=
  let M : oM := t
  (p_M_here f  M).bind fun q37 =>
  let M38 : oM := q37.2
  let r39 : Int := q37.1
  if r39 = 33 then (p_M_readsCondition_B58_40 f M38)
  else ((p_M_here f  M38).bind fun q40 =>
  let M41 : oM := q40.2
  let r42 : Int := q40.1
  if r42 = 40 then (p_M_readsCondition_B58_40 f M41)
  else ((p_M_readsCompared f  M41).bind fun q43 =>
  let M44 : oM := q43.2
  let r45 : Int := q43.1
  if r45 = 0 then (some (.inr (0, M44)))
  else ((iter (p_M_readsCondition_L92 f) f M44).bind (p_M_readsCondition_X92 f))))
def p_M_readsCondition (f : Nat) (M : oM) : Option (Int × oM) :=
  (p_M_here f  M).bind fun q46 =>
  let M47 : oM := q46.2
  let r48 : Int := q46.1
  if r48 = 40 then (let M49 : oM := oU M47 57 12 0
  let M50 : oM := oU M49 57 14 0
  (p_M_opens f 13 M50).bind fun q51 =>
  let M52 : oM := q51.2
  let r53 : Int := q51.1
  if r53 = 0 then (some (0, M52))
  else (iter (p_M_readsCondition_L40 f) f M52))
  else ((p_M_wrongAt f 1 (M47 57 8) M47).bind fun q54 =>
  let M55 : oM := q54.2
  let r56 : Int := q54.1
  bnd 2 r56 fun b57 => some (b57, M55))
def p_M_readsRule_B116 (f : Nat) (M : oM) : Option (Int × oM) :=
  bnd 16 (M 57 15) fun i1 =>
  let M2 : oM := oU M 68 i1 (M 57 13)
  (p_M_readsCondition f  M2).bind fun q3 =>
  let M4 : oM := q3.2
  let r5 : Int := q3.1
  if r5 = 0 then (some (0, M4))
  else (bnd 16 (M4 57 15) fun i6 =>
  let M7 : oM := oU M4 69 i6 (M4 57 13)
  let M8 : oM := oU M7 57 15 (w32 ((M7 57 15) + 1))
  some (1, M8))
def p_M_readsRule_B39 (f : Nat) (l1 : Int) (M : oM) : Option (Int × oM) :=
  if M 57 15 = 16 then ((p_M_wrongAt f 4 (M 57 8) M).bind fun q19 =>
  let M20 : oM := q19.2
  let r21 : Int := q19.1
  bnd 2 r21 fun b22 => some (b22, M20))
  else (bnd 16 (M 57 15) fun i9 =>
  let M10 : oM := oU M 66 i9 l1
  let M11 : oM := oU M10 57 8 (w32 ((M10 57 8) + 1))
  bnd 16 (M11 57 15) fun i12 =>
  let M13 : oM := oU M11 67 i12 (M11 57 13)
  let M14 : oM := oU M13 57 12 0
  let M15 : oM := oU M14 57 14 0
  if l1 = 115 then (p_M_readsRule_B116 f M15)
  else ((p_M_readsSum f  M15).bind fun q16 =>
  let M17 : oM := q16.2
  let r18 : Int := q16.1
  if r18 = 0 then (some (0, M17))
  else (p_M_readsRule_B116 f M17)))
def p_M_readsRule (f : Nat) (M : oM) : Option (Int × oM) :=
  (p_M_here f  M).bind fun q23 =>
  let M24 : oM := q23.2
  let r25 : Int := q23.1
  if r25 = 101 then (p_M_readsRule_B39 f r25 M24)
  else (if r25 = 105 then (p_M_readsRule_B39 f r25 M24)
  else (if r25 = 114 then (p_M_readsRule_B39 f r25 M24)
  else (if r25 = 115 then (p_M_readsRule_B39 f r25 M24)
  else ((p_M_wrongAt f 1 (M24 57 8) M24).bind fun q26 =>
  let M27 : oM := q26.2
  let r28 : Int := q26.1
  bnd 2 r28 fun b29 => some (b29, M27)))))
def p_M_takes (f : Nat) (l1 : Int) (M : oM) : Option (Int × oM) :=
  (p_M_here f  M).bind fun q1 =>
  let M2 : oM := q1.2
  let r3 : Int := q1.1
  if r3 = l1 then (let M4 : oM := oU M2 57 8 (w32 ((M2 57 8) + 1))
  some (1, M4))
  else ((p_M_wrongAt f 1 (M2 57 8) M2).bind fun q5 =>
  let M6 : oM := q5.2
  let r7 : Int := q5.1
  bnd 2 r7 fun b8 => some (b8, M6))
def p_M_law_L138 (f : Nat) (t : Int × oM) : Option ((Int × oM) ⊕ (Int × oM)) :=
  let l3 : Int := t.1
  let M : oM := t.2
  if l3 < M 57 15 then (bnd 16 l3 fun i1 =>
  bnd 16 l3 fun i2 =>
  let M3 : oM := oU M 71 i2 (M 66 i1)
  bnd 16 l3 fun i4 =>
  bnd 16 l3 fun i5 =>
  let M6 : oM := oU M3 72 i5 (M3 67 i4)
  bnd 16 l3 fun i7 =>
  bnd 16 l3 fun i8 =>
  let M9 : oM := oU M6 73 i8 (M6 68 i7)
  bnd 16 l3 fun i10 =>
  bnd 16 l3 fun i11 =>
  let M12 : oM := oU M9 74 i11 (M9 69 i10)
  let x13 : Int := w32 (l3 + 1)
  some (.inl (x13, M12)))
  else (some (.inr (M 57 15, M)))
def p_M_law_X110 (f : Nat) (t : oM) : Option (Int × oM) :=
  let M : oM := t
  iter (p_M_law_L138 f) f (0, M)
def p_M_law_L110 (f : Nat) (t : Int × oM) : Option ((Int × oM) ⊕ (oM)) :=
  let l3 : Int := t.1
  let M : oM := t.2
  if l3 < M 57 13 then (bnd 260 l3 fun i14 =>
  bnd 260 l3 fun i15 =>
  let M16 : oM := oU M 70 i15 (M 64 i14)
  let x17 : Int := w32 (l3 + 1)
  some (.inl (x17, M16)))
  else (some (.inr M))
def p_M_law_X46 (f : Nat) (t : Int × oM) : Option (Int × oM) :=
  let l2 : Int := t.1
  let M : oM := t.2
  let M18 : oM := oU M 57 7 0
  if l2 = 0 then (some (M18 57 10, M18))
  else (let M19 : oM := oU M18 57 16 (M18 57 15)
  (iter (p_M_law_L110 f) f (0, M19)).bind (p_M_law_X110 f))
def p_M_law_B82_46 (f : Nat) (s0 : Int) (M : oM) : Option ((Int × oM) ⊕ (Int × oM)) :=
  some (.inl (s0, M))
def p_M_law_B81_46 (f : Nat) (M : oM) : Option ((Int × oM) ⊕ (Int × oM)) :=
  p_M_law_B82_46 f 0 M
def p_M_law_L46 (f : Nat) (t : Int × oM) : Option ((Int × oM) ⊕ (Int × oM)) :=
  let l2 : Int := t.1
  let M : oM := t.2
  if l2 = 0 then (some (.inr (l2, M)))
  else (if M 57 8 < M 57 9 then ((p_M_takes f 59 M).bind fun q20 =>
  let M21 : oM := q20.2
  let r22 : Int := q20.1
  if r22 = 0 then (p_M_law_B81_46 f M21)
  else ((p_M_readsRule f  M21).bind fun q23 =>
  let M24 : oM := q23.2
  let r25 : Int := q23.1
  if r25 = 0 then (p_M_law_B81_46 f M24)
  else (p_M_law_B82_46 f 1 M24)))
  else (some (.inr (l2, M))))
def p_M_law (f : Nat) (l1 : Int) (M : oM) : Option (Int × oM) :=
  (p_M_in f l1 1 240 M).bind fun q26 =>
  let M27 : oM := q26.2
  let r28 : Int := q26.1
  if r28 = 0 then (some ((-1), M27))
  else (if M27 57 7 < l1 then (some ((-1), M27))
  else (let M29 : oM := oU M27 57 8 0
  let M30 : oM := oU M29 57 9 l1
  let M31 : oM := oU M30 57 13 0
  let M32 : oM := oU M31 57 15 0
  (p_M_readsRule f  M32).bind fun q33 =>
  let M34 : oM := q33.2
  let r35 : Int := q33.1
  (iter (p_M_law_L46 f) f (r35, M34)).bind (p_M_law_X46 f)))
def p_M_debtOf (f : Nat) (l1 : Int) (l2 : Int) (M : oM) : Option (Int × oM) :=
  bnd 159 (w32 ((w32 (0 + (w32 (10 * l1)))) + l2)) fun i1 =>
  some (M 58 i1, M)
def p_M_owesAll_L4 (f : Nat) (l1 : Int) (t : Int × Int × oM) : Option ((Int × Int × oM) ⊕ (Int × oM)) :=
  let l2 : Int := t.1
  let l3 : Int := t.2.1
  let M : oM := t.2.2
  if l3 < 10 then ((p_M_debtOf f l1 l3 M).bind fun q1 =>
  let M2 : oM := q1.2
  let r3 : Int := q1.1
  let x4 : Int := w32 (l2 + r3)
  let x5 : Int := w32 (l3 + 1)
  some (.inl (x4, x5, M2)))
  else (some (.inr (l2, M)))
def p_M_owesAll (f : Nat) (l1 : Int) (M : oM) : Option (Int × oM) :=
  iter (p_M_owesAll_L4 f l1) f (0, 0, M)
def p_M_owedInAll_L4 (f : Nat) (t : Int × Int × oM) : Option ((Int × Int × oM) ⊕ (Int × oM)) :=
  let l1 : Int := t.1
  let l2 : Int := t.2.1
  let M : oM := t.2.2
  if l2 < 10 then ((p_M_owesAll f l2 M).bind fun q1 =>
  let M2 : oM := q1.2
  let r3 : Int := q1.1
  let x4 : Int := w32 (l1 + r3)
  let x5 : Int := w32 (l2 + 1)
  some (.inl (x4, x5, M2)))
  else (some (.inr (l1, M)))
def p_M_owedInAll (f : Nat) (M : oM) : Option (Int × oM) :=
  iter (p_M_owedInAll_L4 f) f (0, 0, M)
def p_M_min (f : Nat) (l0 : Int) (l1 : Int) (M : oM) : Option (Int × oM) :=
  if l0 < l1 then (some (l0, M))
  else (some (l1, M))
def p_M_readsPerson_B47 (f : Nat) (M : oM) : Option (Int × oM) :=
  (p_M_here f  M).bind fun q1 =>
  let M2 : oM := q1.2
  let r3 : Int := q1.1
  let M4 : oM := oU M2 57 11 (w32 (r3 - 97))
  (p_M_isPerson f (M4 57 11) M4).bind fun q5 =>
  let M6 : oM := q5.2
  let r7 : Int := q5.1
  if r7 = 0 then ((p_M_wrongAt f 7 (M6 57 8) M6).bind fun q9 =>
  let M10 : oM := q9.2
  let r11 : Int := q9.1
  bnd 2 r11 fun b12 => some (b12, M10))
  else (let M8 : oM := oU M6 57 8 (w32 ((M6 57 8) + 1))
  some (1, M8))
def p_M_readsPerson (f : Nat) (l1 : Int) (M : oM) : Option (Int × oM) :=
  (p_M_here f  M).bind fun q13 =>
  let M14 : oM := q13.2
  let r15 : Int := q13.1
  (p_M_in f r15 97 106 M14).bind fun q16 =>
  let M17 : oM := q16.2
  let r18 : Int := q16.1
  if r18 = 0 then ((p_M_wrongAt f 1 (M17 57 8) M17).bind fun q23 =>
  let M24 : oM := q23.2
  let r25 : Int := q23.1
  bnd 2 r25 fun b26 => some (b26, M24))
  else (if l1 = 0 then (p_M_readsPerson_B47 f M17)
  else (if M17 57 31 = 30 then ((p_M_wrongAt f 4 (M17 57 8) M17).bind fun q19 =>
  let M20 : oM := q19.2
  let r21 : Int := q19.1
  bnd 2 r21 fun b22 => some (b22, M20))
  else (p_M_readsPerson_B47 f M17)))
def p_M_readsLine_B121_76 (f : Nat) (l1 : Int) (l2 : Int) (l3 : Int) (l4 : Int) (M : oM) : Option ((Int × oM) ⊕ (Int × oM)) :=
  if l4 = 0 then ((p_M_wrongAt f 3 l3 M).bind fun q8 =>
  let M9 : oM := q8.2
  let r10 : Int := q8.1
  bnd 2 r10 fun b11 => some (.inr (b11, M9)))
  else (bnd 100 (w32 ((w32 (10 * l1)) + l2)) fun i1 =>
  (p_M_min f 99 (w32 ((M 77 i1) + l4)) M).bind fun q2 =>
  let M3 : oM := q2.2
  let r4 : Int := q2.1
  bnd 100 (w32 ((w32 (10 * l1)) + l2)) fun i5 =>
  let M6 : oM := oU M3 77 i5 r4
  let M7 : oM := oU M6 57 31 (w32 ((M6 57 31) + 1))
  some (.inr (1, M7)))
def p_M_readsLine_L76 (f : Nat) (l1 : Int) (l2 : Int) (l3 : Int) (t : Int × oM) : Option ((Int × oM) ⊕ (Int × oM)) :=
  let l4 : Int := t.1
  let M : oM := t.2
  (p_M_isDigit f  M).bind fun q12 =>
  let M13 : oM := q12.2
  let r14 : Int := q12.1
  if r14 = 0 then (p_M_readsLine_B121_76 f l1 l2 l3 l4 M13)
  else (if M13 57 8 < w32 (l3 + 2) then ((p_M_here f  M13).bind fun q15 =>
  let M16 : oM := q15.2
  let r17 : Int := q15.1
  let x18 : Int := w32 ((w32 ((w32 (10 * l4)) + r17)) - 48)
  let M19 : oM := oU M16 57 8 (w32 ((M16 57 8) + 1))
  some (.inl (x18, M19)))
  else (p_M_readsLine_B121_76 f l1 l2 l3 l4 M13))
def p_M_readsLine_B74 (f : Nat) (l1 : Int) (l2 : Int) (l3 : Int) (s0 : Int) (M : oM) : Option (Int × oM) :=
  iter (p_M_readsLine_L76 f l1 l2 l3) f (s0, M)
def p_M_readsLine (f : Nat) (M : oM) : Option (Int × oM) :=
  (p_M_readsPerson f 1 M).bind fun q20 =>
  let M21 : oM := q20.2
  let r22 : Int := q20.1
  if r22 = 0 then (some (0, M21))
  else (let x23 : Int := M21 57 11
  (p_M_takes f 62 M21).bind fun q24 =>
  let M25 : oM := q24.2
  let r26 : Int := q24.1
  if r26 = 0 then (some (0, M25))
  else ((p_M_readsPerson f 0 M25).bind fun q27 =>
  let M28 : oM := q27.2
  let r29 : Int := q27.1
  if r29 = 0 then (some (0, M28))
  else (let x30 : Int := M28 57 11
  if x23 = x30 then ((p_M_wrongAt f 6 (w32 ((M28 57 8) - 1)) M28).bind fun q35 =>
  let M36 : oM := q35.2
  let r37 : Int := q35.1
  bnd 2 r37 fun b38 => some (b38, M36))
  else (let x31 : Int := M28 57 8
  (p_M_isDigit f  M28).bind fun q32 =>
  let M33 : oM := q32.2
  let r34 : Int := q32.1
  if r34 = 0 then (p_M_readsLine_B74 f x23 x30 x31 1 M33)
  else (p_M_readsLine_B74 f x23 x30 x31 0 M33)))))
def p_M_debts_L118 (f : Nat) (t : Int × oM) : Option ((Int × oM) ⊕ (Int × oM)) :=
  let l3 : Int := t.1
  let M : oM := t.2
  if l3 < 100 then (bnd 100 l3 fun i4 =>
  bnd 159 (w32 (0 + l3)) fun i5 =>
  let M6 : oM := oU M 58 i5 (M 77 i4)
  let x7 : Int := w32 (l3 + 1)
  some (.inl (x7, M6)))
  else ((p_M_owedInAll f  M).bind fun q1 =>
  let M2 : oM := q1.2
  let r3 : Int := q1.1
  some (.inr (r3, M2)))
def p_M_debts_X62 (f : Nat) (t : Int × oM) : Option (Int × oM) :=
  let l2 : Int := t.1
  let M : oM := t.2
  let M8 : oM := oU M 57 7 0
  if l2 = 0 then (some (M8 57 10, M8))
  else (iter (p_M_debts_L118 f) f (0, M8))
def p_M_debts_B98_62 (f : Nat) (s0 : Int) (M : oM) : Option ((Int × oM) ⊕ (Int × oM)) :=
  some (.inl (s0, M))
def p_M_debts_B97_62 (f : Nat) (M : oM) : Option ((Int × oM) ⊕ (Int × oM)) :=
  p_M_debts_B98_62 f 0 M
def p_M_debts_L62 (f : Nat) (t : Int × oM) : Option ((Int × oM) ⊕ (Int × oM)) :=
  let l2 : Int := t.1
  let M : oM := t.2
  if l2 = 0 then (some (.inr (l2, M)))
  else (if M 57 8 < M 57 9 then ((p_M_takes f 59 M).bind fun q9 =>
  let M10 : oM := q9.2
  let r11 : Int := q9.1
  if r11 = 0 then (p_M_debts_B97_62 f M10)
  else ((p_M_readsLine f  M10).bind fun q12 =>
  let M13 : oM := q12.2
  let r14 : Int := q12.1
  if r14 = 0 then (p_M_debts_B97_62 f M13)
  else (p_M_debts_B98_62 f 1 M13)))
  else (some (.inr (l2, M))))
def p_M_debts_X38 (f : Nat) (t : oM) : Option (Int × oM) :=
  let M : oM := t
  (p_M_readsLine f  M).bind fun q15 =>
  let M16 : oM := q15.2
  let r17 : Int := q15.1
  (iter (p_M_debts_L62 f) f (r17, M16)).bind (p_M_debts_X62 f)
def p_M_debts_L38 (f : Nat) (t : Int × oM) : Option ((Int × oM) ⊕ (oM)) :=
  let l2 : Int := t.1
  let M : oM := t.2
  if l2 < 100 then (bnd 100 l2 fun i18 =>
  let M19 : oM := oU M 77 i18 0
  let x20 : Int := w32 (l2 + 1)
  some (.inl (x20, M19)))
  else (some (.inr M))
def p_M_debts (f : Nat) (l1 : Int) (M : oM) : Option (Int × oM) :=
  (p_M_in f l1 1 160 M).bind fun q21 =>
  let M22 : oM := q21.2
  let r23 : Int := q21.1
  if r23 = 0 then (some ((-1), M22))
  else (if M22 57 7 < l1 then (some ((-1), M22))
  else (let M24 : oM := oU M22 57 8 0
  let M25 : oM := oU M24 57 9 l1
  let M26 : oM := oU M25 57 31 0
  (iter (p_M_debts_L38 f) f (0, M26)).bind (p_M_debts_X38 f)))
def p_M_begins (f : Nat) (M : oM) : Option (Int × oM) :=
  let M1 : oM := oU M 57 32 0
  let M2 : oM := oU M1 57 33 0
  let M3 : oM := oU M2 57 34 0
  some (0, M3)
def p_M_reckon (f : Nat) (l0 : Int) (l1 : Int) (l2 : Int) (M : oM) : Option (Int × oM) :=
  if l0 = 2 then (some (w32 (l1 + l2), M))
  else (if l0 = 3 then (some (w32 (l1 - l2), M))
  else (if l0 = 4 then (some (w32 (l1 * l2), M))
  else (if l0 = 5 then (nz l2 fun z1 =>
  some (w32 (Int.tdiv l1 z1), M))
  else (if l0 = 6 then (nz l2 fun z2 =>
  some (Int.tmod l1 z2, M))
  else (if l0 = 7 then (if l1 < l2 then (some (1, M))
  else (some (0, M)))
  else (if l0 = 8 then (if l2 < l1 then (some (1, M))
  else (some (0, M)))
  else (if l1 = l2 then (some (1, M))
  else (some (0, M)))))))))
def p_M_comesTo_B230_16 (f : Nat) (l2 : Int) (l3 : Int) (l4 : Int) (l5 : Int) (M : oM) : Option ((Int × Int × oM) ⊕ (Int × oM)) :=
  some (.inl (l3, l5, M))
def p_M_comesTo_B85_16 (f : Nat) (l2 : Int) (l3 : Int) (l4 : Int) (l5 : Int) (s1 : Int) (s2 : Int) (M : oM) : Option ((Int × Int × oM) ⊕ (Int × oM)) :=
  bnd 260 s1 fun i1 =>
  let M2 : oM := oU M 75 i1 s2
  let x3 : Int := w32 (l3 + 1)
  p_M_comesTo_B230_16 f l2 x3 l4 l5 M2
def p_M_comesTo_B63_16 (f : Nat) (l2 : Int) (l3 : Int) (l4 : Int) (l5 : Int) (l6 : Int) (l7 : Int) (M : oM) : Option ((Int × Int × oM) ⊕ (Int × oM)) :=
  if l6 = 0 then (p_M_comesTo_B85_16 f l2 l3 l4 l5 l3 l7 M)
  else (bnd 8 l7 fun i4 =>
  p_M_comesTo_B85_16 f l2 l3 l4 l5 l3 (M 76 i4) M)
def p_M_comesTo_B155_16 (f : Nat) (l2 : Int) (l3 : Int) (l4 : Int) (l5 : Int) (l7 : Int) (s0 : Int) (s1 : Int) (M : oM) : Option ((Int × Int × oM) ⊕ (Int × oM)) :=
  if s0 = s1 then (let x6 : Int := w32 (l4 + l7)
  p_M_comesTo_B230_16 f l2 l3 l4 x6 M)
  else (let x5 : Int := w32 (l3 - 1)
  p_M_comesTo_B230_16 f l2 x5 l4 l5 M)
def p_M_comesTo_B135_16 (f : Nat) (l2 : Int) (l3 : Int) (l4 : Int) (l5 : Int) (l6 : Int) (l7 : Int) (M : oM) : Option ((Int × Int × oM) ⊕ (Int × oM)) :=
  bnd 260 (w32 (l3 - 1)) fun i7 =>
  if l6 = 12 then (p_M_comesTo_B155_16 f l2 l3 l4 l5 l7 (M 75 i7) 1 M)
  else (p_M_comesTo_B155_16 f l2 l3 l4 l5 l7 (M 75 i7) 0 M)
def p_M_comesTo_B203_16 (f : Nat) (l2 : Int) (l3 : Int) (l4 : Int) (l5 : Int) (l6 : Int) (M : oM) : Option ((Int × Int × oM) ⊕ (Int × oM)) :=
  bnd 260 (w32 (l3 - 1)) fun i8 =>
  bnd 260 l3 fun i9 =>
  (p_M_reckon f l6 (M 75 i8) (M 75 i9) M).bind fun q10 =>
  let M11 : oM := q10.2
  let r12 : Int := q10.1
  bnd 260 (w32 (l3 - 1)) fun i13 =>
  let M14 : oM := oU M11 75 i13 r12
  p_M_comesTo_B230_16 f l2 l3 l4 l5 M14
def p_M_comesTo_B192_16 (f : Nat) (l2 : Int) (l3 : Int) (l4 : Int) (l5 : Int) (l6 : Int) (M : oM) : Option ((Int × Int × oM) ⊕ (Int × oM)) :=
  bnd 260 l3 fun i15 =>
  if M 75 i15 = 0 then (some (.inr (0, M)))
  else (p_M_comesTo_B203_16 f l2 l3 l4 l5 l6 M)
def p_M_comesTo_L16 (f : Nat) (l2 : Int) (l4 : Int) (t : Int × Int × oM) : Option ((Int × Int × oM) ⊕ (Int × oM)) :=
  let l3 : Int := t.1
  let l5 : Int := t.2.1
  let M : oM := t.2.2
  if l5 < l2 then (bnd 260 l5 fun i17 =>
  nz 1048576 fun z18 =>
  let x19 : Int := w32 (Int.tdiv (M 70 i17) z18)
  bnd 260 l5 fun i20 =>
  nz 1048576 fun z21 =>
  let x22 : Int := Int.tmod (M 70 i20) z21
  let x23 : Int := w32 (l5 + 1)
  if x19 = 0 then (p_M_comesTo_B63_16 f l2 l3 l4 x23 x19 x22 M)
  else (if x19 = 1 then (p_M_comesTo_B63_16 f l2 l3 l4 x23 x19 x22 M)
  else (if x19 = 10 then (bnd 260 (w32 (l3 - 1)) fun i25 =>
  bnd 260 (w32 (l3 - 1)) fun i26 =>
  let M27 : oM := oU M 75 i26 (w32 (1 - (M 75 i25)))
  p_M_comesTo_B230_16 f l2 l3 l4 x23 M27)
  else (if x19 = 11 then (p_M_comesTo_B135_16 f l2 l3 l4 x23 x19 x22 M)
  else (if x19 = 12 then (p_M_comesTo_B135_16 f l2 l3 l4 x23 x19 x22 M)
  else (let x24 : Int := w32 (l3 - 1)
  if x19 = 5 then (p_M_comesTo_B192_16 f l2 x24 l4 x23 x19 M)
  else (if x19 = 6 then (p_M_comesTo_B192_16 f l2 x24 l4 x23 x19 M)
  else (p_M_comesTo_B203_16 f l2 x24 l4 x23 x19 M))))))))
  else (bnd 260 0 fun i16 =>
  some (.inr (M 75 i16, M)))
def p_M_comesTo (f : Nat) (l1 : Int) (l2 : Int) (M : oM) : Option (Int × oM) :=
  nz 260 fun z28 =>
  let x29 : Int := w32 (260 * (w32 (Int.tdiv l1 z28)))
  iter (p_M_comesTo_L16 f l2 x29) f (0, l1, M)
def p_M_byLaw_B83_2 (f : Nat) (l1 : Int) (l2 : Int) (l3 : Int) (M : oM) : Option ((Int × oM) ⊕ (Int × oM)) :=
  let x1 : Int := w32 (l3 + 1)
  some (.inl (x1, M))
def p_M_byLaw_L2 (f : Nat) (l1 : Int) (l2 : Int) (t : Int × oM) : Option ((Int × oM) ⊕ (Int × oM)) :=
  let l3 : Int := t.1
  let M : oM := t.2
  if l3 < M 57 16 then (bnd 16 l3 fun i2 =>
  if M 71 i2 = l1 then (bnd 16 l3 fun i3 =>
  bnd 16 l3 fun i4 =>
  (p_M_comesTo f (M 73 i3) (M 74 i4) M).bind fun q5 =>
  let M6 : oM := q5.2
  let r7 : Int := q5.1
  if r7 = 1 then (bnd 16 l3 fun i8 =>
  bnd 16 l3 fun i9 =>
  (p_M_comesTo f (M6 72 i8) (M6 73 i9) M6).bind fun q10 =>
  let M11 : oM := q10.2
  let r12 : Int := q10.1
  if r12 < 0 then (some (.inr (0, M11)))
  else (if l2 < r12 then (some (.inr (l2, M11)))
  else (some (.inr (r12, M11)))))
  else (p_M_byLaw_B83_2 f l1 l2 l3 M6))
  else (p_M_byLaw_B83_2 f l1 l2 l3 M))
  else (some (.inr (0, M)))
def p_M_byLaw (f : Nat) (l1 : Int) (l2 : Int) (M : oM) : Option (Int × oM) :=
  iter (p_M_byLaw_L2 f l1 l2) f (0, M)
def p_M_chalksOf_B35_4 (f : Nat) (l1 : Int) (l3 : Int) (s0 : Int) (s1 : Int) (M : oM) : Option ((Int × Int × oM) ⊕ (Int × oM)) :=
  let x1 : Int := w32 (s0 + s1)
  let x2 : Int := w32 (l3 + 1)
  some (.inl (x1, x2, M))
def p_M_chalksOf_L4 (f : Nat) (l1 : Int) (t : Int × Int × oM) : Option ((Int × Int × oM) ⊕ (Int × oM)) :=
  let l2 : Int := t.1
  let l3 : Int := t.2.1
  let M : oM := t.2.2
  bnd 159 150 fun i3 =>
  if l3 < M 58 i3 then (bnd 159 (w32 (110 + l3)) fun i4 =>
  if M 58 i4 = l1 then (p_M_chalksOf_B35_4 f l1 l3 l2 1 M)
  else (p_M_chalksOf_B35_4 f l1 l3 l2 0 M))
  else (some (.inr (l2, M)))
def p_M_chalksOf (f : Nat) (l1 : Int) (M : oM) : Option (Int × oM) :=
  iter (p_M_chalksOf_L4 f l1) f (0, 0, M)
def p_M_feels_L2 (f : Nat) (l1 : Int) (t : Int × oM) : Option ((Int × oM) ⊕ (Int × oM)) :=
  let l2 : Int := t.1
  let M : oM := t.2
  if l2 < 8 then (bnd 8 l2 fun i6 =>
  let M7 : oM := oU M 76 i6 0
  let x8 : Int := w32 (l2 + 1)
  some (.inl (x8, M7)))
  else (bnd 8 6 fun i1 =>
  let M2 : oM := oU M 76 i1 l1
  bnd 159 156 fun i3 =>
  bnd 8 7 fun i4 =>
  let M5 : oM := oU M2 76 i4 (M2 58 i3)
  some (.inr (0, M5)))
def p_M_feels (f : Nat) (l1 : Int) (M : oM) : Option (Int × oM) :=
  iter (p_M_feels_L2 f l1) f (0, M)
def p_M_max (f : Nat) (l0 : Int) (l1 : Int) (M : oM) : Option (Int × oM) :=
  if l1 < l0 then (some (l0, M))
  else (some (l1, M))
def p_M_size (f : Nat) (l0 : Int) (M : oM) : Option (Int × oM) :=
  if l0 < 0 then (some (w32 (-l0), M))
  else (some (l0, M))
def p_M_wayOf (f : Nat) (l1 : Int) (l2 : Int) (M : oM) : Option (Int × oM) :=
  bnd 10 l1 fun i1 =>
  bnd 10 l2 fun i2 =>
  (p_M_size f (w32 ((M 61 i1) - (M 61 i2))) M).bind fun q3 =>
  let M4 : oM := q3.2
  let r5 : Int := q3.1
  bnd 10 l1 fun i6 =>
  bnd 10 l2 fun i7 =>
  (p_M_size f (w32 ((M4 62 i6) - (M4 62 i7))) M4).bind fun q8 =>
  let M9 : oM := q8.2
  let r10 : Int := q8.1
  (p_M_max f 1 (w32 (r5 + r10)) M9).bind fun q11 =>
  let M12 : oM := q11.2
  let r13 : Int := q11.1
  some (r13, M12)
def p_M_feelsTwo (f : Nat) (l1 : Int) (l2 : Int) (M : oM) : Option (Int × oM) :=
  bnd 159 155 fun i1 =>
  (p_M_feels f (M 58 i1) M).bind fun q2 =>
  let M3 : oM := q2.2
  bnd 8 0 fun i4 =>
  let M5 : oM := oU M3 76 i4 l1
  bnd 8 1 fun i6 =>
  let M7 : oM := oU M5 76 i6 l2
  (p_M_debtOf f l1 l2 M7).bind fun q8 =>
  let M9 : oM := q8.2
  let r10 : Int := q8.1
  bnd 8 2 fun i11 =>
  let M12 : oM := oU M9 76 i11 r10
  (p_M_owesAll f l1 M12).bind fun q13 =>
  let M14 : oM := q13.2
  let r15 : Int := q13.1
  bnd 8 3 fun i16 =>
  let M17 : oM := oU M14 76 i16 r15
  (p_M_wayOf f l1 l2 M17).bind fun q18 =>
  let M19 : oM := q18.2
  let r20 : Int := q18.1
  bnd 8 4 fun i21 =>
  let M22 : oM := oU M19 76 i21 r20
  (p_M_chalksOf f l2 M22).bind fun q23 =>
  let M24 : oM := q23.2
  let r25 : Int := q23.1
  bnd 8 5 fun i26 =>
  let M27 : oM := oU M24 76 i26 r25
  some (0, M27)
def p_M_rainBy (f : Nat) (M : oM) : Option (Int × oM) :=
  (p_M_feels f 0 M).bind fun q1 =>
  let M2 : oM := q1.2
  (p_M_byLaw f 114 10 M2).bind fun q3 =>
  let M4 : oM := q3.2
  let r5 : Int := q3.1
  some (r5, M4)
def p_M_dayBegins_X86 (f : Nat) (l1 : Int) (t : oM) : Option ((Int × oM) ⊕ (Int × oM)) :=
  let M : oM := t
  let x1 : Int := w32 (l1 + 1)
  some (.inl (x1, M))
def p_M_dayBegins_B162_86 (f : Nat) (l1 : Int) (l2 : Int) (M : oM) : Option ((Int × oM) ⊕ (oM)) :=
  let x2 : Int := w32 (l2 + 1)
  some (.inl (x2, M))
def p_M_dayBegins_L86 (f : Nat) (l1 : Int) (t : Int × oM) : Option ((Int × oM) ⊕ (oM)) :=
  let l2 : Int := t.1
  let M : oM := t.2
  if l2 < 10 then ((p_M_debtOf f l1 l2 M).bind fun q3 =>
  let M4 : oM := q3.2
  let r5 : Int := q3.1
  if r5 = 0 then (p_M_dayBegins_B162_86 f l1 l2 M4)
  else ((p_M_feelsTwo f l1 l2 M4).bind fun q6 =>
  let M7 : oM := q6.2
  (p_M_debtOf f l1 l2 M7).bind fun q8 =>
  let M9 : oM := q8.2
  let r10 : Int := q8.1
  (p_M_byLaw f 105 9 M9).bind fun q11 =>
  let M12 : oM := q11.2
  let r13 : Int := q11.1
  (p_M_min f 99 (w32 (r10 + r13)) M12).bind fun q14 =>
  let M15 : oM := q14.2
  let r16 : Int := q14.1
  (p_M_debtOf f l1 l2 M15).bind fun q17 =>
  let M18 : oM := q17.2
  let r19 : Int := q17.1
  let M20 : oM := oU M18 57 34 (w32 ((w32 ((M15 57 34) + r16)) - r19))
  bnd 159 (w32 ((w32 (0 + (w32 (10 * l1)))) + l2)) fun i21 =>
  let M22 : oM := oU M20 58 i21 r16
  p_M_dayBegins_B162_86 f l1 l2 M22))
  else (some (.inr M))
def p_M_dayBegins_L78 (f : Nat) (t : Int × oM) : Option ((Int × oM) ⊕ (Int × oM)) :=
  let l1 : Int := t.1
  let M : oM := t.2
  if l1 < 10 then ((iter (p_M_dayBegins_L86 f l1) f (0, M)).bind (p_M_dayBegins_X86 f l1))
  else (some (.inr (0, M)))
def p_M_dayBegins_B58 (f : Nat) (s1 : Int) (s2 : Int) (M : oM) : Option (Int × oM) :=
  bnd 159 s1 fun i23 =>
  let M24 : oM := oU M 58 i23 s2
  bnd 159 157 fun i25 =>
  let M26 : oM := oU M24 57 33 (w32 ((M24 57 33) + (M24 58 i25)))
  iter (p_M_dayBegins_L78 f) f (0, M26)
def p_M_dayBegins (f : Nat) (M : oM) : Option (Int × oM) :=
  bnd 159 158 fun i27 =>
  nz 65536 fun z28 =>
  bnd 159 158 fun i29 =>
  let M30 : oM := oU M 58 i29 (Int.tmod (w32 ((w32 (25173 * (M 58 i27))) + 13849)) z28)
  bnd 159 158 fun i31 =>
  nz 10 fun z32 =>
  (p_M_rainBy f  M30).bind fun q33 =>
  let M34 : oM := q33.2
  let r35 : Int := q33.1
  if Int.tmod (M30 58 i31) z32 < r35 then (p_M_dayBegins_B58 f 157 1 M34)
  else (p_M_dayBegins_B58 f 157 0 M34)
def p_M_holdsAny_B42_2 (f : Nat) (l1 : Int) (l2 : Int) (M : oM) : Option ((Int × oM) ⊕ (Int × oM)) :=
  let x1 : Int := w32 (l2 + 1)
  some (.inl (x1, M))
def p_M_holdsAny_L2 (f : Nat) (l1 : Int) (t : Int × oM) : Option ((Int × oM) ⊕ (Int × oM)) :=
  let l2 : Int := t.1
  let M : oM := t.2
  if l2 < M 57 16 then (bnd 16 l2 fun i2 =>
  if M 71 i2 = l1 then (bnd 16 l2 fun i3 =>
  bnd 16 l2 fun i4 =>
  (p_M_comesTo f (M 73 i3) (M 74 i4) M).bind fun q5 =>
  let M6 : oM := q5.2
  let r7 : Int := q5.1
  if r7 = 1 then (some (.inr (1, M6)))
  else (p_M_holdsAny_B42_2 f l1 l2 M6))
  else (p_M_holdsAny_B42_2 f l1 l2 M))
  else (some (.inr (0, M)))
def p_M_holdsAny (f : Nat) (l1 : Int) (M : oM) : Option (Int × oM) :=
  iter (p_M_holdsAny_L2 f l1) f (0, M)
def p_M_likesBy (f : Nat) (l1 : Int) (l2 : Int) (M : oM) : Option (Int × oM) :=
  (p_M_feelsTwo f l1 l2 M).bind fun q1 =>
  let M2 : oM := q1.2
  (p_M_holdsAny f 115 M2).bind fun q3 =>
  let M4 : oM := q3.2
  let r5 : Int := q3.1
  if r5 = 0 then ((p_M_byLaw f 101 9999 M4).bind fun q6 =>
  let M7 : oM := q6.2
  let r8 : Int := q6.1
  some (r8, M7))
  else (some (0, M4))
def p_M_nextPaid_B61_8 (f : Nat) (l1 : Int) (l2 : Int) (l3 : Int) (l4 : Int) (M : oM) : Option ((Int × Int × Int × oM) ⊕ (Int × oM)) :=
  let x1 : Int := w32 (l4 + 1)
  some (.inl (l2, l3, x1, M))
def p_M_nextPaid_L8 (f : Nat) (l1 : Int) (t : Int × Int × Int × oM) : Option ((Int × Int × Int × oM) ⊕ (Int × oM)) :=
  let l2 : Int := t.1
  let l3 : Int := t.2.1
  let l4 : Int := t.2.2.1
  let M : oM := t.2.2.2
  if l4 < 10 then ((p_M_isPerson f l4 M).bind fun q2 =>
  let M3 : oM := q2.2
  let r4 : Int := q2.1
  if r4 = 0 then (p_M_nextPaid_B61_8 f l1 l2 l3 l4 M3)
  else ((p_M_debtOf f l1 l4 M3).bind fun q5 =>
  let M6 : oM := q5.2
  let r7 : Int := q5.1
  if r7 = 0 then (p_M_nextPaid_B61_8 f l1 l2 l3 l4 M6)
  else ((p_M_likesBy f l1 l4 M6).bind fun q8 =>
  let M9 : oM := q8.2
  let r10 : Int := q8.1
  if l3 < r10 then (p_M_nextPaid_B61_8 f l1 l4 r10 l4 M9)
  else (p_M_nextPaid_B61_8 f l1 l2 l3 l4 M9))))
  else (some (.inr (l2, M)))
def p_M_nextPaid (f : Nat) (l1 : Int) (M : oM) : Option (Int × oM) :=
  iter (p_M_nextPaid_L8 f l1) f ((-2), 0, 0, M)
def p_M_setsOut (f : Nat) (l1 : Int) (l2 : Int) (M : oM) : Option (Int × oM) :=
  bnd 159 151 fun i1 =>
  let M2 : oM := oU M 58 i1 (-2)
  bnd 159 152 fun i3 =>
  let M4 : oM := oU M2 58 i3 l1
  bnd 159 153 fun i5 =>
  let M6 : oM := oU M4 58 i5 l2
  (p_M_wayOf f l1 l2 M6).bind fun q7 =>
  let M8 : oM := q7.2
  let r9 : Int := q7.1
  bnd 159 154 fun i10 =>
  let M11 : oM := oU M8 58 i10 r9
  some (0, M11)
def p_M_holds (f : Nat) (l1 : Int) (M : oM) : Option (Int × oM) :=
  bnd 159 (w32 (100 + l1)) fun i1 =>
  bnd 159 (w32 (100 + l1)) fun i2 =>
  let M3 : oM := oU M 58 i2 (w32 ((M 58 i1) + 1))
  bnd 159 155 fun i4 =>
  (p_M_in f (M3 58 i4) 6 19 M3).bind fun q5 =>
  let M6 : oM := q5.2
  let r7 : Int := q5.1
  if r7 = 0 then (some (0, M6))
  else (bnd 159 157 fun i8 =>
  if M6 58 i8 = 1 then (some (0, M6))
  else ((p_M_nextPaid f l1 M6).bind fun q9 =>
  let M10 : oM := q9.2
  let r11 : Int := q9.1
  if r11 < 0 then (some (0, M10))
  else ((p_M_setsOut f l1 r11 M10).bind fun q12 =>
  let M13 : oM := q12.2
  some (0, M13))))
def p_M_chalks_L15 (f : Nat) (l1 : Int) (t : Int × oM) : Option ((Int × oM) ⊕ (Int × oM)) :=
  let l2 : Int := t.1
  let M : oM := t.2
  if l2 < 40 then (bnd 159 (w32 (110 + l2)) fun i9 =>
  bnd 159 (w32 ((w32 (110 + l2)) - 1)) fun i10 =>
  let M11 : oM := oU M 58 i10 (M 58 i9)
  let x12 : Int := w32 (l2 + 1)
  some (.inl (x12, M11)))
  else (bnd 159 150 fun i1 =>
  let M2 : oM := oU M 58 i1 39
  bnd 159 150 fun i3 =>
  bnd 159 (w32 (110 + (M2 58 i3))) fun i4 =>
  let M5 : oM := oU M2 58 i4 l1
  bnd 159 150 fun i6 =>
  bnd 159 150 fun i7 =>
  let M8 : oM := oU M5 58 i7 (w32 ((M5 58 i6) + 1))
  some (.inr (0, M8)))
def p_M_chalks (f : Nat) (l1 : Int) (M : oM) : Option (Int × oM) :=
  bnd 159 150 fun i13 =>
  if M 58 i13 = 40 then (iter (p_M_chalks_L15 f l1) f (1, M))
  else (bnd 159 150 fun i14 =>
  bnd 159 (w32 (110 + (M 58 i14))) fun i15 =>
  let M16 : oM := oU M 58 i15 l1
  bnd 159 150 fun i17 =>
  bnd 159 150 fun i18 =>
  let M19 : oM := oU M16 58 i18 (w32 ((M16 58 i17) + 1))
  some (0, M19))
def p_M_pays (f : Nat) (l1 : Int) (l2 : Int) (M : oM) : Option (Int × oM) :=
  (p_M_debtOf f l1 l2 M).bind fun q1 =>
  let M2 : oM := q1.2
  let r3 : Int := q1.1
  (p_M_max f 0 (w32 (r3 - 1)) M2).bind fun q4 =>
  let M5 : oM := q4.2
  let r6 : Int := q4.1
  bnd 159 (w32 ((w32 (0 + (w32 (10 * l1)))) + l2)) fun i7 =>
  let M8 : oM := oU M5 58 i7 r6
  (p_M_rests f l2 M8).bind fun q9 =>
  let M10 : oM := q9.2
  (p_M_chalks f l2 M10).bind fun q11 =>
  let M12 : oM := q11.2
  some (0, M12)
def p_M_hourGoes_B125 (f : Nat) (M : oM) : Option (Int × oM) :=
  bnd 159 155 fun i1 =>
  bnd 159 155 fun i2 =>
  let M3 : oM := oU M 58 i2 (w32 ((M 58 i1) + 1))
  bnd 159 155 fun i4 =>
  if M3 58 i4 < 24 then (some (0, M3))
  else (bnd 159 155 fun i5 =>
  let M6 : oM := oU M3 58 i5 0
  bnd 159 156 fun i7 =>
  bnd 159 156 fun i8 =>
  let M9 : oM := oU M6 58 i8 (w32 ((M6 58 i7) + 1))
  some (0, M9))
def p_M_hourGoes_B21 (f : Nat) (M : oM) : Option (Int × oM) :=
  bnd 159 154 fun i10 =>
  if 0 < M 58 i10 then (bnd 159 154 fun i15 =>
  bnd 159 154 fun i16 =>
  let M17 : oM := oU M 58 i16 (w32 ((M 58 i15) - 1))
  bnd 159 154 fun i18 =>
  if M17 58 i18 = 0 then (bnd 159 153 fun i19 =>
  let M20 : oM := oU M17 57 35 (M17 58 i19)
  bnd 159 152 fun i21 =>
  (p_M_pays f (M20 58 i21) (M20 57 35) M20).bind fun q22 =>
  let M23 : oM := q22.2
  let M24 : oM := oU M23 57 32 (w32 ((M23 57 32) + 1))
  p_M_hourGoes_B125 f M24)
  else (p_M_hourGoes_B125 f M17))
  else (bnd 159 151 fun i11 =>
  if M 58 i11 < 0 then (p_M_hourGoes_B125 f M)
  else (bnd 159 151 fun i12 =>
  (p_M_holds f (M 58 i12) M).bind fun q13 =>
  let M14 : oM := q13.2
  p_M_hourGoes_B125 f M14))
def p_M_hourGoes (f : Nat) (M : oM) : Option (Int × oM) :=
  let M25 : oM := oU M 57 35 (-2)
  bnd 159 155 fun i26 =>
  if M25 58 i26 = 0 then ((p_M_dayBegins f  M25).bind fun q27 =>
  let M28 : oM := q27.2
  p_M_hourGoes_B21 f M28)
  else (p_M_hourGoes_B21 f M25)
def p_M_hoursGo_L6 (f : Nat) (l1 : Int) (t : Int × oM) : Option ((Int × oM) ⊕ (Int × oM)) :=
  let l2 : Int := t.1
  let M : oM := t.2
  if l2 < l1 then (bnd 159 156 fun i1 =>
  if M 58 i1 < 9999 then ((p_M_hourGoes f  M).bind fun q2 =>
  let M3 : oM := q2.2
  let x4 : Int := w32 (l2 + 1)
  some (.inl (x4, M3)))
  else (some (.inr (0, M))))
  else (some (.inr (0, M)))
def p_M_hoursGo (f : Nat) (l1 : Int) (M : oM) : Option (Int × oM) :=
  (p_M_begins f  M).bind fun q5 =>
  let M6 : oM := q5.2
  iter (p_M_hoursGo_L6 f l1) f (0, M6)
def p_M_hours (f : Nat) (l1 : Int) (M : oM) : Option (Int × oM) :=
  (p_M_in f l1 1 240 M).bind fun q1 =>
  let M2 : oM := q1.2
  let r3 : Int := q1.1
  if r3 = 0 then (some ((-1), M2))
  else ((p_M_hoursGo f l1 M2).bind fun q4 =>
  let M5 : oM := q4.2
  some (M5 57 32, M5))
def p_M_copies_L2 (f : Nat) (o0 : Nat) (o1 : Nat) (t : Int × oM) : Option ((Int × oM) ⊕ (Int × oM)) :=
  let l2 : Int := t.1
  let M : oM := t.2
  if l2 < 159 then (bnd 159 l2 fun i1 =>
  bnd 159 l2 fun i2 =>
  let M3 : oM := oU M o1 i2 (M o0 i1)
  let x4 : Int := w32 (l2 + 1)
  some (.inl (x4, M3)))
  else (some (.inr (0, M)))
def p_M_copies (f : Nat) (o0 : Nat) (o1 : Nat) (M : oM) : Option (Int × oM) :=
  iter (p_M_copies_L2 f o0 o1) f (0, M)
def p_M_tried_B182 (f : Nat) (l3 : Int) (M : oM) : Option (Int × oM) :=
  (p_M_copies f 59 58  M).bind fun q1 =>
  let M2 : oM := q1.2
  some (l3, M2)
def p_M_tried_B44 (f : Nat) (l1 : Int) (l2 : Int) (M : oM) : Option (Int × oM) :=
  (p_M_copies f 58 59  M).bind fun q3 =>
  let M4 : oM := q3.2
  (p_M_hoursGo f l1 M4).bind fun q5 =>
  let M6 : oM := q5.2
  if l2 = 0 then (let x7 : Int := M6 57 32
  p_M_tried_B182 f x7 M6)
  else (if l2 = 1 then ((p_M_owedInAll f  M6).bind fun q8 =>
  let M9 : oM := q8.2
  let r10 : Int := q8.1
  p_M_tried_B182 f r10 M9)
  else (if l2 = 2 then (bnd 159 151 fun i11 =>
  let x12 : Int := M6 58 i11
  p_M_tried_B182 f x12 M6)
  else (if l2 = 3 then (let x13 : Int := M6 57 33
  p_M_tried_B182 f x13 M6)
  else (if l2 = 4 then (let x14 : Int := M6 57 34
  p_M_tried_B182 f x14 M6)
  else (if l2 = 5 then (bnd 159 155 fun i15 =>
  let x16 : Int := M6 58 i15
  p_M_tried_B182 f x16 M6)
  else (bnd 159 (w32 ((w32 (100 + l2)) - 10)) fun i17 =>
  bnd 159 (w32 ((w32 (100 + l2)) - 10)) fun i18 =>
  let x19 : Int := w32 ((M6 58 i17) - (M6 59 i18))
  p_M_tried_B182 f x19 M6))))))
def p_M_tried (f : Nat) (l1 : Int) (l2 : Int) (M : oM) : Option (Int × oM) :=
  (p_M_in f l1 1 240 M).bind fun q20 =>
  let M21 : oM := q20.2
  let r22 : Int := q20.1
  if r22 = 0 then (some ((-1), M21))
  else ((p_M_in f l2 0 5 M21).bind fun q23 =>
  let M24 : oM := q23.2
  let r25 : Int := q23.1
  if r25 = 0 then ((p_M_in f l2 10 19 M24).bind fun q26 =>
  let M27 : oM := q26.2
  let r28 : Int := q26.1
  if r28 = 0 then (some ((-1), M27))
  else ((p_M_isPerson f (w32 (l2 - 10)) M27).bind fun q29 =>
  let M30 : oM := q29.2
  let r31 : Int := q29.1
  if r31 = 0 then (some ((-1), M30))
  else (p_M_tried_B44 f l1 l2 M30)))
  else (p_M_tried_B44 f l1 l2 M24))
def p_M_getsAll_L4 (f : Nat) (l1 : Int) (t : Int × Int × oM) : Option ((Int × Int × oM) ⊕ (Int × oM)) :=
  let l2 : Int := t.1
  let l3 : Int := t.2.1
  let M : oM := t.2.2
  if l3 < 10 then ((p_M_debtOf f l3 l1 M).bind fun q1 =>
  let M2 : oM := q1.2
  let r3 : Int := q1.1
  let x4 : Int := w32 (l2 + r3)
  let x5 : Int := w32 (l3 + 1)
  some (.inl (x4, x5, M2)))
  else (some (.inr (l2, M)))
def p_M_getsAll (f : Nat) (l1 : Int) (M : oM) : Option (Int × oM) :=
  iter (p_M_getsAll_L4 f l1) f (0, 0, M)
def p_M_personIs (f : Nat) (l1 : Int) (l2 : Int) (M : oM) : Option (Int × oM) :=
  (p_M_isPerson f l1 M).bind fun q1 =>
  let M2 : oM := q1.2
  let r3 : Int := q1.1
  if r3 = 0 then (some ((-1), M2))
  else (if l2 = 0 then (bnd 10 l1 fun i4 =>
  some (M2 61 i4, M2))
  else (if l2 = 1 then (bnd 10 l1 fun i5 =>
  some (M2 62 i5, M2))
  else (if l2 = 2 then ((p_M_owesAll f l1 M2).bind fun q6 =>
  let M7 : oM := q6.2
  let r8 : Int := q6.1
  some (r8, M7))
  else (if l2 = 3 then ((p_M_getsAll f l1 M2).bind fun q9 =>
  let M10 : oM := q9.2
  let r11 : Int := q9.1
  some (r11, M10))
  else (if l2 = 4 then (bnd 159 (w32 (100 + l1)) fun i12 =>
  some (M2 58 i12, M2))
  else (if l2 = 5 then ((p_M_chalksOf f l1 M2).bind fun q13 =>
  let M14 : oM := q13.2
  let r15 : Int := q13.1
  some (r15, M14))
  else (some ((-1), M2))))))))
def p_M_owes (f : Nat) (l1 : Int) (l2 : Int) (M : oM) : Option (Int × oM) :=
  (p_M_areTwo f l1 l2 M).bind fun q1 =>
  let M2 : oM := q1.2
  let r3 : Int := q1.1
  if r3 = 0 then (some ((-1), M2))
  else ((p_M_debtOf f l1 l2 M2).bind fun q4 =>
  let M5 : oM := q4.2
  let r6 : Int := q4.1
  some (r6, M5))
def p_M_likes (f : Nat) (l1 : Int) (l2 : Int) (M : oM) : Option (Int × oM) :=
  (p_M_areTwo f l1 l2 M).bind fun q1 =>
  let M2 : oM := q1.2
  let r3 : Int := q1.1
  if r3 = 0 then (some ((-1), M2))
  else ((p_M_likesBy f l1 l2 M2).bind fun q4 =>
  let M5 : oM := q4.2
  let r6 : Int := q4.1
  some (r6, M5))
def p_M_readsTimes (f : Nat) (M : oM) : Option (Int × oM) :=
  let M1 : oM := oU M 57 42 (M 57 8)
  let M2 : oM := oU M1 57 43 1
  (p_M_here f  M2).bind fun q3 =>
  let M4 : oM := q3.2
  let r5 : Int := q3.1
  (p_M_in f r5 50 57 M4).bind fun q6 =>
  let M7 : oM := q6.2
  let r8 : Int := q6.1
  if r8 = 0 then (some (0, M7))
  else ((p_M_here f  M7).bind fun q9 =>
  let M10 : oM := q9.2
  let r11 : Int := q9.1
  let M12 : oM := oU M10 57 43 (w32 (r11 - 48))
  let M13 : oM := oU M12 57 8 (w32 ((M12 57 8) + 1))
  some (0, M13))
def p_M_repeats_L31 (f : Nat) (l1 : Int) (l2 : Int) (l4 : Int) (t : Int × oM) : Option ((Int × oM) ⊕ (Int × oM)) :=
  let l5 : Int := t.1
  let M : oM := t.2
  if l5 < w32 (l4 * l2) then (bnd 60 (w32 ((w32 (l1 + l5)) - l4)) fun i2 =>
  bnd 60 (w32 (l1 + l5)) fun i3 =>
  let M4 : oM := oU M 78 i3 (M 78 i2)
  let x5 : Int := w32 (l5 + 1)
  some (.inl (x5, M4)))
  else (let M1 : oM := oU M 57 40 (w32 (l1 + (w32 (l4 * l2))))
  some (.inr (1, M1)))
def p_M_repeats (f : Nat) (l1 : Int) (l2 : Int) (l3 : Int) (M : oM) : Option (Int × oM) :=
  let x6 : Int := w32 ((M 57 40) - l1)
  if 60 < w32 (l1 + (w32 (x6 * l2))) then ((p_M_wrongAt f 6 l3 M).bind fun q7 =>
  let M8 : oM := q7.2
  let r9 : Int := q7.1
  bnd 2 r9 fun b10 => some (b10, M8))
  else (iter (p_M_repeats_L31 f l1 l2 x6) f (x6, M))
def p_M_readsItem_L203 (f : Nat) (t : oM) : Option ((oM) ⊕ (Int × oM)) :=
  let M : oM := t
  (p_M_here f  M).bind fun q1 =>
  let M2 : oM := q1.2
  let r3 : Int := q1.1
  if r3 = 41 then (if 0 < M2 57 41 then (let M4 : oM := oU M2 57 8 (w32 ((M2 57 8) + 1))
  let M5 : oM := oU M4 57 41 (w32 ((M4 57 41) - 1))
  bnd 2 (M5 57 41) fun i6 =>
  bnd 2 (M5 57 41) fun i7 =>
  bnd 2 (M5 57 41) fun i8 =>
  (p_M_repeats f (M5 80 i6) (M5 81 i7) (M5 79 i8) M5).bind fun q9 =>
  let M10 : oM := q9.2
  let r11 : Int := q9.1
  if r11 = 0 then (some (.inr (0, M10)))
  else (some (.inl M10)))
  else (some (.inr (1, M2))))
  else (some (.inr (1, M2)))
def p_M_readsItem_X4 (f : Nat) (r : (Int × oM) ⊕ (oM)) : Option (Int × oM) := match r with
  | .inl q => some q
  | .inr t =>
  let M : oM := t
  let x12 : Int := M 57 42
  let x13 : Int := M 57 43
  (p_M_here f  M).bind fun q14 =>
  let M15 : oM := q14.2
  let r16 : Int := q14.1
  (p_M_in f r16 97 106 M15).bind fun q17 =>
  let M18 : oM := q17.2
  let r19 : Int := q17.1
  if r19 = 0 then ((p_M_wrongAt f 1 (M18 57 8) M18).bind fun q34 =>
  let M35 : oM := q34.2
  let r36 : Int := q34.1
  bnd 2 r36 fun b37 => some (b37, M35))
  else (if 60 < w32 ((M18 57 40) + x13) then ((p_M_wrongAt f 6 x12 M18).bind fun q30 =>
  let M31 : oM := q30.2
  let r32 : Int := q30.1
  bnd 2 r32 fun b33 => some (b33, M31))
  else ((p_M_here f  M18).bind fun q20 =>
  let M21 : oM := q20.2
  let r22 : Int := q20.1
  bnd 60 (M18 57 40) fun i23 =>
  let M24 : oM := oU M21 78 i23 (w32 (r22 - 97))
  let M25 : oM := oU M24 57 40 (w32 ((M24 57 40) + 1))
  let M26 : oM := oU M25 57 8 (w32 ((M25 57 8) + 1))
  (p_M_repeats f (w32 ((M26 57 40) - 1)) x13 x12 M26).bind fun q27 =>
  let M28 : oM := q27.2
  let r29 : Int := q27.1
  if r29 = 0 then (some (0, M28))
  else (iter (p_M_readsItem_L203 f) f M28)))
def p_M_readsItem_L4 (f : Nat) (t : oM) : Option ((oM) ⊕ ((Int × oM) ⊕ (oM))) :=
  let M : oM := t
  (p_M_here f  M).bind fun q38 =>
  let M39 : oM := q38.2
  let r40 : Int := q38.1
  if r40 = 40 then (if M39 57 41 = 2 then ((p_M_wrongAt f 5 (M39 57 8) M39).bind fun q51 =>
  let M52 : oM := q51.2
  let r53 : Int := q51.1
  bnd 2 r53 fun b54 => some (.inr (.inl (b54, M52))))
  else (bnd 2 (M39 57 41) fun i41 =>
  let M42 : oM := oU M39 79 i41 (M39 57 42)
  bnd 2 (M42 57 41) fun i43 =>
  let M44 : oM := oU M42 80 i43 (M42 57 40)
  bnd 2 (M44 57 41) fun i45 =>
  let M46 : oM := oU M44 81 i45 (M44 57 43)
  let M47 : oM := oU M46 57 41 (w32 ((M46 57 41) + 1))
  let M48 : oM := oU M47 57 8 (w32 ((M47 57 8) + 1))
  (p_M_readsTimes f  M48).bind fun q49 =>
  let M50 : oM := q49.2
  some (.inl M50)))
  else (some (.inr (.inr M39)))
def p_M_readsItem (f : Nat) (M : oM) : Option (Int × oM) :=
  (p_M_readsTimes f  M).bind fun q55 =>
  let M56 : oM := q55.2
  (iter (p_M_readsItem_L4 f) f M56).bind (p_M_readsItem_X4 f)
def p_M_readsRoute_B55_25 (f : Nat) (l2 : Int) (M : oM) : Option ((Int × oM) ⊕ (Int × oM)) :=
  let M1 : oM := oU M 57 7 0
  if l2 = 0 then (some (.inr (M1 57 10, M1)))
  else (some (.inr (0, M1)))
def p_M_readsRoute_B47_25 (f : Nat) (M : oM) : Option ((Int × oM) ⊕ (Int × oM)) :=
  (p_M_readsItem f  M).bind fun q2 =>
  let M3 : oM := q2.2
  let r4 : Int := q2.1
  some (.inl (r4, M3))
def p_M_readsRoute_L25 (f : Nat) (t : Int × oM) : Option ((Int × oM) ⊕ (Int × oM)) :=
  let l2 : Int := t.1
  let M : oM := t.2
  if l2 = 0 then (p_M_readsRoute_B55_25 f l2 M)
  else (if M 57 8 < M 57 9 then (p_M_readsRoute_B47_25 f M)
  else (if 0 < M 57 41 then (p_M_readsRoute_B47_25 f M)
  else (p_M_readsRoute_B55_25 f l2 M)))
def p_M_readsRoute (f : Nat) (l1 : Int) (M : oM) : Option (Int × oM) :=
  let M5 : oM := oU M 57 8 0
  let M6 : oM := oU M5 57 9 l1
  let M7 : oM := oU M6 57 40 0
  let M8 : oM := oU M7 57 41 0
  (p_M_readsItem f  M8).bind fun q9 =>
  let M10 : oM := q9.2
  let r11 : Int := q9.1
  iter (p_M_readsRoute_L25 f) f (r11, M10)
def p_M_walksRoute_L10 (f : Nat) (t : oM) : Option ((oM) ⊕ (Int × oM)) :=
  let M : oM := t
  if M 57 44 < M 57 40 then (bnd 159 151 fun i1 =>
  let x2 : Int := M 58 i1
  bnd 60 (M 57 44) fun i3 =>
  let x4 : Int := M 78 i3
  (p_M_debtOf f x2 x4 M).bind fun q5 =>
  let M6 : oM := q5.2
  let r7 : Int := q5.1
  if r7 = 0 then (some (.inr (0, M6)))
  else ((p_M_wayOf f x2 x4 M6).bind fun q8 =>
  let M9 : oM := q8.2
  let r10 : Int := q8.1
  let M11 : oM := oU M9 57 45 (w32 ((M6 57 45) + r10))
  (p_M_pays f x2 x4 M11).bind fun q12 =>
  let M13 : oM := q12.2
  let M14 : oM := oU M13 57 44 (w32 ((M13 57 44) + 1))
  some (.inl M14)))
  else (some (.inr (0, M)))
def p_M_walksRoute (f : Nat) (M : oM) : Option (Int × oM) :=
  let M15 : oM := oU M 57 44 0
  let M16 : oM := oU M15 57 45 0
  iter (p_M_walksRoute_L10 f) f M16
def p_M_route (f : Nat) (l1 : Int) (l2 : Int) (M : oM) : Option (Int × oM) :=
  (p_M_in f l1 1 60 M).bind fun q1 =>
  let M2 : oM := q1.2
  let r3 : Int := q1.1
  if r3 = 0 then (some ((-1), M2))
  else ((p_M_in f l2 0 2 M2).bind fun q4 =>
  let M5 : oM := q4.2
  let r6 : Int := q4.1
  if r6 = 0 then (some ((-1), M5))
  else (if M5 57 7 < l1 then (some ((-1), M5))
  else ((p_M_readsRoute f l1 M5).bind fun q7 =>
  let M8 : oM := q7.2
  let r9 : Int := q7.1
  if r9 = 0 then (bnd 159 151 fun i10 =>
  if M8 58 i10 < 0 then (some ((-2), M8))
  else ((p_M_copies f 58 59  M8).bind fun q11 =>
  let M12 : oM := q11.2
  (p_M_walksRoute f  M12).bind fun q13 =>
  let M14 : oM := q13.2
  bnd 159 151 fun i15 =>
  let x16 : Int := M14 58 i15
  (p_M_copies f 59 58  M14).bind fun q17 =>
  let M18 : oM := q17.2
  if l2 = 0 then (some (M18 57 44, M18))
  else (if l2 = 1 then (some (M18 57 45, M18))
  else (some (x16, M18)))))
  else (some (r9, M8)))))
def p_M_walk (f : Nat) (l1 : Int) (M : oM) : Option (Int × oM) :=
  (p_M_in f l1 1 60 M).bind fun q1 =>
  let M2 : oM := q1.2
  let r3 : Int := q1.1
  if r3 = 0 then (some ((-1), M2))
  else (if M2 57 7 < l1 then (some ((-1), M2))
  else ((p_M_readsRoute f l1 M2).bind fun q4 =>
  let M5 : oM := q4.2
  let r6 : Int := q4.1
  if r6 = 0 then (bnd 159 151 fun i7 =>
  if M5 58 i7 < 0 then (some ((-2), M5))
  else ((p_M_walksRoute f  M5).bind fun q8 =>
  let M9 : oM := q8.2
  some (M9 57 44, M9)))
  else (some (r6, M5))))
def p_M_leftOf (f : Nat) (l1 : Int) (l2 : Int) (M : oM) : Option (Int × oM) :=
  bnd 100 (w32 ((w32 (10 * l1)) + l2)) fun i1 =>
  some (M 82 i1, M)
def p_M_reachLeft_X16 (f : Nat) (l3 : Int) (t : Int × oM) : Option ((Int × Int × oM) ⊕ (Int × oM)) :=
  let l2 : Int := t.1
  let M : oM := t.2
  some (.inl (l2, l3, M))
def p_M_reachLeft_X26 (f : Nat) (l3 : Int) (l4 : Int) (t : Int × oM) : Option ((Int × Int × oM) ⊕ (Int × oM)) :=
  let l2 : Int := t.1
  let M : oM := t.2
  let x1 : Int := w32 (l4 + 1)
  some (.inl (l2, x1, M))
def p_M_reachLeft_B60_26 (f : Nat) (l2 : Int) (l3 : Int) (l4 : Int) (l5 : Int) (M : oM) : Option ((Int × Int × oM) ⊕ (Int × oM)) :=
  let x2 : Int := w32 (l5 + 1)
  some (.inl (l2, x2, M))
def p_M_reachLeft_L26 (f : Nat) (l3 : Int) (l4 : Int) (t : Int × Int × oM) : Option ((Int × Int × oM) ⊕ (Int × oM)) :=
  let l2 : Int := t.1
  let l5 : Int := t.2.1
  let M : oM := t.2.2
  if l5 < 10 then ((p_M_has f l2 l4 M).bind fun q3 =>
  let M4 : oM := q3.2
  let r5 : Int := q3.1
  if r5 = 0 then (p_M_reachLeft_B60_26 f l2 l3 l4 l5 M4)
  else ((p_M_leftOf f l4 l5 M4).bind fun q6 =>
  let M7 : oM := q6.2
  let r8 : Int := q6.1
  if 0 < r8 then (let x9 : Int := ior l2 (ishl 1 l5)
  p_M_reachLeft_B60_26 f x9 l3 l4 l5 M7)
  else (p_M_reachLeft_B60_26 f l2 l3 l4 l5 M7)))
  else (some (.inr (l2, M)))
def p_M_reachLeft_L16 (f : Nat) (l3 : Int) (t : Int × Int × oM) : Option ((Int × Int × oM) ⊕ (Int × oM)) :=
  let l2 : Int := t.1
  let l4 : Int := t.2.1
  let M : oM := t.2.2
  if l4 < 10 then ((iter (p_M_reachLeft_L26 f l3 l4) f (l2, 0, M)).bind (p_M_reachLeft_X26 f l3 l4))
  else (some (.inr (l2, M)))
def p_M_reachLeft_L6 (f : Nat) (t : Int × Int × oM) : Option ((Int × Int × oM) ⊕ (Int × oM)) :=
  let l2 : Int := t.1
  let l3 : Int := t.2.1
  let M : oM := t.2.2
  if l2 = l3 then (some (.inr (l2, M)))
  else ((iter (p_M_reachLeft_L16 f l2) f (l2, 0, M)).bind (p_M_reachLeft_X16 f l2))
def p_M_reachLeft (f : Nat) (l1 : Int) (M : oM) : Option (Int × oM) :=
  let x10 : Int := ishl 1 l1
  iter (p_M_reachLeft_L6 f) f (x10, 0, M)
def p_M_isRow_B144_14 (f : Nat) (M : oM) : Option ((Int × Int × Int × oM) ⊕ (Int × oM)) :=
  some (.inr (1, M))
def p_M_isRow_B133_14 (f : Nat) (l3 : Int) (l4 : Int) (M : oM) : Option ((Int × Int × Int × oM) ⊕ (Int × oM)) :=
  if l3 = 1 then (if l4 = 1 then (p_M_isRow_B144_14 f M)
  else (some (.inr (0, M))))
  else (some (.inr (0, M)))
def p_M_isRow_B118_14 (f : Nat) (l1 : Int) (l2 : Int) (l3 : Int) (l4 : Int) (l5 : Int) (M : oM) : Option ((Int × Int × Int × oM) ⊕ (Int × oM)) :=
  let x1 : Int := w32 (l5 + 1)
  some (.inl (l3, l4, x1, M))
def p_M_isRow_B105_14 (f : Nat) (l1 : Int) (l2 : Int) (l3 : Int) (l4 : Int) (l5 : Int) (l6 : Int) (l7 : Int) (M : oM) : Option ((Int × Int × Int × oM) ⊕ (Int × oM)) :=
  if l5 = l1 then (let x2 : Int := w32 (l6 - l7)
  p_M_isRow_B118_14 f l1 l2 l3 x2 l5 M)
  else (p_M_isRow_B118_14 f l1 l2 l3 l4 l5 M)
def p_M_isRow_B83_14 (f : Nat) (l1 : Int) (l2 : Int) (l3 : Int) (l4 : Int) (l5 : Int) (l6 : Int) (l7 : Int) (M : oM) : Option ((Int × Int × Int × oM) ⊕ (Int × oM)) :=
  if w32 (l7 + 1) < l6 then (some (.inr (0, M)))
  else (if l7 < l6 then (let x3 : Int := w32 (l3 + 1)
  p_M_isRow_B105_14 f l1 l2 x3 l4 l5 l6 l7 M)
  else (p_M_isRow_B105_14 f l1 l2 l3 l4 l5 l6 l7 M))
def p_M_isRow_X30 (f : Nat) (l1 : Int) (l2 : Int) (l3 : Int) (l4 : Int) (l5 : Int) (t : Int × Int × oM) : Option ((Int × Int × Int × oM) ⊕ (Int × oM)) :=
  let l6 : Int := t.1
  let l7 : Int := t.2.1
  let M : oM := t.2.2
  if 0 < l6 then ((p_M_has f l2 l5 M).bind fun q4 =>
  let M5 : oM := q4.2
  let r6 : Int := q4.1
  if r6 = 0 then (some (.inr (0, M5)))
  else (p_M_isRow_B83_14 f l1 l2 l3 l4 l5 l6 l7 M5))
  else (p_M_isRow_B83_14 f l1 l2 l3 l4 l5 l6 l7 M)
def p_M_isRow_L30 (f : Nat) (l1 : Int) (l2 : Int) (l3 : Int) (l4 : Int) (l5 : Int) (t : Int × Int × Int × oM) : Option ((Int × Int × Int × oM) ⊕ (Int × Int × oM)) :=
  let l6 : Int := t.1
  let l7 : Int := t.2.1
  let l8 : Int := t.2.2.1
  let M : oM := t.2.2.2
  if l8 < 10 then ((p_M_leftOf f l5 l8 M).bind fun q7 =>
  let M8 : oM := q7.2
  let r9 : Int := q7.1
  let x10 : Int := w32 (l6 + r9)
  (p_M_leftOf f l8 l5 M8).bind fun q11 =>
  let M12 : oM := q11.2
  let r13 : Int := q11.1
  let x14 : Int := w32 (l7 + r13)
  let x15 : Int := w32 (l8 + 1)
  some (.inl (x10, x14, x15, M12)))
  else (some (.inr (l6, l7, M)))
def p_M_isRow_L14 (f : Nat) (l1 : Int) (l2 : Int) (t : Int × Int × Int × oM) : Option ((Int × Int × Int × oM) ⊕ (Int × oM)) :=
  let l3 : Int := t.1
  let l4 : Int := t.2.1
  let l5 : Int := t.2.2.1
  let M : oM := t.2.2.2
  if l5 < 10 then ((iter (p_M_isRow_L30 f l1 l2 l3 l4 l5) f (0, 0, 0, M)).bind (p_M_isRow_X30 f l1 l2 l3 l4 l5))
  else (if l3 = 0 then (if l4 = 0 then (p_M_isRow_B144_14 f M)
  else (p_M_isRow_B133_14 f l3 l4 M))
  else (p_M_isRow_B133_14 f l3 l4 M))
def p_M_isRow (f : Nat) (l1 : Int) (M : oM) : Option (Int × oM) :=
  (p_M_reachLeft f l1 M).bind fun q16 =>
  let M17 : oM := q16.2
  let r18 : Int := q16.1
  iter (p_M_isRow_L14 f l1 r18) f (0, 0, 0, M17)
def p_M_canGo (f : Nat) (l1 : Int) (l2 : Int) (M : oM) : Option (Int × oM) :=
  (p_M_leftOf f l1 l2 M).bind fun q1 =>
  let M2 : oM := q1.2
  let r3 : Int := q1.1
  if r3 = 0 then (some (0, M2))
  else ((p_M_leftOf f l1 l2 M2).bind fun q4 =>
  let M5 : oM := q4.2
  let r6 : Int := q4.1
  bnd 100 (w32 ((w32 (10 * l1)) + l2)) fun i7 =>
  let M8 : oM := oU M5 82 i7 (w32 (r6 - 1))
  (p_M_isRow f l2 M8).bind fun q9 =>
  let M10 : oM := q9.2
  let r11 : Int := q9.1
  (p_M_leftOf f l1 l2 M10).bind fun q12 =>
  let M13 : oM := q12.2
  let r14 : Int := q12.1
  bnd 100 (w32 ((w32 (10 * l1)) + l2)) fun i15 =>
  let M16 : oM := oU M13 82 i15 (w32 (r14 + 1))
  bnd 2 r11 fun b17 => some (b17, M16))
def p_M_laysTour_X52 (f : Nat) (l2 : Int) (l3 : Int) (l4 : Int) (t : Int × oM) : Option ((Int × Int × oM) ⊕ (Int × oM)) :=
  let l5 : Int := t.1
  let M : oM := t.2
  (p_M_leftOf f l3 l5 M).bind fun q1 =>
  let M2 : oM := q1.2
  let r3 : Int := q1.1
  bnd 100 (w32 ((w32 (10 * l3)) + l5)) fun i4 =>
  let M5 : oM := oU M2 82 i4 (w32 (r3 - 1))
  bnd 60 l4 fun i6 =>
  let M7 : oM := oU M5 83 i6 l5
  let x8 : Int := w32 (l4 + 1)
  some (.inl (l5, x8, M7))
def p_M_laysTour_L52 (f : Nat) (l2 : Int) (l3 : Int) (l4 : Int) (t : Int × oM) : Option ((Int × oM) ⊕ (Int × oM)) :=
  let l5 : Int := t.1
  let M : oM := t.2
  (p_M_canGo f l3 l5 M).bind fun q9 =>
  let M10 : oM := q9.2
  let r11 : Int := q9.1
  if r11 = 0 then (let x12 : Int := w32 (l5 + 1)
  some (.inl (x12, M10)))
  else (some (.inr (l5, M10)))
def p_M_laysTour_L43 (f : Nat) (l2 : Int) (t : Int × Int × oM) : Option ((Int × Int × oM) ⊕ (Int × oM)) :=
  let l3 : Int := t.1
  let l4 : Int := t.2.1
  let M : oM := t.2.2
  if l4 < l2 then ((iter (p_M_laysTour_L52 f l2 l3 l4) f (0, M)).bind (p_M_laysTour_X52 f l2 l3 l4))
  else (some (.inr (1, M)))
def p_M_laysTour_X2 (f : Nat) (l1 : Int) (l2 : Int) (t : oM) : Option (Int × oM) :=
  let M : oM := t
  (p_M_isRow f l1 M).bind fun q13 =>
  let M14 : oM := q13.2
  let r15 : Int := q13.1
  if r15 = 0 then (some (0, M14))
  else (iter (p_M_laysTour_L43 f l2) f (l1, 0, M14))
def p_M_laysTour_L2 (f : Nat) (l1 : Int) (l2 : Int) (t : Int × oM) : Option ((Int × oM) ⊕ (oM)) :=
  let l3 : Int := t.1
  let M : oM := t.2
  if l3 < 100 then (bnd 159 (w32 (0 + l3)) fun i16 =>
  bnd 100 l3 fun i17 =>
  let M18 : oM := oU M 82 i17 (M 58 i16)
  let x19 : Int := w32 (l3 + 1)
  some (.inl (x19, M18)))
  else (some (.inr M))
def p_M_laysTour (f : Nat) (l1 : Int) (l2 : Int) (M : oM) : Option (Int × oM) :=
  (iter (p_M_laysTour_L2 f l1 l2) f (0, M)).bind (p_M_laysTour_X2 f l1 l2)
def p_M_tour_B143 (f : Nat) (M : oM) : Option (Int × oM) :=
  some (1, M)
def p_M_tour_B107 (f : Nat) (l1 : Int) (l2 : Int) (M : oM) : Option (Int × oM) :=
  if l1 < 100 then (bnd 60 l1 fun i3 =>
  some (M 83 i3, M))
  else (if l2 = 0 then (p_M_tour_B143 f M)
  else (bnd 60 (w32 (l2 - 1)) fun i1 =>
  bnd 159 151 fun i2 =>
  if M 83 i1 = M 58 i2 then (p_M_tour_B143 f M)
  else (some (0, M))))
def p_M_tour_B23 (f : Nat) (l1 : Int) (M : oM) : Option (Int × oM) :=
  bnd 159 151 fun i4 =>
  if M 58 i4 < 0 then (some ((-2), M))
  else ((p_M_owedInAll f  M).bind fun q5 =>
  let M6 : oM := q5.2
  let r7 : Int := q5.1
  if 60 < r7 then (some ((-3), M6))
  else (if l1 = 101 then (some (r7, M6))
  else (bnd 159 151 fun i8 =>
  (p_M_laysTour f (M6 58 i8) r7 M6).bind fun q9 =>
  let M10 : oM := q9.2
  let r11 : Int := q9.1
  if l1 = 100 then (if r11 = 0 then (some (0, M10))
  else (some (1, M10)))
  else (if r11 = 0 then (some ((-4), M10))
  else (if l1 < 100 then (if l1 < r7 then (p_M_tour_B107 f l1 r7 M10)
  else (some ((-4), M10)))
  else (p_M_tour_B107 f l1 r7 M10))))))
def p_M_tour (f : Nat) (l1 : Int) (M : oM) : Option (Int × oM) :=
  (p_M_in f l1 0 59 M).bind fun q12 =>
  let M13 : oM := q12.2
  let r14 : Int := q12.1
  if r14 = 0 then ((p_M_in f l1 100 102 M13).bind fun q15 =>
  let M16 : oM := q15.2
  let r17 : Int := q15.1
  if r17 = 0 then (some ((-1), M16))
  else (p_M_tour_B23 f l1 M16))
  else (p_M_tour_B23 f l1 M13)
def p_M_bestCoin_B99_5 (f : Nat) (l1 : Int) (l2 : Int) (l3 : Int) (l4 : Int) (M : oM) : Option ((Int × Int × oM) ⊕ (Int × oM)) :=
  let x1 : Int := w32 (l4 + 1)
  some (.inl (l3, x1, M))
def p_M_bestCoin_B96_5 (f : Nat) (l1 : Int) (l2 : Int) (l4 : Int) (M : oM) : Option ((Int × Int × oM) ⊕ (Int × oM)) :=
  p_M_bestCoin_B99_5 f l1 l2 l4 l4 M
def p_M_bestCoin_L5 (f : Nat) (l1 : Int) (l2 : Int) (t : Int × Int × oM) : Option ((Int × Int × oM) ⊕ (Int × oM)) :=
  let l3 : Int := t.1
  let l4 : Int := t.2.1
  let M : oM := t.2.2
  if l4 < M 57 50 then (bnd 12 l4 fun i2 =>
  if M 84 i2 = l2 then ((p_M_has f l1 l4 M).bind fun q3 =>
  let M4 : oM := q3.2
  let r5 : Int := q3.1
  if r5 = 0 then (bnd 12 l4 fun i6 =>
  bnd 40960 (w32 ((w32 (10 * (ior l1 (ishl 1 l4)))) + (M4 85 i6))) fun i7 =>
  bnd 40960 (w32 ((w32 (10 * l1)) + l2)) fun i8 =>
  if w32 (1 + (M4 86 i7)) = M4 86 i8 then (if l3 = (-1) then (p_M_bestCoin_B96_5 f l1 l2 l4 M4)
  else (bnd 12 l4 fun i9 =>
  bnd 12 l3 fun i10 =>
  if M4 85 i9 < M4 85 i10 then (p_M_bestCoin_B96_5 f l1 l2 l4 M4)
  else (p_M_bestCoin_B99_5 f l1 l2 l3 l4 M4)))
  else (p_M_bestCoin_B99_5 f l1 l2 l3 l4 M4))
  else (p_M_bestCoin_B99_5 f l1 l2 l3 l4 M4))
  else (p_M_bestCoin_B99_5 f l1 l2 l3 l4 M))
  else (some (.inr (l3, M)))
def p_M_bestCoin (f : Nat) (l1 : Int) (l2 : Int) (M : oM) : Option (Int × oM) :=
  iter (p_M_bestCoin_L5 f l1 l2) f ((-1), 0, M)
def p_M_laysCoins_X25 (f : Nat) (l2 : Int) (t : oM) : Option ((Int × oM) ⊕ (Int × oM)) :=
  let M : oM := t
  let x1 : Int := w32 (l2 + 1)
  some (.inl (x1, M))
def p_M_laysCoins_X34 (f : Nat) (l2 : Int) (l3 : Int) (t : oM) : Option ((Int × oM) ⊕ (oM)) :=
  let M : oM := t
  let x2 : Int := w32 (l3 + 1)
  some (.inl (x2, M))
def p_M_laysCoins_L34 (f : Nat) (l2 : Int) (l3 : Int) (t : Int × oM) : Option ((Int × oM) ⊕ (oM)) :=
  let l4 : Int := t.1
  let M : oM := t.2
  (p_M_debtOf f l2 l3 M).bind fun q3 =>
  let M4 : oM := q3.2
  let r5 : Int := q3.1
  if l4 < r5 then (bnd 12 (M4 57 50) fun i6 =>
  let M7 : oM := oU M4 84 i6 l2
  bnd 12 (M7 57 50) fun i8 =>
  let M9 : oM := oU M7 85 i8 l3
  let M10 : oM := oU M9 57 50 (w32 ((M9 57 50) + 1))
  let x11 : Int := w32 (l4 + 1)
  some (.inl (x11, M10)))
  else (some (.inr M4))
def p_M_laysCoins_L25 (f : Nat) (l2 : Int) (t : Int × oM) : Option ((Int × oM) ⊕ (oM)) :=
  let l3 : Int := t.1
  let M : oM := t.2
  if l3 < 10 then ((iter (p_M_laysCoins_L34 f l2 l3) f (0, M)).bind (p_M_laysCoins_X34 f l2 l3))
  else (some (.inr M))
def p_M_laysCoins_L17 (f : Nat) (t : Int × oM) : Option ((Int × oM) ⊕ (Int × oM)) :=
  let l2 : Int := t.1
  let M : oM := t.2
  if l2 < 10 then ((iter (p_M_laysCoins_L25 f l2) f (0, M)).bind (p_M_laysCoins_X25 f l2))
  else (some (.inr (1, M)))
def p_M_laysCoins (f : Nat) (l1 : Int) (M : oM) : Option (Int × oM) :=
  let M12 : oM := oU M 57 50 0
  (p_M_owedInAll f  M12).bind fun q13 =>
  let M14 : oM := q13.2
  let r15 : Int := q13.1
  if l1 < r15 then (some (0, M14))
  else (iter (p_M_laysCoins_L17 f) f (0, M14))
def p_M_laysMore_X17 (f : Nat) (l2 : Int) (t : oM) : Option ((Int × oM) ⊕ (Int × oM)) :=
  let M : oM := t
  let x1 : Int := w32 (l2 + (-1))
  some (.inl (x1, M))
def p_M_laysMore_X29 (f : Nat) (l2 : Int) (l3 : Int) (t : Int × oM) : Option ((Int × oM) ⊕ (oM)) :=
  let l4 : Int := t.1
  let M : oM := t.2
  bnd 40960 (w32 ((w32 (10 * l2)) + l3)) fun i2 =>
  let M3 : oM := oU M 86 i2 (i2b (i2b l4))
  let x4 : Int := w32 (l3 + 1)
  some (.inl (x4, M3))
def p_M_laysMore_B89_29 (f : Nat) (l2 : Int) (l3 : Int) (l4 : Int) (l5 : Int) (M : oM) : Option ((Int × Int × oM) ⊕ (Int × oM)) :=
  let x5 : Int := w32 (l5 + 1)
  some (.inl (l4, x5, M))
def p_M_laysMore_L29 (f : Nat) (l2 : Int) (l3 : Int) (t : Int × Int × oM) : Option ((Int × Int × oM) ⊕ (Int × oM)) :=
  let l4 : Int := t.1
  let l5 : Int := t.2.1
  let M : oM := t.2.2
  if l5 < M 57 50 then (bnd 12 l5 fun i6 =>
  if M 84 i6 = l3 then ((p_M_has f l2 l5 M).bind fun q7 =>
  let M8 : oM := q7.2
  let r9 : Int := q7.1
  if r9 = 0 then (bnd 12 l5 fun i10 =>
  bnd 40960 (w32 ((w32 (10 * (ior l2 (ishl 1 l5)))) + (M8 85 i10))) fun i11 =>
  (p_M_max f l4 (w32 (1 + (M8 86 i11))) M8).bind fun q12 =>
  let M13 : oM := q12.2
  let r14 : Int := q12.1
  p_M_laysMore_B89_29 f l2 l3 r14 l5 M13)
  else (p_M_laysMore_B89_29 f l2 l3 l4 l5 M8))
  else (p_M_laysMore_B89_29 f l2 l3 l4 l5 M))
  else (some (.inr (l4, M)))
def p_M_laysMore_L17 (f : Nat) (l2 : Int) (t : Int × oM) : Option ((Int × oM) ⊕ (oM)) :=
  let l3 : Int := t.1
  let M : oM := t.2
  if l3 < 10 then ((iter (p_M_laysMore_L29 f l2 l3) f (0, 0, M)).bind (p_M_laysMore_X29 f l2 l3))
  else (some (.inr M))
def p_M_laysMore_L11 (f : Nat) (t : Int × oM) : Option ((Int × oM) ⊕ (Int × oM)) :=
  let l2 : Int := t.1
  let M : oM := t.2
  if l2 < 0 then (some (.inr (0, M)))
  else ((iter (p_M_laysMore_L17 f l2) f (0, M)).bind (p_M_laysMore_X17 f l2))
def p_M_laysMore (f : Nat) (M : oM) : Option (Int × oM) :=
  let x15 : Int := w32 ((ishl 1 (M 57 50)) - 1)
  iter (p_M_laysMore_L11 f) f (x15, M)
def p_M_most_L102 (f : Nat) (l1 : Int) (t : Int × Int × Int × oM) : Option ((Int × Int × Int × oM) ⊕ (Int × oM)) :=
  let l2 : Int := t.1
  let l3 : Int := t.2.1
  let l4 : Int := t.2.2.1
  let M : oM := t.2.2.2
  if l1 < l4 then (some (.inr (l3, M)))
  else ((p_M_bestCoin f l2 l3 M).bind fun q1 =>
  let M2 : oM := q1.2
  let r3 : Int := q1.1
  let x4 : Int := ior l2 (ishl 1 r3)
  bnd 12 r3 fun i5 =>
  let x6 : Int := M2 85 i5
  let x7 : Int := w32 (l4 + 1)
  some (.inl (x4, x6, x7, M2)))
def p_M_most_B18 (f : Nat) (l1 : Int) (M : oM) : Option (Int × oM) :=
  bnd 159 151 fun i8 =>
  if M 58 i8 < 0 then (some ((-2), M))
  else ((p_M_laysCoins f 12 M).bind fun q9 =>
  let M10 : oM := q9.2
  let r11 : Int := q9.1
  if r11 = 0 then (some ((-3), M10))
  else ((p_M_laysMore f  M10).bind fun q12 =>
  let M13 : oM := q12.2
  if l1 = 100 then (bnd 159 151 fun i18 =>
  bnd 40960 (M13 58 i18) fun i19 =>
  some (M13 86 i19, M13))
  else (bnd 159 151 fun i14 =>
  bnd 40960 (M13 58 i14) fun i15 =>
  if l1 < M13 86 i15 then (bnd 159 151 fun i16 =>
  let x17 : Int := M13 58 i16
  iter (p_M_most_L102 f l1) f (0, x17, 0, M13))
  else (some ((-4), M13)))))
def p_M_most (f : Nat) (l1 : Int) (M : oM) : Option (Int × oM) :=
  (p_M_in f l1 0 11 M).bind fun q20 =>
  let M21 : oM := q20.2
  let r22 : Int := q20.1
  if r22 = 0 then (if l1 = 100 then (p_M_most_B18 f l1 M21)
  else (some ((-1), M21)))
  else (p_M_most_B18 f l1 M21)
def p_M_laysBack_X102 (f : Nat) (l1 : Int) (t : oM) : Option ((Int × oM) ⊕ (Int × oM)) :=
  let M : oM := t
  let x1 : Int := w32 (l1 + 1)
  some (.inl (x1, M))
def p_M_laysBack_X110 (f : Nat) (l1 : Int) (l2 : Int) (t : oM) : Option ((Int × oM) ⊕ (oM)) :=
  let M : oM := t
  let x2 : Int := w32 (l2 + 1)
  some (.inl (x2, M))
def p_M_laysBack_L110 (f : Nat) (l1 : Int) (l2 : Int) (t : Int × oM) : Option ((Int × oM) ⊕ (oM)) :=
  let l3 : Int := t.1
  let M : oM := t.2
  if l3 < 10 then (bnd 100 (w32 ((w32 (10 * l2)) + l3)) fun i3 =>
  bnd 100 (w32 ((w32 (10 * l2)) + l1)) fun i4 =>
  bnd 100 (w32 ((w32 (10 * l1)) + l3)) fun i5 =>
  (p_M_min f (M 87 i3) (w32 ((M 87 i4) + (M 87 i5))) M).bind fun q6 =>
  let M7 : oM := q6.2
  let r8 : Int := q6.1
  bnd 100 (w32 ((w32 (10 * l2)) + l3)) fun i9 =>
  let M10 : oM := oU M7 87 i9 r8
  bnd 100 (w32 ((w32 (10 * l2)) + l3)) fun i11 =>
  bnd 100 (w32 ((w32 (10 * l2)) + l1)) fun i12 =>
  bnd 100 (w32 ((w32 (10 * l1)) + l3)) fun i13 =>
  (p_M_min f (M10 88 i11) (w32 ((M10 88 i12) + (M10 88 i13))) M10).bind fun q14 =>
  let M15 : oM := q14.2
  let r16 : Int := q14.1
  bnd 100 (w32 ((w32 (10 * l2)) + l3)) fun i17 =>
  let M18 : oM := oU M15 88 i17 r16
  let x19 : Int := w32 (l3 + 1)
  some (.inl (x19, M18)))
  else (some (.inr M))
def p_M_laysBack_L102 (f : Nat) (l1 : Int) (t : Int × oM) : Option ((Int × oM) ⊕ (oM)) :=
  let l2 : Int := t.1
  let M : oM := t.2
  if l2 < 10 then ((iter (p_M_laysBack_L110 f l1 l2) f (0, M)).bind (p_M_laysBack_X110 f l1 l2))
  else (some (.inr M))
def p_M_laysBack_L94 (f : Nat) (t : Int × oM) : Option ((Int × oM) ⊕ (Int × oM)) :=
  let l1 : Int := t.1
  let M : oM := t.2
  if l1 < 10 then ((iter (p_M_laysBack_L102 f l1) f (0, M)).bind (p_M_laysBack_X102 f l1))
  else (some (.inr (0, M)))
def p_M_laysBack_X2 (f : Nat) (t : oM) : Option (Int × oM) :=
  let M : oM := t
  iter (p_M_laysBack_L94 f) f (0, M)
def p_M_laysBack_X10 (f : Nat) (l1 : Int) (t : oM) : Option ((Int × oM) ⊕ (oM)) :=
  let M : oM := t
  let x20 : Int := w32 (l1 + 1)
  some (.inl (x20, M))
def p_M_laysBack_B79_10 (f : Nat) (l1 : Int) (l2 : Int) (s1 : Int) (s2 : Int) (M : oM) : Option ((Int × oM) ⊕ (oM)) :=
  bnd 100 s1 fun i21 =>
  let M22 : oM := oU M 88 i21 s2
  let x23 : Int := w32 (l2 + 1)
  some (.inl (x23, M22))
def p_M_laysBack_B52_10 (f : Nat) (l1 : Int) (l2 : Int) (l3 : Int) (s1 : Int) (s2 : Int) (M : oM) : Option ((Int × oM) ⊕ (oM)) :=
  bnd 100 s1 fun i24 =>
  let M25 : oM := oU M 87 i24 s2
  if l3 = 0 then (p_M_laysBack_B79_10 f l1 l2 (w32 ((w32 (10 * l1)) + l2)) 1000000 M25)
  else ((p_M_wayOf f l1 l2 M25).bind fun q26 =>
  let M27 : oM := q26.2
  let r28 : Int := q26.1
  p_M_laysBack_B79_10 f l1 l2 (w32 ((w32 (10 * l1)) + l2)) r28 M27)
def p_M_laysBack_B30_10 (f : Nat) (l1 : Int) (l2 : Int) (s0 : Int) (M : oM) : Option ((Int × oM) ⊕ (oM)) :=
  if s0 = 0 then (p_M_laysBack_B52_10 f l1 l2 s0 (w32 ((w32 (10 * l1)) + l2)) 1000000 M)
  else (p_M_laysBack_B52_10 f l1 l2 s0 (w32 ((w32 (10 * l1)) + l2)) 1 M)
def p_M_laysBack_L10 (f : Nat) (l1 : Int) (t : Int × oM) : Option ((Int × oM) ⊕ (oM)) :=
  let l2 : Int := t.1
  let M : oM := t.2
  if l2 < 10 then ((p_M_debtOf f l1 l2 M).bind fun q29 =>
  let M30 : oM := q29.2
  let r31 : Int := q29.1
  if 0 < r31 then (p_M_laysBack_B30_10 f l1 l2 1 M30)
  else (p_M_laysBack_B30_10 f l1 l2 0 M30))
  else (some (.inr M))
def p_M_laysBack_L2 (f : Nat) (t : Int × oM) : Option ((Int × oM) ⊕ (oM)) :=
  let l1 : Int := t.1
  let M : oM := t.2
  if l1 < 10 then ((iter (p_M_laysBack_L10 f l1) f (0, M)).bind (p_M_laysBack_X10 f l1))
  else (some (.inr M))
def p_M_laysBack (f : Nat) (M : oM) : Option (Int × oM) :=
  (iter (p_M_laysBack_L2 f) f (0, M)).bind (p_M_laysBack_X2 f)
def p_M_back_B48 (f : Nat) (s0 : Int) (M : oM) : Option (Int × oM) :=
  if s0 < 1000000 then (some (s0, M))
  else (some ((-2), M))
def p_M_back (f : Nat) (l1 : Int) (l2 : Int) (M : oM) : Option (Int × oM) :=
  (p_M_isPerson f l1 M).bind fun q1 =>
  let M2 : oM := q1.2
  let r3 : Int := q1.1
  if r3 = 0 then (some ((-1), M2))
  else ((p_M_in f l2 0 1 M2).bind fun q4 =>
  let M5 : oM := q4.2
  let r6 : Int := q4.1
  if r6 = 0 then (some ((-1), M5))
  else ((p_M_laysBack f  M5).bind fun q7 =>
  let M8 : oM := q7.2
  if l2 = 0 then (bnd 100 (w32 (11 * l1)) fun i10 =>
  p_M_back_B48 f (M8 87 i10) M8)
  else (bnd 100 (w32 (11 * l1)) fun i9 =>
  p_M_back_B48 f (M8 88 i9) M8)))
def p_M_hoursOfRow_L4 (f : Nat) (l1 : Int) (t : Int × Int × oM) : Option ((Int × Int × oM) ⊕ (Int × oM)) :=
  let l2 : Int := t.1
  let l3 : Int := t.2.1
  let M : oM := t.2.2
  if l3 < l1 then (bnd 6 l3 fun i1 =>
  bnd 6 l3 fun i2 =>
  bnd 6 (M 91 i2) fun i3 =>
  (p_M_wayOf f (M 89 i1) (M 90 i3) M).bind fun q4 =>
  let M5 : oM := q4.2
  let r6 : Int := q4.1
  let x7 : Int := w32 (l2 + r6)
  let x8 : Int := w32 (l3 + 1)
  some (.inl (x7, x8, M5)))
  else (some (.inr (l2, M)))
def p_M_hoursOfRow (f : Nat) (l1 : Int) (M : oM) : Option (Int × oM) :=
  iter (p_M_hoursOfRow_L4 f l1) f (0, 0, M)
def p_M_setOffOf (f : Nat) (l1 : Int) (M : oM) : Option (Int × oM) :=
  (p_M_getsAll f l1 M).bind fun q1 =>
  let M2 : oM := q1.2
  let r3 : Int := q1.1
  (p_M_owesAll f l1 M2).bind fun q4 =>
  let M5 : oM := q4.2
  let r6 : Int := q4.1
  some (w32 (r3 - r6), M5)
def p_M_laysLacks_X68 (f : Nat) (l2 : Int) (l3 : Int) (t : Int × oM) : Option ((Int × Int × oM) ⊕ (Int × oM)) :=
  let l1 : Int := t.1
  let M : oM := t.2
  let x1 : Int := w32 (l2 + 1)
  some (.inl (l1, x1, M))
def p_M_laysLacks_B88_68 (f : Nat) (l1 : Int) (l2 : Int) (l3 : Int) (l4 : Int) (M : oM) : Option ((Int × Int × oM) ⊕ (Int × oM)) :=
  let x2 : Int := w32 (l1 + 1)
  let x3 : Int := w32 (l4 + 1)
  some (.inl (x2, x3, M))
def p_M_laysLacks_L68 (f : Nat) (l2 : Int) (l3 : Int) (t : Int × Int × oM) : Option ((Int × Int × oM) ⊕ (Int × oM)) :=
  let l1 : Int := t.1
  let l4 : Int := t.2.1
  let M : oM := t.2.2
  if l4 < w32 (-l3) then (if l1 < 6 then (bnd 6 l1 fun i4 =>
  let M5 : oM := oU M 90 i4 l2
  p_M_laysLacks_B88_68 f l1 l2 l3 l4 M5)
  else (p_M_laysLacks_B88_68 f l1 l2 l3 l4 M))
  else (some (.inr (l1, M)))
def p_M_laysLacks_X24 (f : Nat) (l1 : Int) (l2 : Int) (l3 : Int) (t : oM) : Option ((Int × Int × oM) ⊕ (Int × oM)) :=
  let M : oM := t
  (iter (p_M_laysLacks_L68 f l2 l3) f (l1, 0, M)).bind (p_M_laysLacks_X68 f l2 l3)
def p_M_laysLacks_B49_24 (f : Nat) (l1 : Int) (l2 : Int) (l3 : Int) (l4 : Int) (M : oM) : Option ((Int × oM) ⊕ (oM)) :=
  let M6 : oM := oU M 57 58 (w32 ((M 57 58) + 1))
  let x7 : Int := w32 (l4 + 1)
  some (.inl (x7, M6))
def p_M_laysLacks_L24 (f : Nat) (l1 : Int) (l2 : Int) (l3 : Int) (t : Int × oM) : Option ((Int × oM) ⊕ (oM)) :=
  let l4 : Int := t.1
  let M : oM := t.2
  if l4 < l3 then (if M 57 58 < 6 then (bnd 6 (M 57 58) fun i8 =>
  let M9 : oM := oU M 89 i8 l2
  p_M_laysLacks_B49_24 f l1 l2 l3 l4 M9)
  else (p_M_laysLacks_B49_24 f l1 l2 l3 l4 M))
  else (some (.inr M))
def p_M_laysLacks_L9 (f : Nat) (t : Int × Int × oM) : Option ((Int × Int × oM) ⊕ (Int × oM)) :=
  let l1 : Int := t.1
  let l2 : Int := t.2.1
  let M : oM := t.2.2
  if l2 < 10 then ((p_M_setOffOf f l2 M).bind fun q10 =>
  let M11 : oM := q10.2
  let r12 : Int := q10.1
  (iter (p_M_laysLacks_L24 f l1 l2 r12) f (0, M11)).bind (p_M_laysLacks_X24 f l1 l2 r12))
  else (some (.inr (0, M)))
def p_M_laysLacks (f : Nat) (M : oM) : Option (Int × oM) :=
  let M13 : oM := oU M 57 58 0
  iter (p_M_laysLacks_L9 f) f (0, 0, M13)
def p_M_readsRow_L10 (f : Nat) (l2 : Int) (t : Int × Int × Int × oM) : Option ((Int × Int × Int × oM) ⊕ (Int × oM)) :=
  let l3 : Int := t.1
  let l4 : Int := t.2.1
  let l5 : Int := t.2.2.1
  let M : oM := t.2.2.2
  if l5 < 0 then (some (.inr (1, M)))
  else (nz l2 fun z1 =>
  bnd 6 l5 fun i2 =>
  let M3 : oM := oU M 91 i2 (Int.tmod l3 z1)
  nz l2 fun z4 =>
  let x5 : Int := w32 (Int.tdiv l3 z4)
  bnd 6 l5 fun i6 =>
  (p_M_has f l4 (M3 91 i6) M3).bind fun q7 =>
  let M8 : oM := q7.2
  let r9 : Int := q7.1
  if r9 = 0 then (bnd 6 l5 fun i10 =>
  let x11 : Int := ior l4 (ishl 1 (M8 91 i10))
  let x12 : Int := w32 (l5 + (-1))
  some (.inl (x5, x11, x12, M8)))
  else (some (.inr (0, M8))))
def p_M_readsRow (f : Nat) (l1 : Int) (l2 : Int) (M : oM) : Option (Int × oM) :=
  let x13 : Int := w32 (l2 - 1)
  iter (p_M_readsRow_L10 f l2) f (l1, 0, x13, M)
def p_M_even_B178_98 (f : Nat) (l1 : Int) (l2 : Int) (l3 : Int) (l4 : Int) (M : oM) : Option ((Int × Int × oM) ⊕ (Int × oM)) :=
  let x1 : Int := w32 (l4 + 1)
  some (.inl (l3, x1, M))
def p_M_even_X144 (f : Nat) (l1 : Int) (l2 : Int) (l3 : Int) (l4 : Int) (t : oM) : Option ((Int × Int × oM) ⊕ (Int × oM)) :=
  let M : oM := t
  p_M_even_B178_98 f l1 l2 l3 l4 M
def p_M_even_L144 (f : Nat) (l1 : Int) (l2 : Int) (l3 : Int) (l4 : Int) (t : Int × oM) : Option ((Int × oM) ⊕ (oM)) :=
  let l5 : Int := t.1
  let M : oM := t.2
  if l5 < M 57 58 then (bnd 6 l5 fun i2 =>
  bnd 6 (M 91 i2) fun i3 =>
  bnd 6 l5 fun i4 =>
  let M5 : oM := oU M 92 i4 (M 90 i3)
  let x6 : Int := w32 (l5 + 1)
  some (.inl (x6, M5)))
  else (some (.inr M))
def p_M_even_L98 (f : Nat) (l1 : Int) (l2 : Int) (t : Int × Int × oM) : Option ((Int × Int × oM) ⊕ (Int × oM)) :=
  let l3 : Int := t.1
  let l4 : Int := t.2.1
  let M : oM := t.2.2
  if l4 < l2 then ((p_M_readsRow f l4 (M 57 58) M).bind fun q8 =>
  let M9 : oM := q8.2
  let r10 : Int := q8.1
  if r10 = 0 then (p_M_even_B178_98 f l1 l2 l3 l4 M9)
  else ((p_M_hoursOfRow f (M9 57 58) M9).bind fun q11 =>
  let M12 : oM := q11.2
  let r13 : Int := q11.1
  if r13 < l3 then ((p_M_hoursOfRow f (M12 57 58) M12).bind fun q14 =>
  let M15 : oM := q14.2
  let r16 : Int := q14.1
  (iter (p_M_even_L144 f l1 l2 r16 l4) f (0, M15)).bind (p_M_even_X144 f l1 l2 r16 l4))
  else (p_M_even_B178_98 f l1 l2 l3 l4 M12)))
  else (if l1 = 101 then (some (.inr (l3, M)))
  else (bnd 6 l1 fun i7 =>
  some (.inr (M 92 i7, M))))
def p_M_even_X70 (f : Nat) (l1 : Int) (t : Int × oM) : Option (Int × oM) :=
  let l2 : Int := t.1
  let M : oM := t.2
  iter (p_M_even_L98 f l1 l2) f (1000000, 0, M)
def p_M_even_L70 (f : Nat) (l1 : Int) (t : Int × Int × oM) : Option ((Int × Int × oM) ⊕ (Int × oM)) :=
  let l2 : Int := t.1
  let l3 : Int := t.2.1
  let M : oM := t.2.2
  if l3 < M 57 58 then (let x17 : Int := w32 (l2 * (M 57 58))
  let x18 : Int := w32 (l3 + 1)
  some (.inl (x17, x18, M)))
  else (some (.inr (l2, M)))
def p_M_even_B66 (f : Nat) (l1 : Int) (M : oM) : Option (Int × oM) :=
  (iter (p_M_even_L70 f l1) f (1, 0, M)).bind (p_M_even_X70 f l1)
def p_M_even_B22 (f : Nat) (l1 : Int) (M : oM) : Option (Int × oM) :=
  (p_M_laysLacks f  M).bind fun q19 =>
  let M20 : oM := q19.2
  if l1 = 100 then (some (M20 57 58, M20))
  else (if 6 < M20 57 58 then (some ((-3), M20))
  else (if l1 < 100 then (if l1 < M20 57 58 then (p_M_even_B66 f l1 M20)
  else (some ((-4), M20)))
  else (p_M_even_B66 f l1 M20)))
def p_M_even (f : Nat) (l1 : Int) (M : oM) : Option (Int × oM) :=
  (p_M_in f l1 0 5 M).bind fun q21 =>
  let M22 : oM := q21.2
  let r23 : Int := q21.1
  if r23 = 0 then ((p_M_in f l1 100 101 M22).bind fun q24 =>
  let M25 : oM := q24.2
  let r26 : Int := q24.1
  if r26 = 0 then (some ((-1), M25))
  else (p_M_even_B22 f l1 M25))
  else (p_M_even_B22 f l1 M22)
def p_M_bits_L4 (f : Nat) (l0 : Int) (t : Int × Int × oM) : Option ((Int × Int × oM) ⊕ (Int × oM)) :=
  let l1 : Int := t.1
  let l2 : Int := t.2.1
  let M : oM := t.2.2
  if l2 < 12 then (let x1 : Int := w32 (l1 + (iand (ishr l0 l2) 1))
  let x2 : Int := w32 (l2 + 1)
  some (.inl (x1, x2, M)))
  else (some (.inr (l1, M)))
def p_M_bits (f : Nat) (l0 : Int) (M : oM) : Option (Int × oM) :=
  iter (p_M_bits_L4 f l0) f (0, 0, M)
def p_M_isEven_X13 (f : Nat) (l1 : Int) (l2 : Int) (t : Int × oM) : Option ((Int × oM) ⊕ (Int × oM)) :=
  let l3 : Int := t.1
  let M : oM := t.2
  if l3 = 0 then (let x1 : Int := w32 (l2 + 1)
  some (.inl (x1, M)))
  else (some (.inr (0, M)))
def p_M_isEven_B70_13 (f : Nat) (l1 : Int) (l2 : Int) (l3 : Int) (l4 : Int) (M : oM) : Option ((Int × Int × oM) ⊕ (Int × oM)) :=
  let x2 : Int := w32 (l4 + 1)
  some (.inl (l3, x2, M))
def p_M_isEven_B54_13 (f : Nat) (l1 : Int) (l2 : Int) (l3 : Int) (l4 : Int) (l5 : Int) (M : oM) : Option ((Int × Int × oM) ⊕ (Int × oM)) :=
  bnd 12 l4 fun i3 =>
  if M 84 i3 = l2 then (let x4 : Int := w32 (l3 - l5)
  p_M_isEven_B70_13 f l1 l2 x4 l4 M)
  else (p_M_isEven_B70_13 f l1 l2 l3 l4 M)
def p_M_isEven_B36_13 (f : Nat) (l1 : Int) (l2 : Int) (l3 : Int) (l4 : Int) (s0 : Int) (M : oM) : Option ((Int × Int × oM) ⊕ (Int × oM)) :=
  bnd 12 l4 fun i5 =>
  if M 85 i5 = l2 then (let x6 : Int := w32 (l3 + s0)
  p_M_isEven_B54_13 f l1 l2 x6 l4 s0 M)
  else (p_M_isEven_B54_13 f l1 l2 l3 l4 s0 M)
def p_M_isEven_L13 (f : Nat) (l1 : Int) (l2 : Int) (t : Int × Int × oM) : Option ((Int × Int × oM) ⊕ (Int × oM)) :=
  let l3 : Int := t.1
  let l4 : Int := t.2.1
  let M : oM := t.2.2
  if l4 < M 57 50 then ((p_M_has f l1 l4 M).bind fun q7 =>
  let M8 : oM := q7.2
  let r9 : Int := q7.1
  if r9 = 0 then (p_M_isEven_B36_13 f l1 l2 l3 l4 1 M8)
  else (p_M_isEven_B36_13 f l1 l2 l3 l4 (-1) M8))
  else (some (.inr (l3, M)))
def p_M_isEven_L2 (f : Nat) (l1 : Int) (t : Int × oM) : Option ((Int × oM) ⊕ (Int × oM)) :=
  let l2 : Int := t.1
  let M : oM := t.2
  if l2 < 10 then ((iter (p_M_isEven_L13 f l1 l2) f (0, 0, M)).bind (p_M_isEven_X13 f l1 l2))
  else (some (.inr (1, M)))
def p_M_isEven (f : Nat) (l1 : Int) (M : oM) : Option (Int × oM) :=
  iter (p_M_isEven_L2 f l1) f (0, M)
def p_M_turned_B85_28 (f : Nat) (l2 : Int) (M : oM) : Option ((Int × Int × oM) ⊕ (Int × oM)) :=
  some (.inr (l2, M))
def p_M_turned_B68_28 (f : Nat) (l1 : Int) (l2 : Int) (l3 : Int) (M : oM) : Option ((Int × Int × oM) ⊕ (Int × oM)) :=
  let x1 : Int := w32 (l3 + 1)
  some (.inl (l2, x1, M))
def p_M_turned_B55_28 (f : Nat) (l1 : Int) (l2 : Int) (l3 : Int) (M : oM) : Option ((Int × Int × oM) ⊕ (Int × oM)) :=
  (p_M_isEven f l3 M).bind fun q2 =>
  let M3 : oM := q2.2
  let r4 : Int := q2.1
  if r4 = 0 then (p_M_turned_B68_28 f l1 l2 l3 M3)
  else (p_M_turned_B68_28 f l1 l3 l3 M3)
def p_M_turned_L28 (f : Nat) (l1 : Int) (t : Int × Int × oM) : Option ((Int × Int × oM) ⊕ (Int × oM)) :=
  let l2 : Int := t.1
  let l3 : Int := t.2.1
  let M : oM := t.2.2
  if l3 < ishl 1 (M 57 50) then (if l2 = (-2) then (p_M_turned_B55_28 f l1 l2 l3 M)
  else ((p_M_bits f l3 M).bind fun q8 =>
  let M9 : oM := q8.2
  let r10 : Int := q8.1
  (p_M_bits f l2 M9).bind fun q11 =>
  let M12 : oM := q11.2
  let r13 : Int := q11.1
  if r10 < r13 then (p_M_turned_B55_28 f l1 l2 l3 M12)
  else (p_M_turned_B68_28 f l1 l2 l3 M12)))
  else (if l1 = 1 then (p_M_turned_B85_28 f l2 M)
  else (if l2 = (-2) then (p_M_turned_B85_28 f l2 M)
  else ((p_M_bits f l2 M).bind fun q5 =>
  let M6 : oM := q5.2
  let r7 : Int := q5.1
  some (.inr (r7, M6)))))
def p_M_turned (f : Nat) (l1 : Int) (M : oM) : Option (Int × oM) :=
  (p_M_in f l1 0 1 M).bind fun q14 =>
  let M15 : oM := q14.2
  let r16 : Int := q14.1
  if r16 = 0 then (some ((-1), M15))
  else ((p_M_laysCoins f 12 M15).bind fun q17 =>
  let M18 : oM := q17.2
  let r19 : Int := q17.1
  if r19 = 0 then (some ((-3), M18))
  else (iter (p_M_turned_L28 f l1) f ((-2), 0, M18)))
def p_M_setOff (f : Nat) (l1 : Int) (M : oM) : Option (Int × oM) :=
  (p_M_isPerson f l1 M).bind fun q1 =>
  let M2 : oM := q1.2
  let r3 : Int := q1.1
  if r3 = 0 then (some ((-1000000), M2))
  else ((p_M_setOffOf f l1 M2).bind fun q4 =>
  let M5 : oM := q4.2
  let r6 : Int := q4.1
  some (r6, M5))
def p_M_laysGroups_B120_2 (f : Nat) (l1 : Int) (M : oM) : Option ((Int × oM) ⊕ (Int × oM)) :=
  let x1 : Int := w32 (l1 + 1)
  some (.inl (x1, M))
def p_M_laysGroups_X25 (f : Nat) (l1 : Int) (t : oM) : Option ((Int × oM) ⊕ (Int × oM)) :=
  let M : oM := t
  if l1 = 0 then (p_M_laysGroups_B120_2 f l1 M)
  else (bnd 1024 l1 fun i2 =>
  if M 93 i2 = 0 then (bnd 1024 l1 fun i3 =>
  bnd 1024 l1 fun i4 =>
  let M5 : oM := oU M 94 i4 (w32 ((M 94 i3) + 1))
  p_M_laysGroups_B120_2 f l1 M5)
  else (p_M_laysGroups_B120_2 f l1 M))
def p_M_laysGroups_B87_25 (f : Nat) (l1 : Int) (l2 : Int) (M : oM) : Option ((Int × oM) ⊕ (oM)) :=
  let x6 : Int := w32 (l2 + 1)
  some (.inl (x6, M))
def p_M_laysGroups_L25 (f : Nat) (l1 : Int) (t : Int × oM) : Option ((Int × oM) ⊕ (oM)) :=
  let l2 : Int := t.1
  let M : oM := t.2
  if l2 < 10 then ((p_M_has f l1 l2 M).bind fun q7 =>
  let M8 : oM := q7.2
  let r9 : Int := q7.1
  if r9 = 0 then (p_M_laysGroups_B87_25 f l1 l2 M8)
  else (bnd 1024 l1 fun i10 =>
  (p_M_setOffOf f l2 M8).bind fun q11 =>
  let M12 : oM := q11.2
  let r13 : Int := q11.1
  bnd 1024 l1 fun i14 =>
  let M15 : oM := oU M12 93 i14 (w32 ((M8 93 i10) + r13))
  bnd 1024 l1 fun i16 =>
  bnd 1024 (iand l1 (ixor (ishl 1 l2) (-1))) fun i17 =>
  (p_M_max f (M15 94 i16) (M15 94 i17) M15).bind fun q18 =>
  let M19 : oM := q18.2
  let r20 : Int := q18.1
  bnd 1024 l1 fun i21 =>
  let M22 : oM := oU M19 94 i21 r20
  p_M_laysGroups_B87_25 f l1 l2 M22))
  else (some (.inr M))
def p_M_laysGroups_L2 (f : Nat) (t : Int × oM) : Option ((Int × oM) ⊕ (Int × oM)) :=
  let l1 : Int := t.1
  let M : oM := t.2
  if l1 < 1024 then (bnd 1024 l1 fun i23 =>
  let M24 : oM := oU M 93 i23 0
  bnd 1024 l1 fun i25 =>
  let M26 : oM := oU M24 94 i25 0
  (iter (p_M_laysGroups_L25 f l1) f (0, M26)).bind (p_M_laysGroups_X25 f l1))
  else (some (.inr (0, M)))
def p_M_laysGroups (f : Nat) (M : oM) : Option (Int × oM) :=
  iter (p_M_laysGroups_L2 f) f (0, M)
def p_M_fewest_B24_4 (f : Nat) (l1 : Int) (l2 : Int) (M : oM) : Option ((Int × Int × oM) ⊕ (Int × oM)) :=
  let x1 : Int := w32 (l2 + 1)
  some (.inl (l1, x1, M))
def p_M_fewest_L4 (f : Nat) (t : Int × Int × oM) : Option ((Int × Int × oM) ⊕ (Int × oM)) :=
  let l1 : Int := t.1
  let l2 : Int := t.2.1
  let M : oM := t.2.2
  if l2 < 10 then ((p_M_setOffOf f l2 M).bind fun q8 =>
  let M9 : oM := q8.2
  let r10 : Int := q8.1
  if r10 = 0 then (p_M_fewest_B24_4 f l1 l2 M9)
  else (let x11 : Int := ior l1 (ishl 1 l2)
  p_M_fewest_B24_4 f x11 l2 M9))
  else ((p_M_laysGroups f  M).bind fun q2 =>
  let M3 : oM := q2.2
  (p_M_bits f l1 M3).bind fun q4 =>
  let M5 : oM := q4.2
  let r6 : Int := q4.1
  bnd 1024 l1 fun i7 =>
  some (.inr (w32 (r6 - (M5 94 i7)), M5)))
def p_M_fewest (f : Nat) (M : oM) : Option (Int × oM) :=
  iter (p_M_fewest_L4 f) f (0, 0, M)
def p_M_reachOf_L2 (f : Nat) (l1 : Int) (t : Int × oM) : Option ((Int × oM) ⊕ (Int × oM)) :=
  let l2 : Int := t.1
  let M : oM := t.2
  if l2 < 100 then (bnd 159 (w32 (0 + l2)) fun i4 =>
  bnd 100 l2 fun i5 =>
  let M6 : oM := oU M 82 i5 (M 58 i4)
  let x7 : Int := w32 (l2 + 1)
  some (.inl (x7, M6)))
  else ((p_M_reachLeft f l1 M).bind fun q1 =>
  let M2 : oM := q1.2
  let r3 : Int := q1.1
  some (.inr (r3, M2)))
def p_M_reachOf (f : Nat) (l1 : Int) (M : oM) : Option (Int × oM) :=
  iter (p_M_reachOf_L2 f l1) f (0, M)
def p_M_ringOf_B56_11 (f : Nat) (l1 : Int) (l2 : Int) (l3 : Int) (l4 : Int) (M : oM) : Option ((Int × Int × oM) ⊕ (Int × oM)) :=
  let x1 : Int := w32 (l4 + 1)
  some (.inl (l2, x1, M))
def p_M_ringOf_L11 (f : Nat) (l1 : Int) (l3 : Int) (t : Int × Int × oM) : Option ((Int × Int × oM) ⊕ (Int × oM)) :=
  let l2 : Int := t.1
  let l4 : Int := t.2.1
  let M : oM := t.2.2
  if l4 < 10 then ((p_M_isPerson f l4 M).bind fun q2 =>
  let M3 : oM := q2.2
  let r4 : Int := q2.1
  if r4 = 0 then (p_M_ringOf_B56_11 f l1 l2 l3 l4 M3)
  else ((p_M_has f l3 l4 M3).bind fun q5 =>
  let M6 : oM := q5.2
  let r7 : Int := q5.1
  if r7 = 0 then (p_M_ringOf_B56_11 f l1 l2 l3 l4 M6)
  else ((p_M_reachOf f l4 M6).bind fun q8 =>
  let M9 : oM := q8.2
  let r10 : Int := q8.1
  (p_M_has f r10 l1 M9).bind fun q11 =>
  let M12 : oM := q11.2
  let r13 : Int := q11.1
  if r13 = 0 then (p_M_ringOf_B56_11 f l1 l2 l3 l4 M12)
  else (let x14 : Int := ior l2 (ishl 1 l4)
  p_M_ringOf_B56_11 f l1 x14 l3 l4 M12))))
  else (some (.inr (l2, M)))
def p_M_ringOf (f : Nat) (l1 : Int) (M : oM) : Option (Int × oM) :=
  (p_M_reachOf f l1 M).bind fun q15 =>
  let M16 : oM := q15.2
  let r17 : Int := q15.1
  iter (p_M_ringOf_L11 f l1 r17) f (0, 0, M16)
def p_M_rings_B68_34 (f : Nat) (l2 : Int) (l3 : Int) (l4 : Int) (M : oM) : Option ((Int × Int × Int × oM) ⊕ (Int × oM)) :=
  let x1 : Int := w32 (l4 + 1)
  some (.inl (l2, l3, x1, M))
def p_M_rings_L34 (f : Nat) (t : Int × Int × Int × oM) : Option ((Int × Int × Int × oM) ⊕ (Int × oM)) :=
  let l2 : Int := t.1
  let l3 : Int := t.2.1
  let l4 : Int := t.2.2.1
  let M : oM := t.2.2.2
  if l4 < 10 then ((p_M_has f l2 l4 M).bind fun q2 =>
  let M3 : oM := q2.2
  let r4 : Int := q2.1
  if r4 = 0 then (p_M_rings_B68_34 f l2 l3 l4 M3)
  else ((p_M_ringOf f l4 M3).bind fun q5 =>
  let M6 : oM := q5.2
  let r7 : Int := q5.1
  let x8 : Int := iand l2 (ixor r7 (-1))
  let x9 : Int := w32 (l3 + 1)
  p_M_rings_B68_34 f x8 x9 l4 M6))
  else (some (.inr (l3, M)))
def p_M_rings (f : Nat) (l1 : Int) (M : oM) : Option (Int × oM) :=
  if l1 = 100 then (let x10 : Int := M 57 5
  iter (p_M_rings_L34 f) f (x10, 0, 0, M))
  else ((p_M_isPerson f l1 M).bind fun q11 =>
  let M12 : oM := q11.2
  let r13 : Int := q11.1
  if r13 = 0 then (some ((-1), M12))
  else ((p_M_ringOf f l1 M12).bind fun q14 =>
  let M15 : oM := q14.2
  let r16 : Int := q14.1
  some (r16, M15)))
def p_M_off (f : Nat) (M : oM) : Option (Int × oM) :=
  bnd 159 151 fun i1 =>
  if M 58 i1 < 0 then (some ((-2), M))
  else (bnd 159 151 fun i2 =>
  (p_M_reachOf f (M 58 i2) M).bind fun q3 =>
  let M4 : oM := q3.2
  let r5 : Int := q3.1
  some (iand (M 57 5) (ixor r5 (-1)), M4))
def p_M_when_B103_56 (f : Nat) (l3 : Int) (M : oM) : Option ((Int × Int × oM) ⊕ (Int × oM)) :=
  (p_M_copies f 59 58  M).bind fun q1 =>
  let M2 : oM := q1.2
  some (.inr (l3, M2))
def p_M_when_B97_56 (f : Nat) (l1 : Int) (l2 : Int) (l3 : Int) (l4 : Int) (M : oM) : Option ((Int × Int × oM) ⊕ (Int × oM)) :=
  let x3 : Int := w32 (l4 + 1)
  some (.inl (l3, x3, M))
def p_M_when_L56 (f : Nat) (l1 : Int) (l2 : Int) (t : Int × Int × oM) : Option ((Int × Int × oM) ⊕ (Int × oM)) :=
  let l3 : Int := t.1
  let l4 : Int := t.2.1
  let M : oM := t.2.2
  if l2 < l4 then (p_M_when_B103_56 f l3 M)
  else (bnd 159 156 fun i4 =>
  if M 58 i4 < 9999 then (if l3 = (-2) then ((p_M_hourGoes f  M).bind fun q5 =>
  let M6 : oM := q5.2
  if M6 57 35 = l1 then (p_M_when_B97_56 f l1 l2 l4 l4 M6)
  else (p_M_when_B97_56 f l1 l2 l3 l4 M6))
  else (p_M_when_B103_56 f l3 M))
  else (p_M_when_B103_56 f l3 M))
def p_M_when (f : Nat) (l1 : Int) (l2 : Int) (M : oM) : Option (Int × oM) :=
  (p_M_isPerson f l1 M).bind fun q7 =>
  let M8 : oM := q7.2
  let r9 : Int := q7.1
  if r9 = 0 then (some ((-1), M8))
  else ((p_M_in f l2 1 240 M8).bind fun q10 =>
  let M11 : oM := q10.2
  let r12 : Int := q10.1
  if r12 = 0 then (some ((-1), M11))
  else (bnd 159 151 fun i13 =>
  if M11 58 i13 = l1 then (some (0, M11))
  else ((p_M_copies f 58 59  M11).bind fun q14 =>
  let M15 : oM := q14.2
  (p_M_begins f  M15).bind fun q16 =>
  let M17 : oM := q16.2
  iter (p_M_when_L56 f l1 l2) f ((-2), 1, M17))))
def p_M_wedding_B148_47 (f : Nat) (l4 : Int) (M : oM) : Option ((Int × Int × Int × oM) ⊕ (Int × oM)) :=
  (p_M_copies f 59 58  M).bind fun q1 =>
  let M2 : oM := q1.2
  some (.inr (l4, M2))
def p_M_wedding_B142_47 (f : Nat) (l1 : Int) (l2 : Int) (l3 : Int) (l4 : Int) (l5 : Int) (l6 : Int) (M : oM) : Option ((Int × Int × Int × oM) ⊕ (Int × oM)) :=
  let x3 : Int := w32 (l6 + 1)
  some (.inl (l4, l5, x3, M))
def p_M_wedding_B120_47 (f : Nat) (l1 : Int) (l2 : Int) (l3 : Int) (l4 : Int) (l5 : Int) (l6 : Int) (l7 : Int) (M : oM) : Option ((Int × Int × Int × oM) ⊕ (Int × oM)) :=
  (p_M_has f l5 l1 M).bind fun q4 =>
  let M5 : oM := q4.2
  let r6 : Int := q4.1
  if r6 = 0 then (p_M_wedding_B142_47 f l1 l2 l3 l4 l5 l6 M5)
  else ((p_M_has f l5 l2 M5).bind fun q7 =>
  let M8 : oM := q7.2
  let r9 : Int := q7.1
  if r9 = 0 then (p_M_wedding_B142_47 f l1 l2 l3 l4 l5 l6 M8)
  else (p_M_wedding_B142_47 f l1 l2 l3 l7 l5 l6 M8))
def p_M_wedding_B98_47 (f : Nat) (l1 : Int) (l2 : Int) (l3 : Int) (l4 : Int) (l5 : Int) (l6 : Int) (l7 : Int) (M : oM) : Option ((Int × Int × Int × oM) ⊕ (Int × oM)) :=
  (p_M_hourGoes f  M).bind fun q10 =>
  let M11 : oM := q10.2
  if M11 57 35 < 0 then (p_M_wedding_B120_47 f l1 l2 l3 l4 l5 l6 l7 M11)
  else (let x12 : Int := ior l5 (ishl 1 (M11 57 35))
  p_M_wedding_B120_47 f l1 l2 l3 l4 x12 l6 l7 M11)
def p_M_wedding_L47 (f : Nat) (l1 : Int) (l2 : Int) (l3 : Int) (t : Int × Int × Int × oM) : Option ((Int × Int × Int × oM) ⊕ (Int × oM)) :=
  let l4 : Int := t.1
  let l5 : Int := t.2.1
  let l6 : Int := t.2.2.1
  let M : oM := t.2.2.2
  if l6 < l3 then (bnd 159 156 fun i13 =>
  if M 58 i13 < 9999 then (if l4 = (-2) then (bnd 159 156 fun i14 =>
  let x15 : Int := M 58 i14
  bnd 159 155 fun i16 =>
  if M 58 i16 = 0 then (p_M_wedding_B98_47 f l1 l2 l3 l4 0 l6 x15 M)
  else (p_M_wedding_B98_47 f l1 l2 l3 l4 l5 l6 x15 M))
  else (p_M_wedding_B148_47 f l4 M))
  else (p_M_wedding_B148_47 f l4 M))
  else (p_M_wedding_B148_47 f l4 M)
def p_M_wedding (f : Nat) (l1 : Int) (l2 : Int) (l3 : Int) (M : oM) : Option (Int × oM) :=
  (p_M_areTwo f l1 l2 M).bind fun q17 =>
  let M18 : oM := q17.2
  let r19 : Int := q17.1
  if r19 = 0 then (some ((-1), M18))
  else ((p_M_in f l3 1 240 M18).bind fun q20 =>
  let M21 : oM := q20.2
  let r22 : Int := q20.1
  if r22 = 0 then (some ((-1), M21))
  else ((p_M_copies f 58 59  M21).bind fun q23 =>
  let M24 : oM := q23.2
  (p_M_begins f  M24).bind fun q25 =>
  let M26 : oM := q25.2
  iter (p_M_wedding_L47 f l1 l2 l3) f ((-2), 0, 0, M26)))
def p_M_longest_B49_7 (f : Nat) (l1 : Int) (l2 : Int) (l3 : Int) (M : oM) : Option ((Int × Int × Int × oM) ⊕ (Int × oM)) :=
  let x1 : Int := w32 (l3 + 1)
  some (.inl (l1, l2, x1, M))
def p_M_longest_L7 (f : Nat) (t : Int × Int × Int × oM) : Option ((Int × Int × Int × oM) ⊕ (Int × oM)) :=
  let l1 : Int := t.1
  let l2 : Int := t.2.1
  let l3 : Int := t.2.2.1
  let M : oM := t.2.2.2
  if l3 < 10 then ((p_M_isPerson f l3 M).bind fun q2 =>
  let M3 : oM := q2.2
  let r4 : Int := q2.1
  if r4 = 0 then (p_M_longest_B49_7 f l1 l2 l3 M3)
  else (bnd 159 (w32 (100 + l3)) fun i5 =>
  if l2 < M3 58 i5 then (bnd 159 (w32 (100 + l3)) fun i6 =>
  let x7 : Int := M3 58 i6
  p_M_longest_B49_7 f l3 x7 l3 M3)
  else (p_M_longest_B49_7 f l1 l2 l3 M3)))
  else (some (.inr (l1, M)))
def p_M_longest (f : Nat) (M : oM) : Option (Int × oM) :=
  iter (p_M_longest_L7 f) f ((-2), 0, 0, M)
def p_M_chalk (f : Nat) (l1 : Int) (M : oM) : Option (Int × oM) :=
  bnd 159 150 fun i1 =>
  (p_M_in f l1 0 (w32 ((M 58 i1) - 1)) M).bind fun q2 =>
  let M3 : oM := q2.2
  let r4 : Int := q2.1
  if r4 = 0 then (some ((-1), M3))
  else (bnd 159 (w32 (110 + l1)) fun i5 =>
  some (M3 58 i5, M3))
def p_M_hoursOf_B41_4 (f : Nat) (l1 : Int) (l3 : Int) (s0 : Int) (s1 : Int) (M : oM) : Option ((Int × Int × oM) ⊕ (Int × oM)) :=
  let x1 : Int := w32 (s0 + s1)
  let x2 : Int := w32 (l3 + 1)
  some (.inl (x1, x2, M))
def p_M_hoursOf_L4 (f : Nat) (l1 : Int) (t : Int × Int × oM) : Option ((Int × Int × oM) ⊕ (Int × oM)) :=
  let l2 : Int := t.1
  let l3 : Int := t.2.1
  let M : oM := t.2.2
  if l3 < M 57 50 then ((p_M_has f l1 l3 M).bind fun q3 =>
  let M4 : oM := q3.2
  let r5 : Int := q3.1
  if r5 = 0 then (p_M_hoursOf_B41_4 f l1 l3 l2 0 M4)
  else (bnd 12 l3 fun i6 =>
  bnd 12 l3 fun i7 =>
  (p_M_wayOf f (M4 84 i6) (M4 85 i7) M4).bind fun q8 =>
  let M9 : oM := q8.2
  let r10 : Int := q8.1
  p_M_hoursOf_B41_4 f l1 l3 l2 r10 M9))
  else (some (.inr (l2, M)))
def p_M_hoursOf (f : Nat) (l1 : Int) (M : oM) : Option (Int × oM) :=
  iter (p_M_hoursOf_L4 f l1) f (0, 0, M)
def p_M_isRowOf_B78_23 (f : Nat) (l1 : Int) (l2 : Int) (l3 : Int) (M : oM) : Option ((Int × oM) ⊕ (Int × oM)) :=
  let x1 : Int := w32 (l3 + 1)
  some (.inl (x1, M))
def p_M_isRowOf_L23 (f : Nat) (l1 : Int) (l2 : Int) (t : Int × oM) : Option ((Int × oM) ⊕ (Int × oM)) :=
  let l3 : Int := t.1
  let M : oM := t.2
  if l3 < M 57 50 then ((p_M_has f l1 l3 M).bind fun q6 =>
  let M7 : oM := q6.2
  let r8 : Int := q6.1
  if r8 = 0 then (p_M_isRowOf_B78_23 f l1 l2 l3 M7)
  else (bnd 12 l3 fun i9 =>
  bnd 12 l3 fun i10 =>
  bnd 12 l3 fun i11 =>
  bnd 12 l3 fun i12 =>
  (p_M_leftOf f (M7 84 i11) (M7 85 i12) M7).bind fun q13 =>
  let M14 : oM := q13.2
  let r15 : Int := q13.1
  bnd 100 (w32 ((w32 (10 * (M7 84 i9))) + (M7 85 i10))) fun i16 =>
  let M17 : oM := oU M14 82 i16 (w32 (r15 + 1))
  p_M_isRowOf_B78_23 f l1 l2 l3 M17))
  else ((p_M_isRow f l2 M).bind fun q2 =>
  let M3 : oM := q2.2
  let r4 : Int := q2.1
  bnd 2 r4 fun b5 => some (.inr (b5, M3)))
def p_M_isRowOf_X2 (f : Nat) (l1 : Int) (l2 : Int) (t : oM) : Option (Int × oM) :=
  let M : oM := t
  iter (p_M_isRowOf_L23 f l1 l2) f (0, M)
def p_M_isRowOf_L2 (f : Nat) (l1 : Int) (l2 : Int) (t : Int × oM) : Option ((Int × oM) ⊕ (oM)) :=
  let l3 : Int := t.1
  let M : oM := t.2
  if l3 < 100 then (bnd 100 l3 fun i18 =>
  let M19 : oM := oU M 82 i18 0
  let x20 : Int := w32 (l3 + 1)
  some (.inl (x20, M19)))
  else (some (.inr M))
def p_M_isRowOf (f : Nat) (l1 : Int) (l2 : Int) (M : oM) : Option (Int × oM) :=
  (iter (p_M_isRowOf_L2 f l1 l2) f (0, M)).bind (p_M_isRowOf_X2 f l1 l2)
def p_M_two_B119_52 (f : Nat) (l1 : Int) (l2 : Int) (l3 : Int) (l4 : Int) (M : oM) : Option ((Int × Int × oM) ⊕ (Int × oM)) :=
  let x1 : Int := w32 (l4 + 1)
  some (.inl (l3, x1, M))
def p_M_two_L52 (f : Nat) (l1 : Int) (l2 : Int) (t : Int × Int × oM) : Option ((Int × Int × oM) ⊕ (Int × oM)) :=
  let l3 : Int := t.1
  let l4 : Int := t.2.1
  let M : oM := t.2.2
  if l2 < l4 then (if l3 = 1000000 then (some (.inr ((-4), M)))
  else (some (.inr (l3, M))))
  else ((p_M_hoursOf f l4 M).bind fun q2 =>
  let M3 : oM := q2.2
  let r4 : Int := q2.1
  (p_M_hoursOf f (iand l2 (ixor l4 (-1))) M3).bind fun q5 =>
  let M6 : oM := q5.2
  let r7 : Int := q5.1
  (p_M_max f r4 r7 M6).bind fun q8 =>
  let M9 : oM := q8.2
  let r10 : Int := q8.1
  if r10 < l3 then (bnd 159 151 fun i11 =>
  (p_M_isRowOf f l4 (M9 58 i11) M9).bind fun q12 =>
  let M13 : oM := q12.2
  let r14 : Int := q12.1
  if r14 = 0 then (p_M_two_B119_52 f l1 l2 l3 l4 M13)
  else ((p_M_isRowOf f (iand l2 (ixor l4 (-1))) l1 M13).bind fun q15 =>
  let M16 : oM := q15.2
  let r17 : Int := q15.1
  if r17 = 0 then (p_M_two_B119_52 f l1 l2 l3 l4 M16)
  else (p_M_two_B119_52 f l1 l2 r10 l4 M16)))
  else (p_M_two_B119_52 f l1 l2 l3 l4 M9))
def p_M_two (f : Nat) (l1 : Int) (M : oM) : Option (Int × oM) :=
  (p_M_isPerson f l1 M).bind fun q18 =>
  let M19 : oM := q18.2
  let r20 : Int := q18.1
  if r20 = 0 then (some ((-1), M19))
  else (bnd 159 151 fun i21 =>
  if M19 58 i21 < 0 then (some ((-2), M19))
  else ((p_M_laysCoins f 8 M19).bind fun q22 =>
  let M23 : oM := q22.2
  let r24 : Int := q22.1
  if r24 = 0 then (some ((-3), M23))
  else (let x25 : Int := w32 ((ishl 1 (M23 57 50)) - 1)
  iter (p_M_two_L52 f l1 x25) f (1000000, 0, M23))))
def p_M_gcd_L4 (f : Nat) (t : Int × Int × oM) : Option ((Int × Int × oM) ⊕ (Int × oM)) :=
  let l2 : Int := t.1
  let l3 : Int := t.2.1
  let M : oM := t.2.2
  if l3 = 0 then (some (.inr (l2, M)))
  else (nz l3 fun z1 =>
  let x2 : Int := Int.tmod l2 z1
  some (.inl (l3, x2, M)))
def p_M_gcd (f : Nat) (l0 : Int) (l1 : Int) (M : oM) : Option (Int × oM) :=
  iter (p_M_gcd_L4 f) f (l0, l1, M)
def p_M_dry_L38 (f : Nat) (l1 : Int) (l2 : Int) (l3 : Int) (t : Int × Int × Int × oM) : Option ((Int × Int × Int × oM) ⊕ (Int × oM)) :=
  let l4 : Int := t.1
  let l5 : Int := t.2.1
  let l6 : Int := t.2.2.1
  let M : oM := t.2.2.2
  if l6 < l1 then (let x6 : Int := w32 (l4 * l3)
  let x7 : Int := w32 (l5 * 10)
  let x8 : Int := w32 (l6 + 1)
  some (.inl (x6, x7, x8, M)))
  else ((p_M_gcd f l4 l5 M).bind fun q1 =>
  let M2 : oM := q1.2
  let r3 : Int := q1.1
  if l2 = 0 then (nz r3 fun z5 =>
  some (.inr (w32 (Int.tdiv l4 z5), M2)))
  else (nz r3 fun z4 =>
  some (.inr (w32 (Int.tdiv l5 z4), M2))))
def p_M_dry (f : Nat) (l1 : Int) (l2 : Int) (M : oM) : Option (Int × oM) :=
  (p_M_in f l1 1 9 M).bind fun q9 =>
  let M10 : oM := q9.2
  let r11 : Int := q9.1
  if r11 = 0 then (some ((-1), M10))
  else ((p_M_in f l2 0 1 M10).bind fun q12 =>
  let M13 : oM := q12.2
  let r14 : Int := q12.1
  if r14 = 0 then (some ((-1), M13))
  else ((p_M_rainBy f  M13).bind fun q15 =>
  let M16 : oM := q15.2
  let r17 : Int := q15.1
  let x18 : Int := w32 (10 - r17)
  iter (p_M_dry_L38 f l1 l2 x18) f (1, 1, 0, M16)))
def p_M_seed (f : Nat) (l1 : Int) (M : oM) : Option (Int × oM) :=
  (p_M_in f l1 0 65535 M).bind fun q1 =>
  let M2 : oM := q1.2
  let r3 : Int := q1.1
  if r3 = 0 then (some (0, M2))
  else (bnd 159 158 fun i4 =>
  let M5 : oM := oU M2 58 i4 l1
  some (1, M5))
def p_M_keep (f : Nat) (M : oM) : Option (Int × oM) :=
  let M1 : oM := oU M 57 61 1
  (p_M_copies f 58 60  M1).bind fun q2 =>
  let M3 : oM := q2.2
  (p_M_owedInAll f  M3).bind fun q4 =>
  let M5 : oM := q4.2
  let r6 : Int := q4.1
  some (r6, M5)
def p_M_undo (f : Nat) (M : oM) : Option (Int × oM) :=
  if M 57 61 = 0 then (some (0, M))
  else ((p_M_copies f 60 58  M).bind fun q1 =>
  let M2 : oM := q1.2
  some (1, M2))
def p_M_check_B66_28 (f : Nat) (l1 : Int) (l2 : Int) (s0 : Int) (s1 : Int) (M : oM) : Option ((Int × oM) ⊕ (Int × oM)) :=
  if s0 = s1 then (let x1 : Int := w32 (l2 + 1)
  some (.inl (x1, M)))
  else (some (.inr (l2, M)))
def p_M_check_L28 (f : Nat) (l1 : Int) (t : Int × oM) : Option ((Int × oM) ⊕ (Int × oM)) :=
  let l2 : Int := t.1
  let M : oM := t.2
  if l2 < l1 then (bnd 260 l2 fun i2 =>
  (p_M_isPerson f l2 M).bind fun q3 =>
  let M4 : oM := q3.2
  let r5 : Int := q3.1
  if r5 = 0 then (p_M_check_B66_28 f l1 l2 (iand (M 63 i2) 255) 0 M4)
  else ((p_M_owesAll f l2 M4).bind fun q6 =>
  let M7 : oM := q6.2
  let r8 : Int := q6.1
  (p_M_min f 255 r8 M7).bind fun q9 =>
  let M10 : oM := q9.2
  let r11 : Int := q9.1
  p_M_check_B66_28 f l1 l2 (iand (M 63 i2) 255) r11 M10))
  else (some (.inr ((-1), M)))
def p_M_check (f : Nat) (l1 : Int) (M : oM) : Option (Int × oM) :=
  (p_M_in f l1 0 10 M).bind fun q12 =>
  let M13 : oM := q12.2
  let r14 : Int := q12.1
  if r14 = 0 then (some ((-2), M13))
  else (if M13 57 7 < l1 then (some ((-2), M13))
  else (let M15 : oM := oU M13 57 7 0
  iter (p_M_check_L28 f l1) f (0, M15)))
def p_M_count (f : Nat) (l1 : Int) (M : oM) : Option (Int × oM) :=
  if l1 = 0 then (some (M 57 5, M))
  else (if l1 = 1 then ((p_M_owedInAll f  M).bind fun q1 =>
  let M2 : oM := q1.2
  let r3 : Int := q1.1
  some (r3, M2))
  else (if l1 = 2 then (bnd 159 151 fun i4 =>
  some (M 58 i4, M))
  else (if l1 = 3 then (bnd 159 153 fun i5 =>
  some (M 58 i5, M))
  else (if l1 = 4 then (bnd 159 154 fun i6 =>
  some (M 58 i6, M))
  else (if l1 = 5 then (bnd 159 155 fun i7 =>
  some (M 58 i7, M))
  else (if l1 = 6 then (bnd 159 156 fun i8 =>
  some (M 58 i8, M))
  else (if l1 = 7 then (bnd 159 157 fun i9 =>
  some (M 58 i9, M))
  else (if l1 = 8 then (bnd 159 150 fun i10 =>
  some (M 58 i10, M))
  else (if l1 = 9 then (some (M 57 16, M))
  else (if l1 = 10 then (some (M 57 7, M))
  else (if l1 = 11 then (bnd 159 158 fun i11 =>
  some (M 58 i11, M))
  else (some ((-1), M)))))))))))))
end
