/-! the class's methods as functions (by program out of the bytecode) -/
noncomputable section
def imax (a b : Int) : Int := if a < b then b else a
def imin (a b : Int) : Int := if b < a then b else a
def iabs (a : Int) : Int := if 0 ≤ a then a else w32 (0 - a)
/-- where a letter stands in the text constant (by hand) -/
def p_JS_indexOf (f : Nat) (c : Int) (M : oM) : Option (Int × oM) := some ((if c = 104 then 0 else if c = 99 then 1 else if c = 110 then 2 else if c = 111 then 3 else if c = 119 then 4 else if c = 103 then 5 else if c = 116 then 6 else if c = 121 then 7 else -1), M)
def p_O_isOne (f : Nat) (l0 : Int) (M : oM) : Option (Int × oM) :=
  if l0 < 0 then (some (0, M))
  else (if l0 < 10 then (some (1, M))
  else (some (0, M)))
def p_P_settle (f : Nat) (l1 : Int) (l2 : Int) (l3 : Int) (M : oM) : Option (Int × oM) :=
  bnd 10 l1 fun i1 =>
  let M2 : oM := oU M 4 i1 l2
  bnd 10 l1 fun i3 =>
  let M4 : oM := oU M2 5 i3 l3
  let M5 : oM := oU M4 3 2 (ior (M4 3 2) (ishl 1 l1))
  some (0, M5)
def p_O_person (f : Nat) (l1 : Int) (l2 : Int) (l3 : Int) (M : oM) : Option (Int × oM) :=
  (p_O_isOne f l1 M).bind fun q1 =>
  let M2 : oM := q1.2
  let r3 : Int := q1.1
  if r3 = 0 then (some (0, M2))
  else (if l2 < 0 then (some (0, M2))
  else (if l2 < 10 then (if l3 < 0 then (some (0, M2))
  else (if l3 < 10 then ((p_P_settle f l1 l2 l3 M2).bind fun q4 =>
  let M5 : oM := q4.2
  some (1, M5))
  else (some (0, M2))))
  else (some (0, M2))))
def p_P_has (f : Nat) (l1 : Int) (M : oM) : Option (Int × oM) :=
  (p_O_isOne f l1 M).bind fun q1 =>
  let M2 : oM := q1.2
  let r3 : Int := q1.1
  if r3 = 0 then (some (0, M2))
  else (if iand (ishr (M2 3 2) l1) 1 = 1 then (some (1, M2))
  else (some (0, M2)))
def p_P_hasBoth (f : Nat) (l1 : Int) (l2 : Int) (M : oM) : Option (Int × oM) :=
  if l1 = l2 then (some (0, M))
  else ((p_P_has f l1 M).bind fun q1 =>
  let M2 : oM := q1.2
  let r3 : Int := q1.1
  if r3 = 0 then (some (0, M2))
  else ((p_P_has f l2 M2).bind fun q4 =>
  let M5 : oM := q4.2
  let r6 : Int := q4.1
  if r6 = 0 then (some (0, M5))
  else (some (1, M5))))
def p_O_debt (f : Nat) (l1 : Int) (l2 : Int) (l3 : Int) (M : oM) : Option (Int × oM) :=
  (p_P_hasBoth f l1 l2 M).bind fun q1 =>
  let M2 : oM := q1.2
  let r3 : Int := q1.1
  if r3 = 0 then (some (0, M2))
  else (if l3 < 0 then (some (0, M2))
  else (if 99 < l3 then (some (0, M2))
  else (bnd 100 (w32 ((w32 (l1 * 10)) + l2)) fun i4 =>
  let M5 : oM := oU M2 7 i4 l3
  some (1, M5))))
def p_D_giveTo (f : Nat) (o0 : Nat) (l1 : Int) (M : oM) : Option (Int × oM) :=
  let M1 : oM := oU M o0 4 l1
  let M2 : oM := oU M1 o0 5 (-1)
  let M3 : oM := oU M2 o0 6 (-1)
  let M4 : oM := oU M3 o0 7 0
  some (0, M4)
def p_O_coin (f : Nat) (l1 : Int) (M : oM) : Option (Int × oM) :=
  (p_P_has f l1 M).bind fun q1 =>
  let M2 : oM := q1.2
  let r3 : Int := q1.1
  if r3 = 0 then (some (0, M2))
  else ((p_D_giveTo f 6 l1 M2).bind fun q4 =>
  let M5 : oM := q4.2
  some (1, M5))
def p_T_add_L3 (f : Nat) (l1 : Int) (t : Int × oM) : Option ((Int × oM) ⊕ (Int × oM)) :=
  let l2 : Int := t.1
  let M : oM := t.2
  if l2 < 0 then (some (.inr (0, M)))
  else (if M 1 1 < 260 then (bnd 260 (M 1 1) fun i1 =>
  let M2 : oM := oU M 2 i1 (iand (iushr l1 l2) 255)
  let M3 : oM := oU M2 1 1 (w32 ((M2 1 1) + 1))
  let x4 : Int := w32 (l2 + (-8))
  some (.inl (x4, M3)))
  else (some (.inr (0, M))))
def p_T_add (f : Nat) (l1 : Int) (M : oM) : Option (Int × oM) :=
  iter (p_T_add_L3 f l1) f (24, M)
def p_T_size (f : Nat) (M : oM) : Option (Int × oM) :=
  some (M 1 1, M)
def p_O_feed (f : Nat) (l1 : Int) (l2 : Int) (l3 : Int) (l4 : Int) (l5 : Int) (M : oM) : Option (Int × oM) :=
  (p_T_size f  M).bind fun q1 =>
  let M2 : oM := q1.2
  let r3 : Int := q1.1
  if 260 < w32 (r3 + 20) then (some ((-1), M2))
  else ((p_T_add f l1 M2).bind fun q4 =>
  let M5 : oM := q4.2
  (p_T_add f l2 M5).bind fun q6 =>
  let M7 : oM := q6.2
  (p_T_add f l3 M7).bind fun q8 =>
  let M9 : oM := q8.2
  (p_T_add f l4 M9).bind fun q10 =>
  let M11 : oM := q10.2
  (p_T_add f l5 M11).bind fun q12 =>
  let M13 : oM := q12.2
  (p_T_size f  M13).bind fun q14 =>
  let M15 : oM := q14.2
  let r16 : Int := q14.1
  some (r16, M15))
def p_L_takeFrom (f : Nat) (M : oM) : Option (Int × oM) :=
  cpg 240 240 0 0 240 fun _ =>
  let M1 : oM := acopy M 28 0 19 0 240
  cpg 240 240 0 0 240 fun _ =>
  let M2 : oM := acopy M1 29 0 20 0 240
  cpg 16 16 0 0 16 fun _ =>
  let M3 : oM := acopy M2 30 0 21 0 16
  cpg 16 16 0 0 16 fun _ =>
  let M4 : oM := acopy M3 31 0 22 0 16
  cpg 16 16 0 0 16 fun _ =>
  let M5 : oM := acopy M4 32 0 23 0 16
  cpg 16 16 0 0 16 fun _ =>
  let M6 : oM := acopy M5 33 0 24 0 16
  let M7 : oM := oU M6 18 9 (M6 27 9)
  let M8 : oM := oU M7 18 10 (M7 27 10)
  some (0, M8)
def p_L_landHere (f : Nat) (l1 : Int) (M : oM) : Option (Int × oM) :=
  if l1 < 0 then (some (0, M))
  else (if l1 < M 27 9 then (bnd 240 l1 fun i1 =>
  let M2 : oM := oU M 29 i1 (M 27 9)
  some (0, M2))
  else (some (0, M)))
def p_L_put (f : Nat) (l1 : Int) (l2 : Int) (M : oM) : Option (Int × oM) :=
  if M 27 9 < 240 then (bnd 240 (M 27 9) fun i1 =>
  let M2 : oM := oU M 28 i1 l1
  bnd 240 (M2 27 9) fun i3 =>
  let M4 : oM := oU M2 29 i3 l2
  let M5 : oM := oU M4 27 9 (w32 ((M4 27 9) + 1))
  some (w32 ((M5 27 9) - 1), M5))
  else (some ((-1), M))
def p_T_faultAt (f : Nat) (l1 : Int) (l2 : Int) (M : oM) : Option (Int × oM) :=
  some (w32 ((w32 ((-1000) * l1)) - l2), M)
def p_T_fault (f : Nat) (l1 : Int) (M : oM) : Option (Int × oM) :=
  (p_T_faultAt f l1 (M 1 3) M).bind fun q1 =>
  let M2 : oM := q1.2
  let r3 : Int := q1.1
  some (r3, M2)
def p_T_next (f : Nat) (M : oM) : Option (Int × oM) :=
  some (M 1 4, M)
def p_T_nextIsDigit (f : Nat) (M : oM) : Option (Int × oM) :=
  if M 1 4 < 48 then (some (0, M))
  else (if 57 < M 1 4 then (some (0, M))
  else (some (1, M)))
def p_T_step (f : Nat) (M : oM) : Option (Int × oM) :=
  let M1 : oM := oU M 1 3 (w32 ((M 1 3) + 1))
  if M1 1 3 < 0 then (let M2 : oM := oU M1 1 4 (-1)
  some (0, M2))
  else (if M1 1 3 < M1 1 2 then (if M1 1 3 < 260 then (bnd 260 (M1 1 3) fun i5 =>
  let M6 : oM := oU M1 1 4 (M1 2 i5)
  some (0, M6))
  else (let M4 : oM := oU M1 1 4 (-1)
  some (0, M4)))
  else (let M3 : oM := oU M1 1 4 (-1)
  some (0, M3)))
def p_LR_readDigits_B48_4 (f : Nat) (l1 : Int) (M : oM) : Option ((Int × Int × oM) ⊕ (Int × oM)) :=
  (p_T_nextIsDigit f  M).bind fun q1 =>
  let M2 : oM := q1.2
  let r3 : Int := q1.1
  if r3 = 0 then ((p_L_put f 48 l1 M2).bind fun q4 =>
  let M5 : oM := q4.2
  let r6 : Int := q4.1
  some (.inr (0, M5)))
  else ((p_T_fault f 2 M2).bind fun q7 =>
  let M8 : oM := q7.2
  let r9 : Int := q7.1
  some (.inr (r9, M8)))
def p_LR_readDigits_L4 (f : Nat) (t : Int × Int × oM) : Option ((Int × Int × oM) ⊕ (Int × oM)) :=
  let l1 : Int := t.1
  let l2 : Int := t.2.1
  let M : oM := t.2.2
  if l2 < 5 then ((p_T_nextIsDigit f  M).bind fun q10 =>
  let M11 : oM := q10.2
  let r12 : Int := q10.1
  if r12 = 0 then (p_LR_readDigits_B48_4 f l1 M11)
  else ((p_T_next f  M11).bind fun q13 =>
  let M14 : oM := q13.2
  let r15 : Int := q13.1
  let x16 : Int := w32 ((w32 ((w32 (l1 * 10)) + r15)) - 48)
  (p_T_step f  M14).bind fun q17 =>
  let M18 : oM := q17.2
  let x19 : Int := w32 (l2 + 1)
  some (.inl (x16, x19, M18))))
  else (p_LR_readDigits_B48_4 f l1 M)
def p_LR_readDigits (f : Nat) (M : oM) : Option (Int × oM) :=
  iter (p_LR_readDigits_L4 f) f (0, 0, M)
def p_LR_readFactor_B111 (f : Nat) (rec : Int → oM → Option (Int × oM)) (s0 : Int) (M : oM) : Option (Int × oM) :=
  if s0 < 0 then ((p_T_fault f 1 M).bind fun q6 =>
  let M7 : oM := q6.2
  let r8 : Int := q6.1
  some (r8, M7))
  else ((p_L_put f 97 s0 M).bind fun q1 =>
  let M2 : oM := q1.2
  let r3 : Int := q1.1
  (p_T_step f  M2).bind fun q4 =>
  let M5 : oM := q4.2
  some (0, M5))
def p_LR_readFactor_F (f : Nat) (rec : Int → oM → Option (Int × oM)) (l1 : Int) (M : oM) : Option (Int × oM) :=
  (p_T_next f  M).bind fun q9 =>
  let M10 : oM := q9.2
  let r11 : Int := q9.1
  if r11 = 91 then (if l1 < 6 then ((p_T_step f  M10).bind fun q21 =>
  let M22 : oM := q21.2
  (rec (w32 (l1 + 1)) M22).bind fun q23 =>
  let M24 : oM := q23.2
  let r25 : Int := q23.1
  if r25 = 0 then ((p_T_next f  M24).bind fun q26 =>
  let M27 : oM := q26.2
  let r28 : Int := q26.1
  if r28 = 93 then ((p_T_step f  M27).bind fun q29 =>
  let M30 : oM := q29.2
  some (0, M30))
  else ((p_T_fault f 1 M27).bind fun q31 =>
  let M32 : oM := q31.2
  let r33 : Int := q31.1
  some (r33, M32)))
  else (some (r25, M24)))
  else ((p_T_fault f 5 M10).bind fun q34 =>
  let M35 : oM := q34.2
  let r36 : Int := q34.1
  some (r36, M35)))
  else ((p_T_nextIsDigit f  M10).bind fun q12 =>
  let M13 : oM := q12.2
  let r14 : Int := q12.1
  if r14 = 0 then (if r11 = (-1) then (p_LR_readFactor_B111 f rec (-1) M13)
  else ((p_JS_indexOf f (i2c r11) M13).bind fun q15 =>
  let M16 : oM := q15.2
  let r17 : Int := q15.1
  p_LR_readFactor_B111 f rec r17 M16))
  else ((p_LR_readDigits f  M13).bind fun q18 =>
  let M19 : oM := q18.2
  let r20 : Int := q18.1
  some (r20, M19)))
def p_LR_readNumber_B117_7 (f : Nat) (rec : Int → oM → Option (Int × oM)) (l1 : Int) (l2 : Int) (l3 : Int) (l4 : Int) (M : oM) : Option ((Int × Int × Int × oM) ⊕ (Int × oM)) :=
  (p_T_step f  M).bind fun q1 =>
  let M2 : oM := q1.2
  let x3 : Int := w32 (l4 + 1)
  some (.inl (l2, l3, x3, M2))
def p_LR_readNumber_B77_7 (f : Nat) (rec : Int → oM → Option (Int × oM)) (l1 : Int) (l3 : Int) (l4 : Int) (l6 : Int) (M : oM) : Option ((Int × Int × Int × oM) ⊕ (Int × oM)) :=
  p_LR_readNumber_B117_7 f rec l1 l6 l3 l4 M
def p_LR_readNumber_B114_7 (f : Nat) (rec : Int → oM → Option (Int × oM)) (l1 : Int) (l2 : Int) (l4 : Int) (l6 : Int) (M : oM) : Option ((Int × Int × Int × oM) ⊕ (Int × oM)) :=
  p_LR_readNumber_B117_7 f rec l1 l2 l6 l4 M
def p_LR_readNumber_B98_7 (f : Nat) (rec : Int → oM → Option (Int × oM)) (l1 : Int) (l2 : Int) (l4 : Int) (l6 : Int) (M : oM) : Option ((Int × Int × Int × oM) ⊕ (Int × oM)) :=
  if l6 = 43 then (p_LR_readNumber_B114_7 f rec l1 l2 l4 l6 M)
  else (if l6 = 45 then (p_LR_readNumber_B114_7 f rec l1 l2 l4 l6 M)
  else (some (.inr (0, M))))
def p_LR_readNumber_B47_7 (f : Nat) (rec : Int → oM → Option (Int × oM)) (l1 : Int) (l2 : Int) (l3 : Int) (l4 : Int) (M : oM) : Option ((Int × Int × Int × oM) ⊕ (Int × oM)) :=
  (p_T_next f  M).bind fun q4 =>
  let M5 : oM := q4.2
  let r6 : Int := q4.1
  if r6 = 42 then (p_LR_readNumber_B77_7 f rec l1 l3 l4 r6 M5)
  else (if r6 = 47 then (p_LR_readNumber_B77_7 f rec l1 l3 l4 r6 M5)
  else (if r6 = 37 then (p_LR_readNumber_B77_7 f rec l1 l3 l4 r6 M5)
  else (if l3 = (-1) then (p_LR_readNumber_B98_7 f rec l1 l2 l4 r6 M5)
  else ((p_L_put f l3 0 M5).bind fun q7 =>
  let M8 : oM := q7.2
  let r9 : Int := q7.1
  p_LR_readNumber_B98_7 f rec l1 l2 l4 r6 M8))))
def p_LR_readNumber_L7 (f : Nat) (rec : Int → oM → Option (Int × oM)) (l1 : Int) (t : Int × Int × Int × oM) : Option ((Int × Int × Int × oM) ⊕ (Int × oM)) :=
  let l2 : Int := t.1
  let l3 : Int := t.2.1
  let l4 : Int := t.2.2.1
  let M : oM := t.2.2.2
  if l4 < 240 then ((p_LR_readFactor_F f rec l1 M).bind fun q13 =>
  let M14 : oM := q13.2
  let r15 : Int := q13.1
  if r15 = 0 then (if l2 = (-1) then (p_LR_readNumber_B47_7 f rec l1 l2 l3 l4 M14)
  else ((p_L_put f l2 0 M14).bind fun q16 =>
  let M17 : oM := q16.2
  let r18 : Int := q16.1
  p_LR_readNumber_B47_7 f rec l1 (-1) l3 l4 M17))
  else (some (.inr (r15, M14))))
  else ((p_T_fault f 1 M).bind fun q10 =>
  let M11 : oM := q10.2
  let r12 : Int := q10.1
  some (.inr (r12, M11)))
def p_LR_readNumber_F (f : Nat) (rec : Int → oM → Option (Int × oM)) (l1 : Int) (M : oM) : Option (Int × oM) :=
  iter (p_LR_readNumber_L7 f rec l1) f ((-1), (-1), 0, M)
def p_LR_readNumber (f : Nat) : Nat → Int → oM → Option (Int × oM)
  | 0, _, _ => none
  | n + 1, l1, M => p_LR_readNumber_F f (p_LR_readNumber f n) l1 M
def p_LR_readPlainTest_B89 (f : Nat) (rec : Int → oM → Option (Int × oM)) (l1 : Int) (l3 : Int) (M : oM) : Option (Int × oM) :=
  (p_T_step f  M).bind fun q1 =>
  let M2 : oM := q1.2
  (p_LR_readNumber f 9 l1 M2).bind fun q3 =>
  let M4 : oM := q3.2
  let r5 : Int := q3.1
  (p_L_put f l3 0 M4).bind fun q6 =>
  let M7 : oM := q6.2
  let r8 : Int := q6.1
  some (r5, M7)
def p_LR_readPlainTest_F (f : Nat) (rec : Int → oM → Option (Int × oM)) (l1 : Int) (M : oM) : Option (Int × oM) :=
  (p_T_next f  M).bind fun q9 =>
  let M10 : oM := q9.2
  let r11 : Int := q9.1
  if r11 = 40 then (if l1 < 6 then ((p_T_step f  M10).bind fun q21 =>
  let M22 : oM := q21.2
  (rec (w32 (l1 + 1)) M22).bind fun q23 =>
  let M24 : oM := q23.2
  let r25 : Int := q23.1
  some (r25, M24))
  else ((p_T_fault f 5 M10).bind fun q26 =>
  let M27 : oM := q26.2
  let r28 : Int := q26.1
  some (r28, M27)))
  else ((p_LR_readNumber f 9 l1 M10).bind fun q12 =>
  let M13 : oM := q12.2
  let r14 : Int := q12.1
  if r14 = 0 then ((p_T_next f  M13).bind fun q15 =>
  let M16 : oM := q15.2
  let r17 : Int := q15.1
  if r17 = 60 then (p_LR_readPlainTest_B89 f rec l1 r17 M16)
  else (if r17 = 62 then (p_LR_readPlainTest_B89 f rec l1 r17 M16)
  else (if r17 = 61 then (p_LR_readPlainTest_B89 f rec l1 r17 M16)
  else ((p_T_fault f 1 M16).bind fun q18 =>
  let M19 : oM := q18.2
  let r20 : Int := q18.1
  some (r20, M19)))))
  else (some (r14, M13)))
def p_LR_readTest_L67 (f : Nat) (rec : Int → oM → Option (Int × oM)) (l2 : Int) (l3 : Int) (t : Int × oM) : Option ((Int × oM) ⊕ (Int × oM)) :=
  let l4 : Int := t.1
  let M : oM := t.2
  if l4 < l2 then ((p_L_put f 33 0 M).bind fun q1 =>
  let M2 : oM := q1.2
  let r3 : Int := q1.1
  let x4 : Int := w32 (l4 + 1)
  some (.inl (x4, M2)))
  else (some (.inr (l3, M)))
def p_LR_readTest_X4 (f : Nat) (rec : Int → oM → Option (Int × oM)) (l1 : Int) (r : (Int × oM) ⊕ (Int × oM)) : Option (Int × oM) := match r with
  | .inl q => some q
  | .inr t =>
  let l2 : Int := t.1
  let M : oM := t.2
  (p_LR_readPlainTest_F f rec (w32 (l1 + l2)) M).bind fun q5 =>
  let M6 : oM := q5.2
  let r7 : Int := q5.1
  iter (p_LR_readTest_L67 f rec l2 r7) f (0, M6)
def p_LR_readTest_L4 (f : Nat) (rec : Int → oM → Option (Int × oM)) (l1 : Int) (t : Int × Int × oM) : Option ((Int × Int × oM) ⊕ ((Int × oM) ⊕ (Int × oM))) :=
  let l2 : Int := t.1
  let l3 : Int := t.2.1
  let M : oM := t.2.2
  if l3 < 240 then ((p_T_next f  M).bind fun q8 =>
  let M9 : oM := q8.2
  let r10 : Int := q8.1
  if r10 = 33 then (if w32 (l1 + l2) < 6 then (let x11 : Int := w32 (l2 + 1)
  (p_T_step f  M9).bind fun q12 =>
  let M13 : oM := q12.2
  let x14 : Int := w32 (l3 + 1)
  some (.inl (x11, x14, M13)))
  else ((p_T_fault f 5 M9).bind fun q15 =>
  let M16 : oM := q15.2
  let r17 : Int := q15.1
  some (.inr (.inl (r17, M16)))))
  else (some (.inr (.inr (l2, M9)))))
  else (some (.inr (.inr (l2, M))))
def p_LR_readTest_F (f : Nat) (rec : Int → oM → Option (Int × oM)) (l1 : Int) (M : oM) : Option (Int × oM) :=
  (iter (p_LR_readTest_L4 f rec l1) f (0, 0, M)).bind (p_LR_readTest_X4 f rec l1)
def p_LR_readCondition_B147_7 (f : Nat) (rec : Int → oM → Option (Int × oM)) (l1 : Int) (l2 : Int) (l3 : Int) (l4 : Int) (M : oM) : Option ((Int × Int × Int × oM) ⊕ (Int × oM)) :=
  let x1 : Int := w32 (l4 + 1)
  some (.inl (l2, l3, x1, M))
def p_LR_readCondition_B69_7 (f : Nat) (rec : Int → oM → Option (Int × oM)) (l1 : Int) (l2 : Int) (l3 : Int) (l4 : Int) (l6 : Int) (M : oM) : Option ((Int × Int × Int × oM) ⊕ (Int × oM)) :=
  (p_T_step f  M).bind fun q2 =>
  let M3 : oM := q2.2
  (p_L_landHere f l2 M3).bind fun q4 =>
  let M5 : oM := q4.2
  if l6 = 38 then ((p_L_put f 38 (M5 27 9) M5).bind fun q11 =>
  let M12 : oM := q11.2
  let r13 : Int := q11.1
  p_LR_readCondition_B147_7 f rec l1 r13 l3 l4 M12)
  else ((p_L_landHere f l3 M5).bind fun q6 =>
  let M7 : oM := q6.2
  if l6 = 41 then (some (.inr (0, M7)))
  else ((p_L_put f 124 (M7 27 9) M7).bind fun q8 =>
  let M9 : oM := q8.2
  let r10 : Int := q8.1
  p_LR_readCondition_B147_7 f rec l1 (-1) r10 l4 M9))
def p_LR_readCondition_L7 (f : Nat) (rec : Int → oM → Option (Int × oM)) (l1 : Int) (t : Int × Int × Int × oM) : Option ((Int × Int × Int × oM) ⊕ (Int × oM)) :=
  let l2 : Int := t.1
  let l3 : Int := t.2.1
  let l4 : Int := t.2.2.1
  let M : oM := t.2.2.2
  if l4 < 240 then ((p_LR_readTest_F f rec l1 M).bind fun q17 =>
  let M18 : oM := q17.2
  let r19 : Int := q17.1
  if r19 = 0 then ((p_T_next f  M18).bind fun q20 =>
  let M21 : oM := q20.2
  let r22 : Int := q20.1
  if r22 = 38 then (p_LR_readCondition_B69_7 f rec l1 l2 l3 l4 r22 M21)
  else (if r22 = 124 then (p_LR_readCondition_B69_7 f rec l1 l2 l3 l4 r22 M21)
  else (if r22 = 41 then (p_LR_readCondition_B69_7 f rec l1 l2 l3 l4 r22 M21)
  else ((p_T_fault f 1 M21).bind fun q23 =>
  let M24 : oM := q23.2
  let r25 : Int := q23.1
  some (.inr (r25, M24))))))
  else (some (.inr (r19, M18))))
  else ((p_T_fault f 1 M).bind fun q14 =>
  let M15 : oM := q14.2
  let r16 : Int := q14.1
  some (.inr (r16, M15)))
def p_LR_readCondition_F (f : Nat) (rec : Int → oM → Option (Int × oM)) (l1 : Int) (M : oM) : Option (Int × oM) :=
  iter (p_LR_readCondition_L7 f rec l1) f ((-1), (-1), 0, M)
def p_LR_readCondition (f : Nat) : Nat → Int → oM → Option (Int × oM)
  | 0, _, _ => none
  | n + 1, l1, M => p_LR_readCondition_F f (p_LR_readCondition f n) l1 M
def p_LR_readRule_B104 (f : Nat) (l1 : Int) (s0 : Int) (M : oM) : Option (Int × oM) :=
  if s0 = 0 then ((p_T_next f  M).bind fun q1 =>
  let M2 : oM := q1.2
  let r3 : Int := q1.1
  if r3 = 40 then ((p_T_step f  M2).bind fun q4 =>
  let M5 : oM := q4.2
  bnd 16 l1 fun i6 =>
  let M7 : oM := oU M5 32 i6 (M5 27 9)
  (p_LR_readCondition f 9 1 M7).bind fun q8 =>
  let M9 : oM := q8.2
  let r10 : Int := q8.1
  if r10 = 0 then (bnd 16 l1 fun i11 =>
  let M12 : oM := oU M9 33 i11 (M9 27 9)
  let M13 : oM := oU M12 27 10 (w32 (l1 + 1))
  some (r10, M13))
  else (some (r10, M9)))
  else ((p_T_fault f 1 M2).bind fun q14 =>
  let M15 : oM := q14.2
  let r16 : Int := q14.1
  some (r16, M15)))
  else (some (s0, M))
def p_LR_readRule_B41 (f : Nat) (l1 : Int) (l2 : Int) (M : oM) : Option (Int × oM) :=
  if l1 < 16 then ((p_T_step f  M).bind fun q17 =>
  let M18 : oM := q17.2
  bnd 16 l1 fun i19 =>
  let M20 : oM := oU M18 30 i19 l2
  bnd 16 l1 fun i21 =>
  let M22 : oM := oU M20 31 i21 (M20 27 9)
  if l2 = 115 then (p_LR_readRule_B104 f l1 0 M22)
  else ((p_LR_readNumber f 9 0 M22).bind fun q23 =>
  let M24 : oM := q23.2
  let r25 : Int := q23.1
  p_LR_readRule_B104 f l1 r25 M24))
  else ((p_T_fault f 4 M).bind fun q26 =>
  let M27 : oM := q26.2
  let r28 : Int := q26.1
  some (r28, M27))
def p_LR_readRule (f : Nat) (l1 : Int) (M : oM) : Option (Int × oM) :=
  (p_T_next f  M).bind fun q29 =>
  let M30 : oM := q29.2
  let r31 : Int := q29.1
  if r31 = 101 then (p_LR_readRule_B41 f l1 r31 M30)
  else (if r31 = 105 then (p_LR_readRule_B41 f l1 r31 M30)
  else (if r31 = 114 then (p_LR_readRule_B41 f l1 r31 M30)
  else (if r31 = 115 then (p_LR_readRule_B41 f l1 r31 M30)
  else ((p_T_fault f 1 M30).bind fun q32 =>
  let M33 : oM := q32.2
  let r34 : Int := q32.1
  some (r34, M33)))))
def p_T_ended (f : Nat) (M : oM) : Option (Int × oM) :=
  if M 1 3 < M 1 2 then (some (0, M))
  else (some (1, M))
def p_LR_read_L18 (f : Nat) (t : Int × oM) : Option ((Int × oM) ⊕ (Int × oM)) :=
  let l1 : Int := t.1
  let M : oM := t.2
  if 16 < l1 then ((p_T_fault f 4 M).bind fun q1 =>
  let M2 : oM := q1.2
  let r3 : Int := q1.1
  some (.inr (r3, M2)))
  else ((p_LR_readRule f l1 M).bind fun q4 =>
  let M5 : oM := q4.2
  let r6 : Int := q4.1
  if r6 = 0 then ((p_T_ended f  M5).bind fun q7 =>
  let M8 : oM := q7.2
  let r9 : Int := q7.1
  if r9 = 0 then ((p_T_next f  M8).bind fun q10 =>
  let M11 : oM := q10.2
  let r12 : Int := q10.1
  if r12 = 59 then ((p_T_step f  M11).bind fun q13 =>
  let M14 : oM := q13.2
  let x15 : Int := w32 (l1 + 1)
  some (.inl (x15, M14)))
  else ((p_T_fault f 1 M11).bind fun q16 =>
  let M17 : oM := q16.2
  let r18 : Int := q16.1
  some (.inr (r18, M17))))
  else (some (.inr (M8 27 10, M8))))
  else (some (.inr (r6, M5))))
def p_LR_read (f : Nat) (M : oM) : Option (Int × oM) :=
  let M19 : oM := oU M 27 9 0
  let M20 : oM := oU M19 27 10 0
  iter (p_LR_read_L18 f) f (0, M20)
def p_T_clear (f : Nat) (M : oM) : Option (Int × oM) :=
  let M1 : oM := oU M 1 1 0
  some (0, M1)
def p_T_opens (f : Nat) (l1 : Int) (l2 : Int) (l3 : Int) (M : oM) : Option (Int × oM) :=
  if l1 < l2 then (some (0, M))
  else (if l3 < l1 then (some (0, M))
  else (if M 1 1 < l1 then (some (0, M))
  else (let M1 : oM := oU M 1 2 l1
  let M2 : oM := oU M1 1 3 (-1)
  (p_T_step f  M2).bind fun q3 =>
  let M4 : oM := q3.2
  some (1, M4))))
def p_O_law (f : Nat) (l1 : Int) (M : oM) : Option (Int × oM) :=
  (p_T_opens f l1 1 240 M).bind fun q1 =>
  let M2 : oM := q1.2
  let r3 : Int := q1.1
  if r3 = 0 then (some ((-1), M2))
  else ((p_LR_read f  M2).bind fun q4 =>
  let M5 : oM := q4.2
  let r6 : Int := q4.1
  (p_T_clear f  M5).bind fun q7 =>
  let M8 : oM := q7.2
  if 0 < r6 then ((p_L_takeFrom f  M8).bind fun q9 =>
  let M10 : oM := q9.2
  some (r6, M10))
  else (some (r6, M8)))
def p_T_place (f : Nat) (M : oM) : Option (Int × oM) :=
  some (M 1 3, M)
def p_DR_readMany_B72_27 (f : Nat) (l1 : Int) (l2 : Int) (l3 : Int) (M : oM) : Option ((Int × Int × oM) ⊕ (Int × oM)) :=
  if l3 = 0 then ((p_T_faultAt f 3 l2 M).bind fun q4 =>
  let M5 : oM := q4.2
  let r6 : Int := q4.1
  some (.inr (r6, M5)))
  else (bnd 100 l1 fun i1 =>
  bnd 100 l1 fun i2 =>
  let M3 : oM := oU M 38 i2 (imin 99 (w32 ((M 38 i1) + l3)))
  some (.inr (0, M3)))
def p_DR_readMany_L27 (f : Nat) (l1 : Int) (l2 : Int) (t : Int × Int × oM) : Option ((Int × Int × oM) ⊕ (Int × oM)) :=
  let l3 : Int := t.1
  let l4 : Int := t.2.1
  let M : oM := t.2.2
  if l4 < 2 then ((p_T_nextIsDigit f  M).bind fun q7 =>
  let M8 : oM := q7.2
  let r9 : Int := q7.1
  if r9 = 0 then (p_DR_readMany_B72_27 f l1 l2 l3 M8)
  else ((p_T_next f  M8).bind fun q10 =>
  let M11 : oM := q10.2
  let r12 : Int := q10.1
  let x13 : Int := w32 ((w32 ((w32 (l3 * 10)) + r12)) - 48)
  (p_T_step f  M11).bind fun q14 =>
  let M15 : oM := q14.2
  let x16 : Int := w32 (l4 + 1)
  some (.inl (x13, x16, M15))))
  else (p_DR_readMany_B72_27 f l1 l2 l3 M)
def p_DR_readMany_B23 (f : Nat) (l1 : Int) (l2 : Int) (s0 : Int) (M : oM) : Option (Int × oM) :=
  iter (p_DR_readMany_L27 f l1 l2) f (s0, 0, M)
def p_DR_readMany (f : Nat) (l1 : Int) (M : oM) : Option (Int × oM) :=
  (p_T_place f  M).bind fun q17 =>
  let M18 : oM := q17.2
  let r19 : Int := q17.1
  (p_T_nextIsDigit f  M18).bind fun q20 =>
  let M21 : oM := q20.2
  let r22 : Int := q20.1
  if r22 = 0 then (p_DR_readMany_B23 f l1 r19 1 M21)
  else (p_DR_readMany_B23 f l1 r19 0 M21)
def p_T_nextOne (f : Nat) (M : oM) : Option (Int × oM) :=
  let x1 : Int := w32 ((M 1 4) - 97)
  (p_O_isOne f x1 M).bind fun q2 =>
  let M3 : oM := q2.2
  let r4 : Int := q2.1
  if r4 = 0 then (some ((-1), M3))
  else (some (x1, M3))
def p_DR_readLine (f : Nat) (l1 : Int) (M : oM) : Option (Int × oM) :=
  (p_T_nextOne f  M).bind fun q1 =>
  let M2 : oM := q1.2
  let r3 : Int := q1.1
  if r3 < 0 then ((p_T_fault f 1 M2).bind fun q43 =>
  let M44 : oM := q43.2
  let r45 : Int := q43.1
  some (r45, M44))
  else (if l1 < 30 then ((p_P_has f r3 M2).bind fun q4 =>
  let M5 : oM := q4.2
  let r6 : Int := q4.1
  if r6 = 0 then ((p_T_fault f 7 M5).bind fun q37 =>
  let M38 : oM := q37.2
  let r39 : Int := q37.1
  some (r39, M38))
  else ((p_T_step f  M5).bind fun q7 =>
  let M8 : oM := q7.2
  (p_T_next f  M8).bind fun q9 =>
  let M10 : oM := q9.2
  let r11 : Int := q9.1
  if r11 = 62 then ((p_T_step f  M10).bind fun q12 =>
  let M13 : oM := q12.2
  (p_T_nextOne f  M13).bind fun q14 =>
  let M15 : oM := q14.2
  let r16 : Int := q14.1
  if r16 < 0 then ((p_T_fault f 1 M15).bind fun q31 =>
  let M32 : oM := q31.2
  let r33 : Int := q31.1
  some (r33, M32))
  else ((p_P_has f r16 M15).bind fun q17 =>
  let M18 : oM := q17.2
  let r19 : Int := q17.1
  if r19 = 0 then ((p_T_fault f 7 M18).bind fun q28 =>
  let M29 : oM := q28.2
  let r30 : Int := q28.1
  some (r30, M29))
  else (if r16 = r3 then ((p_T_fault f 6 M18).bind fun q25 =>
  let M26 : oM := q25.2
  let r27 : Int := q25.1
  some (r27, M26))
  else ((p_T_step f  M18).bind fun q20 =>
  let M21 : oM := q20.2
  (p_DR_readMany f (w32 ((w32 (r3 * 10)) + r16)) M21).bind fun q22 =>
  let M23 : oM := q22.2
  let r24 : Int := q22.1
  some (r24, M23)))))
  else ((p_T_fault f 1 M10).bind fun q34 =>
  let M35 : oM := q34.2
  let r36 : Int := q34.1
  some (r36, M35))))
  else ((p_T_fault f 4 M2).bind fun q40 =>
  let M41 : oM := q40.2
  let r42 : Int := q40.1
  some (r42, M41)))
def p_JA_fill_L5 (f : Nat) (o0 : Nat) (n0 : Int) (l1 : Int) (l3 : Int) (t : Int × oM) : Option ((Int × oM) ⊕ (Int × oM)) :=
  let l2 : Int := t.1
  let M : oM := t.2
  if l2 < l3 then (bnd n0 l2 fun i1 =>
  let M2 : oM := oU M o0 i1 l1
  let x3 : Int := w32 (l2 + 1)
  some (.inl (x3, M2)))
  else (some (.inr (0, M)))
def p_JA_fill (f : Nat) (o0 : Nat) (n0 : Int) (l1 : Int) (M : oM) : Option (Int × oM) :=
  iter (p_JA_fill_L5 f o0 n0 l1 n0) f (0, M)
def p_DR_read_L10 (f : Nat) (t : Int × oM) : Option ((Int × oM) ⊕ (Int × oM)) :=
  let l1 : Int := t.1
  let M : oM := t.2
  if 30 < l1 then ((p_T_fault f 4 M).bind fun q1 =>
  let M2 : oM := q1.2
  let r3 : Int := q1.1
  some (.inr (r3, M2)))
  else ((p_DR_readLine f l1 M).bind fun q4 =>
  let M5 : oM := q4.2
  let r6 : Int := q4.1
  if r6 = 0 then ((p_T_ended f  M5).bind fun q7 =>
  let M8 : oM := q7.2
  let r9 : Int := q7.1
  if r9 = 0 then ((p_T_next f  M8).bind fun q10 =>
  let M11 : oM := q10.2
  let r12 : Int := q10.1
  if r12 = 59 then ((p_T_step f  M11).bind fun q13 =>
  let M14 : oM := q13.2
  let x15 : Int := w32 (l1 + 1)
  some (.inl (x15, M14)))
  else ((p_T_fault f 1 M11).bind fun q16 =>
  let M17 : oM := q16.2
  let r18 : Int := q16.1
  some (.inr (r18, M17))))
  else (some (.inr (r6, M8))))
  else (some (.inr (r6, M5))))
def p_DR_read (f : Nat) (M : oM) : Option (Int × oM) :=
  (p_JA_fill f 38 100 0 M).bind fun q19 =>
  let M20 : oM := q19.2
  iter (p_DR_read_L10 f) f (0, M20)
def p_D_owedInAll_L4 (f : Nat) (o0 : Nat) (t : Int × Int × oM) : Option ((Int × Int × oM) ⊕ (Int × oM)) :=
  let l1 : Int := t.1
  let l2 : Int := t.2.1
  let M : oM := t.2.2
  if l2 < 100 then (bnd 100 l2 fun i1 =>
  let x2 : Int := w32 (l1 + (M (o0 + 1) i1))
  let x3 : Int := w32 (l2 + 1)
  some (.inl (x2, x3, M)))
  else (some (.inr (l1, M)))
def p_D_owedInAll (f : Nat) (o0 : Nat) (M : oM) : Option (Int × oM) :=
  iter (p_D_owedInAll_L4 f o0) f (0, 0, M)
def p_O_debts (f : Nat) (l1 : Int) (M : oM) : Option (Int × oM) :=
  (p_T_opens f l1 1 160 M).bind fun q1 =>
  let M2 : oM := q1.2
  let r3 : Int := q1.1
  if r3 = 0 then (some ((-1), M2))
  else ((p_DR_read f  M2).bind fun q4 =>
  let M5 : oM := q4.2
  let r6 : Int := q4.1
  (p_T_clear f  M5).bind fun q7 =>
  let M8 : oM := q7.2
  if r6 = 0 then (cpg 100 100 0 0 100 fun _ =>
  let M9 : oM := acopy M8 38 0 7 0 100
  (p_D_owedInAll f 6  M9).bind fun q10 =>
  let M11 : oM := q10.2
  let r12 : Int := q10.1
  some (r12, M11))
  else (some (r6, M8)))
def p_O_areHours (f : Nat) (l0 : Int) (M : oM) : Option (Int × oM) :=
  if l0 < 1 then (some (0, M))
  else (if 240 < l0 then (some (0, M))
  else (some (1, M)))
def p_D_draw (f : Nat) (o0 : Nat) (M : oM) : Option (Int × oM) :=
  let M1 : oM := oU M o0 11 (iand (w32 ((w32 (25173 * (M o0 11))) + 13849)) 65535)
  nz 10 fun z2 =>
  some (Int.tmod (M1 o0 11) z2, M1)
def p_L_joined (f : Nat) (l0 : Int) (l1 : Int) (l2 : Int) (M : oM) : Option (Int × oM) :=
  if l0 = 37 then (if l2 = 0 then (some (0, M))
  else (nz l2 fun z1 =>
  some (Int.tmod l1 z1, M)))
  else (if l0 = 42 then (some (w32 (l1 * l2), M))
  else (if l0 = 43 then (some (w32 (l1 + l2), M))
  else (if l0 = 45 then (some (w32 (l1 - l2), M))
  else (if l0 = 47 then (if l2 = 0 then (some (0, M))
  else (nz l2 fun z2 =>
  some (w32 (Int.tdiv l1 z2), M)))
  else (if l0 = 60 then (if l1 < l2 then (some (1, M))
  else (some (0, M)))
  else (if l0 = 62 then (if l2 < l1 then (some (1, M))
  else (some (0, M)))
  else (if l1 = l2 then (some (1, M))
  else (some (0, M)))))))))
def p_L_reckoned_B292_8 (f : Nat) (l3 : Int) (M : oM) : Option ((Int × Int × Int × oM) ⊕ (Int × oM)) :=
  if l3 = 1 then (bnd 64 0 fun i1 =>
  some (.inr (M 26 i1, M)))
  else (some (.inr (0, M)))
def p_L_reckoned_B286_8 (f : Nat) (l2 : Int) (l3 : Int) (l4 : Int) (l5 : Int) (M : oM) : Option ((Int × Int × Int × oM) ⊕ (Int × oM)) :=
  let x2 : Int := w32 (l5 + 1)
  some (.inl (l3, l4, x2, M))
def p_L_reckoned_B105_8 (f : Nat) (l2 : Int) (l3 : Int) (l4 : Int) (l5 : Int) (s1 : Int) (s2 : Int) (M : oM) : Option ((Int × Int × Int × oM) ⊕ (Int × oM)) :=
  bnd 64 s1 fun i3 =>
  let M4 : oM := oU M 26 i3 s2
  let x5 : Int := w32 (l3 + 1)
  p_L_reckoned_B286_8 f l2 x5 l4 l5 M4
def p_L_reckoned_B70_8 (f : Nat) (l2 : Int) (l3 : Int) (l4 : Int) (l5 : Int) (l6 : Int) (l7 : Int) (M : oM) : Option ((Int × Int × Int × oM) ⊕ (Int × oM)) :=
  if l3 < 64 then (if l6 = 48 then (p_L_reckoned_B105_8 f l2 l3 l4 l5 l3 l7 M)
  else (bnd 8 (iand l7 7) fun i6 =>
  p_L_reckoned_B105_8 f l2 l3 l4 l5 l3 (M 25 i6) M))
  else (some (.inr (0, M)))
def p_L_reckoned_B196_8 (f : Nat) (l2 : Int) (l3 : Int) (l4 : Int) (l5 : Int) (l7 : Int) (s0 : Int) (s1 : Int) (M : oM) : Option ((Int × Int × Int × oM) ⊕ (Int × oM)) :=
  if s0 = s1 then (p_L_reckoned_B286_8 f l2 l3 l7 l5 M)
  else (let x7 : Int := w32 (l3 + (-1))
  p_L_reckoned_B286_8 f l2 x7 l4 l5 M)
def p_L_reckoned_B184_8 (f : Nat) (l2 : Int) (l3 : Int) (l4 : Int) (l5 : Int) (l6 : Int) (l7 : Int) (s0 : Int) (M : oM) : Option ((Int × Int × Int × oM) ⊕ (Int × oM)) :=
  if l6 = 124 then (p_L_reckoned_B196_8 f l2 l3 l4 l5 l7 s0 1 M)
  else (p_L_reckoned_B196_8 f l2 l3 l4 l5 l7 s0 0 M)
def p_L_reckoned_B133_8 (f : Nat) (l2 : Int) (l3 : Int) (l4 : Int) (l5 : Int) (l6 : Int) (l7 : Int) (M : oM) : Option ((Int × Int × Int × oM) ⊕ (Int × oM)) :=
  if l3 < 1 then (some (.inr (0, M)))
  else (if l6 = 33 then (bnd 64 (w32 (l3 - 1)) fun i9 =>
  bnd 64 (w32 (l3 - 1)) fun i10 =>
  let M11 : oM := oU M 26 i10 (w32 (1 - (M 26 i9)))
  p_L_reckoned_B286_8 f l2 l3 l4 l5 M11)
  else (bnd 64 (w32 (l3 - 1)) fun i8 =>
  if M 26 i8 = 0 then (p_L_reckoned_B184_8 f l2 l3 l4 l5 l6 l7 0 M)
  else (p_L_reckoned_B184_8 f l2 l3 l4 l5 l6 l7 1 M)))
def p_L_reckoned_B256_8 (f : Nat) (l2 : Int) (l3 : Int) (l4 : Int) (l5 : Int) (l6 : Int) (M : oM) : Option ((Int × Int × Int × oM) ⊕ (Int × oM)) :=
  let x12 : Int := w32 (l3 + (-1))
  bnd 64 (w32 (x12 - 1)) fun i13 =>
  bnd 64 x12 fun i14 =>
  (p_L_joined f l6 (M 26 i13) (M 26 i14) M).bind fun q15 =>
  let M16 : oM := q15.2
  let r17 : Int := q15.1
  bnd 64 (w32 (x12 - 1)) fun i18 =>
  let M19 : oM := oU M16 26 i18 r17
  p_L_reckoned_B286_8 f l2 x12 l4 l5 M19
def p_L_reckoned_B231_8 (f : Nat) (l2 : Int) (l3 : Int) (l4 : Int) (l5 : Int) (l6 : Int) (s0 : Int) (M : oM) : Option ((Int × Int × Int × oM) ⊕ (Int × oM)) :=
  if l3 < 2 then (some (.inr (0, M)))
  else (if s0 = 0 then (p_L_reckoned_B256_8 f l2 l3 l4 l5 l6 M)
  else (bnd 64 (w32 (l3 - 1)) fun i20 =>
  if M 26 i20 = 0 then (some (.inr (0, M)))
  else (p_L_reckoned_B256_8 f l2 l3 l4 l5 l6 M)))
def p_L_reckoned_B226_8 (f : Nat) (l2 : Int) (l3 : Int) (l4 : Int) (l5 : Int) (l6 : Int) (M : oM) : Option ((Int × Int × Int × oM) ⊕ (Int × oM)) :=
  p_L_reckoned_B231_8 f l2 l3 l4 l5 l6 1 M
def p_L_reckoned_L8 (f : Nat) (l2 : Int) (t : Int × Int × Int × oM) : Option ((Int × Int × Int × oM) ⊕ (Int × oM)) :=
  let l3 : Int := t.1
  let l4 : Int := t.2.1
  let l5 : Int := t.2.2.1
  let M : oM := t.2.2.2
  if l5 < 240 then (if l4 < 0 then (p_L_reckoned_B292_8 f l3 M)
  else (if l4 < l2 then (if l4 < 240 then (bnd 240 l4 fun i21 =>
  let x22 : Int := M 19 i21
  bnd 240 l4 fun i23 =>
  let x24 : Int := M 20 i23
  let x25 : Int := w32 (l4 + 1)
  if x22 = 48 then (p_L_reckoned_B70_8 f l2 l3 x25 l5 x22 x24 M)
  else (if x22 = 97 then (p_L_reckoned_B70_8 f l2 l3 x25 l5 x22 x24 M)
  else (if x22 = 33 then (p_L_reckoned_B133_8 f l2 l3 x25 l5 x22 x24 M)
  else (if x22 = 38 then (p_L_reckoned_B133_8 f l2 l3 x25 l5 x22 x24 M)
  else (if x22 = 124 then (p_L_reckoned_B133_8 f l2 l3 x25 l5 x22 x24 M)
  else (if x22 = 47 then (p_L_reckoned_B226_8 f l2 l3 x25 l5 x22 M)
  else (if x22 = 37 then (p_L_reckoned_B226_8 f l2 l3 x25 l5 x22 M)
  else (p_L_reckoned_B231_8 f l2 l3 x25 l5 x22 0 M))))))))
  else (p_L_reckoned_B292_8 f l3 M))
  else (p_L_reckoned_B292_8 f l3 M)))
  else (p_L_reckoned_B292_8 f l3 M)
def p_L_reckoned (f : Nat) (l1 : Int) (l2 : Int) (M : oM) : Option (Int × oM) :=
  iter (p_L_reckoned_L8 f l2) f (0, l1, 0, M)
def p_L_firstOf_B74_2 (f : Nat) (l1 : Int) (l2 : Int) (l3 : Int) (M : oM) : Option ((Int × oM) ⊕ (Int × oM)) :=
  let x1 : Int := w32 (l3 + 1)
  some (.inl (x1, M))
def p_L_firstOf_L2 (f : Nat) (l1 : Int) (l2 : Int) (t : Int × oM) : Option ((Int × oM) ⊕ (Int × oM)) :=
  let l3 : Int := t.1
  let M : oM := t.2
  if l3 < M 18 10 then (if l3 < 16 then (bnd 16 l3 fun i2 =>
  if M 21 i2 = l1 then (bnd 16 l3 fun i3 =>
  bnd 16 l3 fun i4 =>
  (p_L_reckoned f (M 23 i3) (M 24 i4) M).bind fun q5 =>
  let M6 : oM := q5.2
  let r7 : Int := q5.1
  if r7 = 0 then (p_L_firstOf_B74_2 f l1 l2 l3 M6)
  else (bnd 16 l3 fun i8 =>
  bnd 16 l3 fun i9 =>
  (p_L_reckoned f (M6 22 i8) (M6 23 i9) M6).bind fun q10 =>
  let M11 : oM := q10.2
  let r12 : Int := q10.1
  some (.inr (imax 0 (imin l2 r12), M11))))
  else (p_L_firstOf_B74_2 f l1 l2 l3 M))
  else (some (.inr (0, M))))
  else (some (.inr (0, M)))
def p_L_firstOf (f : Nat) (l1 : Int) (l2 : Int) (M : oM) : Option (Int × oM) :=
  iter (p_L_firstOf_L2 f l1 l2) f (0, M)
def p_D_debtOf (f : Nat) (o0 : Nat) (l1 : Int) (l2 : Int) (M : oM) : Option (Int × oM) :=
  (p_O_isOne f l1 M).bind fun q1 =>
  let M2 : oM := q1.2
  let r3 : Int := q1.1
  if r3 = 0 then (some (0, M2))
  else ((p_O_isOne f l2 M2).bind fun q4 =>
  let M5 : oM := q4.2
  let r6 : Int := q4.1
  if r6 = 0 then (some (0, M5))
  else (bnd 100 (w32 ((w32 (l1 * 10)) + l2)) fun i7 =>
  some (M5 (o0 + 1) i7, M5)))
def p_D_owedBy_L4 (f : Nat) (o0 : Nat) (l1 : Int) (t : Int × Int × oM) : Option ((Int × Int × oM) ⊕ (Int × oM)) :=
  let l2 : Int := t.1
  let l3 : Int := t.2.1
  let M : oM := t.2.2
  if l3 < 10 then (bnd 100 (w32 ((w32 (l1 * 10)) + l3)) fun i1 =>
  let x2 : Int := w32 (l2 + (M (o0 + 1) i1))
  let x3 : Int := w32 (l3 + 1)
  some (.inl (x2, x3, M)))
  else (some (.inr (l2, M)))
def p_D_owedBy (f : Nat) (o0 : Nat) (l1 : Int) (M : oM) : Option (Int × oM) :=
  iter (p_D_owedBy_L4 f o0 l1) f (0, 0, M)
def p_D_timesChalked_B31_4 (f : Nat) (o0 : Nat) (l1 : Int) (l2 : Int) (l3 : Int) (M : oM) : Option ((Int × Int × oM) ⊕ (Int × oM)) :=
  let x1 : Int := w32 (l3 + 1)
  some (.inl (l2, x1, M))
def p_D_timesChalked_L4 (f : Nat) (o0 : Nat) (l1 : Int) (t : Int × Int × oM) : Option ((Int × Int × oM) ⊕ (Int × oM)) :=
  let l2 : Int := t.1
  let l3 : Int := t.2.1
  let M : oM := t.2.2
  if l3 < M o0 3 then (if l3 < 40 then (bnd 40 l3 fun i2 =>
  if M (o0 + 3) i2 = l1 then (let x3 : Int := w32 (l2 + 1)
  p_D_timesChalked_B31_4 f o0 l1 x3 l3 M)
  else (p_D_timesChalked_B31_4 f o0 l1 l2 l3 M))
  else (some (.inr (l2, M))))
  else (some (.inr (l2, M)))
def p_D_timesChalked (f : Nat) (o0 : Nat) (l1 : Int) (M : oM) : Option (Int × oM) :=
  iter (p_D_timesChalked_L4 f o0 l1) f (0, 0, M)
def p_P_way (f : Nat) (l1 : Int) (l2 : Int) (M : oM) : Option (Int × oM) :=
  (p_O_isOne f l1 M).bind fun q1 =>
  let M2 : oM := q1.2
  let r3 : Int := q1.1
  if r3 = 0 then (some (1, M2))
  else ((p_O_isOne f l2 M2).bind fun q4 =>
  let M5 : oM := q4.2
  let r6 : Int := q4.1
  if r6 = 0 then (some (1, M5))
  else (bnd 10 l1 fun i7 =>
  bnd 10 l2 fun i8 =>
  bnd 10 l1 fun i9 =>
  bnd 10 l2 fun i10 =>
  some (imax 1 (w32 ((iabs (w32 ((M5 4 i7) - (M5 4 i8)))) + (iabs (w32 ((M5 5 i9) - (M5 5 i10)))))), M5)))
def p_L_look (f : Nat) (o1 : Nat) (l2 : Int) (l3 : Int) (M : oM) : Option (Int × oM) :=
  bnd 8 0 fun i1 =>
  let M2 : oM := oU M 25 i1 l2
  bnd 8 1 fun i3 =>
  let M4 : oM := oU M2 25 i3 l3
  (p_D_debtOf f o1 l2 l3 M4).bind fun q5 =>
  let M6 : oM := q5.2
  let r7 : Int := q5.1
  bnd 8 2 fun i8 =>
  let M9 : oM := oU M6 25 i8 r7
  (p_D_owedBy f o1 l2 M9).bind fun q10 =>
  let M11 : oM := q10.2
  let r12 : Int := q10.1
  bnd 8 3 fun i13 =>
  let M14 : oM := oU M11 25 i13 r12
  (p_P_way f l2 l3 M14).bind fun q15 =>
  let M16 : oM := q15.2
  let r17 : Int := q15.1
  bnd 8 4 fun i18 =>
  let M19 : oM := oU M16 25 i18 r17
  (p_D_timesChalked f o1 l3 M19).bind fun q20 =>
  let M21 : oM := q20.2
  let r22 : Int := q20.1
  bnd 8 5 fun i23 =>
  let M24 : oM := oU M21 25 i23 r22
  bnd 8 6 fun i25 =>
  let M26 : oM := oU M24 25 i25 (M24 o1 8)
  bnd 8 7 fun i27 =>
  let M28 : oM := oU M26 25 i27 (M26 o1 9)
  some (0, M28)
def p_L_growth (f : Nat) (o1 : Nat) (l2 : Int) (l3 : Int) (M : oM) : Option (Int × oM) :=
  (p_L_look f o1 l2 l3 M).bind fun q1 =>
  let M2 : oM := q1.2
  (p_L_firstOf f 105 9 M2).bind fun q3 =>
  let M4 : oM := q3.2
  let r5 : Int := q3.1
  some (r5, M4)
def p_L_rain (f : Nat) (l1 : Int) (M : oM) : Option (Int × oM) :=
  (p_JA_fill f 25 8 0 M).bind fun q1 =>
  let M2 : oM := q1.2
  bnd 8 7 fun i3 =>
  let M4 : oM := oU M2 25 i3 l1
  (p_L_firstOf f 114 10 M4).bind fun q5 =>
  let M6 : oM := q5.2
  let r7 : Int := q5.1
  some (r7, M6)
def p_C_beginDay_B113_46 (f : Nat) (o1 : Nat) (l2 : Int) (M : oM) : Option ((Int × oM) ⊕ (Int × oM)) :=
  let x1 : Int := w32 (l2 + 1)
  some (.inl (x1, M))
def p_C_beginDay_L46 (f : Nat) (o1 : Nat) (t : Int × oM) : Option ((Int × oM) ⊕ (Int × oM)) :=
  let l2 : Int := t.1
  let M : oM := t.2
  if l2 < 100 then (bnd 100 l2 fun i2 =>
  let x3 : Int := M (o1 + 1) i2
  if 0 < x3 then (nz 10 fun z4 =>
  nz 10 fun z5 =>
  (p_L_growth f o1 (w32 (Int.tdiv l2 z4)) (Int.tmod l2 z5) M).bind fun q6 =>
  let M7 : oM := q6.2
  let r8 : Int := q6.1
  let x9 : Int := w32 (x3 + r8)
  bnd 100 l2 fun i10 =>
  let M11 : oM := oU M7 (o1 + 1) i10 (imin 99 x9)
  bnd 100 l2 fun i12 =>
  let M13 : oM := oU M11 41 4 (w32 ((M11 41 4) + (w32 ((M11 (o1 + 1) i12) - x3))))
  p_C_beginDay_B113_46 f o1 l2 M13)
  else (p_C_beginDay_B113_46 f o1 l2 M))
  else (some (.inr (0, M)))
def p_C_beginDay_B44 (f : Nat) (o1 : Nat) (M : oM) : Option (Int × oM) :=
  iter (p_C_beginDay_L46 f o1) f (0, M)
def p_C_beginDay_B24 (f : Nat) (o1 : Nat) (s1 : Int) (M : oM) : Option (Int × oM) :=
  bnd 2 s1 fun b14 =>
  let M15 : oM := oU M o1 10 b14
  if M15 o1 10 = 0 then (p_C_beginDay_B44 f o1 M15)
  else (let M16 : oM := oU M15 41 3 (w32 ((M15 41 3) + 1))
  p_C_beginDay_B44 f o1 M16)
def p_C_beginDay (f : Nat) (o1 : Nat) (M : oM) : Option (Int × oM) :=
  (p_D_draw f o1  M).bind fun q17 =>
  let M18 : oM := q17.2
  let r19 : Int := q17.1
  (p_L_rain f (M18 o1 9) M18).bind fun q20 =>
  let M21 : oM := q20.2
  let r22 : Int := q20.1
  if r19 < r22 then (p_C_beginDay_B24 f o1 1 M21)
  else (p_C_beginDay_B24 f o1 0 M21)
def p_D_sendTo (f : Nat) (o0 : Nat) (l1 : Int) (l2 : Int) (M : oM) : Option (Int × oM) :=
  let M1 : oM := oU M o0 5 (M o0 4)
  let M2 : oM := oU M1 o0 6 l1
  let M3 : oM := oU M2 o0 7 l2
  let M4 : oM := oU M3 o0 4 (-1)
  some (0, M4)
def p_L_liking_B67_10 (f : Nat) (o1 : Nat) (M : oM) : Option ((Int × oM) ⊕ (Int × oM)) :=
  (p_L_firstOf f 101 9999 M).bind fun q1 =>
  let M2 : oM := q1.2
  let r3 : Int := q1.1
  some (.inr (r3, M2))
def p_L_liking_B61_10 (f : Nat) (o1 : Nat) (l4 : Int) (M : oM) : Option ((Int × oM) ⊕ (Int × oM)) :=
  let x4 : Int := w32 (l4 + 1)
  some (.inl (x4, M))
def p_L_liking_L10 (f : Nat) (o1 : Nat) (t : Int × oM) : Option ((Int × oM) ⊕ (Int × oM)) :=
  let l4 : Int := t.1
  let M : oM := t.2
  if l4 < M 18 10 then (if l4 < 16 then (bnd 16 l4 fun i5 =>
  if M 21 i5 = 115 then (bnd 16 l4 fun i6 =>
  bnd 16 l4 fun i7 =>
  (p_L_reckoned f (M 23 i6) (M 24 i7) M).bind fun q8 =>
  let M9 : oM := q8.2
  let r10 : Int := q8.1
  if r10 = 0 then (p_L_liking_B61_10 f o1 l4 M9)
  else (some (.inr (0, M9))))
  else (p_L_liking_B61_10 f o1 l4 M))
  else (p_L_liking_B67_10 f o1 M))
  else (p_L_liking_B67_10 f o1 M)
def p_L_liking (f : Nat) (o1 : Nat) (l2 : Int) (l3 : Int) (M : oM) : Option (Int × oM) :=
  (p_L_look f o1 l2 l3 M).bind fun q11 =>
  let M12 : oM := q11.2
  iter (p_L_liking_L10 f o1) f (0, M12)
def p_C_setOut_B87_39 (f : Nat) (o1 : Nat) (l2 : Int) (l3 : Int) (l4 : Int) (l5 : Int) (M : oM) : Option ((Int × Int × Int × oM) ⊕ (Int × oM)) :=
  let x1 : Int := w32 (l5 + 1)
  some (.inl (l3, l4, x1, M))
def p_C_setOut_B71_39 (f : Nat) (o1 : Nat) (l2 : Int) (l3 : Int) (l4 : Int) (l5 : Int) (s0 : Int) (M : oM) : Option ((Int × Int × Int × oM) ⊕ (Int × oM)) :=
  if l4 < s0 then (p_C_setOut_B87_39 f o1 l2 l5 s0 l5 M)
  else (p_C_setOut_B87_39 f o1 l2 l3 l4 l5 M)
def p_C_setOut_L39 (f : Nat) (o1 : Nat) (l2 : Int) (t : Int × Int × Int × oM) : Option ((Int × Int × Int × oM) ⊕ (Int × oM)) :=
  let l3 : Int := t.1
  let l4 : Int := t.2.1
  let l5 : Int := t.2.2.1
  let M : oM := t.2.2.2
  if l5 < 10 then ((p_D_debtOf f o1 l2 l5 M).bind fun q7 =>
  let M8 : oM := q7.2
  let r9 : Int := q7.1
  if 0 < r9 then ((p_L_liking f o1 l2 l5 M8).bind fun q10 =>
  let M11 : oM := q10.2
  let r12 : Int := q10.1
  p_C_setOut_B71_39 f o1 l2 l3 l4 l5 r12 M11)
  else (p_C_setOut_B71_39 f o1 l2 l3 l4 l5 0 M8))
  else (if l3 < 0 then (some (.inr (0, M)))
  else ((p_P_way f l2 l3 M).bind fun q2 =>
  let M3 : oM := q2.2
  let r4 : Int := q2.1
  (p_D_sendTo f o1 l3 r4 M3).bind fun q5 =>
  let M6 : oM := q5.2
  some (.inr (0, M6))))
def p_C_setOut (f : Nat) (o1 : Nat) (M : oM) : Option (Int × oM) :=
  if M o1 10 = 0 then (if M o1 8 < 6 then (some (0, M))
  else (if 19 < M o1 8 then (some (0, M))
  else (let x13 : Int := M o1 4
  iter (p_C_setOut_L39 f o1 x13) f ((-1), 0, 0, M))))
  else (some (0, M))
def p_D_write_B30 (f : Nat) (o0 : Nat) (l1 : Int) (M : oM) : Option (Int × oM) :=
  bnd 40 (M o0 3) fun i1 =>
  let M2 : oM := oU M (o0 + 3) i1 l1
  let M3 : oM := oU M2 o0 3 (w32 ((M2 o0 3) + 1))
  some (0, M3)
def p_D_write (f : Nat) (o0 : Nat) (l1 : Int) (M : oM) : Option (Int × oM) :=
  if M o0 3 < 40 then (p_D_write_B30 f o0 l1 M)
  else (cpg 40 40 1 0 39 fun _ =>
  let M4 : oM := acopy M (o0 + 3) 1 (o0 + 3) 0 39
  let M5 : oM := oU M4 o0 3 39
  p_D_write_B30 f o0 l1 M5)
def p_D_pay_B24 (f : Nat) (o0 : Nat) (l2 : Int) (M : oM) : Option (Int × oM) :=
  (p_D_giveTo f o0 l2 M).bind fun q1 =>
  let M2 : oM := q1.2
  (p_D_write f o0 l2 M2).bind fun q3 =>
  let M4 : oM := q3.2
  some (0, M4)
def p_D_pay (f : Nat) (o0 : Nat) (l1 : Int) (l2 : Int) (M : oM) : Option (Int × oM) :=
  (p_D_debtOf f o0 l1 l2 M).bind fun q5 =>
  let M6 : oM := q5.2
  let r7 : Int := q5.1
  if 0 < r7 then (bnd 100 (w32 ((w32 (l1 * 10)) + l2)) fun i8 =>
  bnd 100 (w32 ((w32 (l1 * 10)) + l2)) fun i9 =>
  let M10 : oM := oU M6 (o0 + 1) i9 (w32 ((M6 (o0 + 1) i8) - 1))
  p_D_pay_B24 f o0 l2 M10)
  else (p_D_pay_B24 f o0 l2 M6)
def p_C_travel (f : Nat) (o1 : Nat) (M : oM) : Option (Int × oM) :=
  let M1 : oM := oU M o1 7 (w32 ((M o1 7) - 1))
  if M1 o1 7 = 0 then (let M2 : oM := oU M1 41 5 (M1 o1 6)
  (p_D_pay f o1 (M2 o1 5) (M2 o1 6) M2).bind fun q3 =>
  let M4 : oM := q3.2
  let M5 : oM := oU M4 41 2 (w32 ((M4 41 2) + 1))
  some (0, M5))
  else (some (0, M1))
def p_C_tick_B80 (f : Nat) (o1 : Nat) (M : oM) : Option (Int × oM) :=
  let M1 : oM := oU M o1 8 (w32 ((M o1 8) + 1))
  if 23 < M1 o1 8 then (let M2 : oM := oU M1 o1 8 0
  let M3 : oM := oU M2 o1 9 (w32 ((M2 o1 9) + 1))
  some (0, M3))
  else (some (0, M1))
def p_C_tick_B37 (f : Nat) (o1 : Nat) (M : oM) : Option (Int × oM) :=
  if 0 < M o1 7 then ((p_C_travel f o1  M).bind fun q12 =>
  let M13 : oM := q12.2
  p_C_tick_B80 f o1 M13)
  else ((p_O_isOne f (M o1 4) M).bind fun q4 =>
  let M5 : oM := q4.2
  let r6 : Int := q4.1
  if r6 = 0 then (p_C_tick_B80 f o1 M5)
  else (bnd 10 (M5 o1 4) fun i7 =>
  bnd 10 (M5 o1 4) fun i8 =>
  let M9 : oM := oU M5 (o1 + 2) i8 (w32 ((M5 (o1 + 2) i7) + 1))
  (p_C_setOut f o1  M9).bind fun q10 =>
  let M11 : oM := q10.2
  p_C_tick_B80 f o1 M11))
def p_C_tick_B25 (f : Nat) (o1 : Nat) (M : oM) : Option (Int × oM) :=
  if M o1 8 = 0 then ((p_C_beginDay f o1  M).bind fun q14 =>
  let M15 : oM := q14.2
  p_C_tick_B37 f o1 M15)
  else (p_C_tick_B37 f o1 M)
def p_C_tick (f : Nat) (o1 : Nat) (M : oM) : Option (Int × oM) :=
  let M16 : oM := oU M 41 5 (-1)
  if M16 o1 9 < 9999 then (p_C_tick_B25 f o1 M16)
  else (if M16 o1 8 < 23 then (p_C_tick_B25 f o1 M16)
  else (some (0, M16)))
def p_C_pass_L17 (f : Nat) (o1 : Nat) (l2 : Int) (t : Int × oM) : Option ((Int × oM) ⊕ (Int × oM)) :=
  let l3 : Int := t.1
  let M : oM := t.2
  if l3 < l2 then ((p_C_tick f o1  M).bind fun q1 =>
  let M2 : oM := q1.2
  let x3 : Int := w32 (l3 + 1)
  some (.inl (x3, M2)))
  else (some (.inr (0, M)))
def p_C_pass (f : Nat) (o1 : Nat) (l2 : Int) (M : oM) : Option (Int × oM) :=
  let M4 : oM := oU M 41 2 0
  let M5 : oM := oU M4 41 3 0
  let M6 : oM := oU M5 41 4 0
  iter (p_C_pass_L17 f o1 l2) f (0, M6)
def p_O_hours (f : Nat) (l1 : Int) (M : oM) : Option (Int × oM) :=
  (p_O_areHours f l1 M).bind fun q1 =>
  let M2 : oM := q1.2
  let r3 : Int := q1.1
  if r3 = 0 then (some ((-1), M2))
  else ((p_C_pass f 6 l1 M2).bind fun q4 =>
  let M5 : oM := q4.2
  some (M5 41 2, M5))
def p_D_takeFrom (f : Nat) (o0 : Nat) (o1 : Nat) (M : oM) : Option (Int × oM) :=
  cpg 100 100 0 0 100 fun _ =>
  let M1 : oM := acopy M (o1 + 1) 0 (o0 + 1) 0 100
  cpg 10 10 0 0 10 fun _ =>
  let M2 : oM := acopy M1 (o1 + 2) 0 (o0 + 2) 0 10
  cpg 40 40 0 0 40 fun _ =>
  let M3 : oM := acopy M2 (o1 + 3) 0 (o0 + 3) 0 40
  let M4 : oM := oU M3 o0 3 (M3 o1 3)
  let M5 : oM := oU M4 o0 4 (M4 o1 4)
  let M6 : oM := oU M5 o0 5 (M5 o1 5)
  let M7 : oM := oU M6 o0 6 (M6 o1 6)
  let M8 : oM := oU M7 o0 7 (M7 o1 7)
  let M9 : oM := oU M8 o0 8 (M8 o1 8)
  let M10 : oM := oU M9 o0 9 (M9 o1 9)
  bnd 2 (M10 o1 10) fun b11 =>
  let M12 : oM := oU M10 o0 10 b11
  let M13 : oM := oU M12 o0 11 (M12 o1 11)
  some (0, M13)
def p_O_tried_B34 (f : Nat) (l1 : Int) (l2 : Int) (M : oM) : Option (Int × oM) :=
  (p_D_takeFrom f 14 6  M).bind fun q1 =>
  let M2 : oM := q1.2
  (p_C_pass f 14 l1 M2).bind fun q3 =>
  let M4 : oM := q3.2
  if l2 = 0 then (some (M4 41 2, M4))
  else (if l2 = 1 then ((p_D_owedInAll f 14  M4).bind fun q5 =>
  let M6 : oM := q5.2
  let r7 : Int := q5.1
  some (r7, M6))
  else (if l2 = 2 then (if M4 14 4 < 0 then (some ((-2), M4))
  else (some (M4 14 4, M4)))
  else (if l2 = 3 then (some (M4 41 3, M4))
  else (if l2 = 4 then (some (M4 41 4, M4))
  else (if l2 = 5 then (some (M4 14 8, M4))
  else (bnd 10 (w32 (l2 - 10)) fun i8 =>
  bnd 10 (w32 (l2 - 10)) fun i9 =>
  some (w32 ((M4 16 i8) - (M4 8 i9)), M4)))))))
def p_O_tried_B28 (f : Nat) (l1 : Int) (l2 : Int) (l3 : Int) (M : oM) : Option (Int × oM) :=
  if l3 = 0 then (some ((-1), M))
  else (p_O_tried_B34 f l1 l2 M)
def p_O_tried (f : Nat) (l1 : Int) (l2 : Int) (M : oM) : Option (Int × oM) :=
  (p_P_has f (w32 (l2 - 10)) M).bind fun q10 =>
  let M11 : oM := q10.2
  let r12 : Int := q10.1
  (p_O_areHours f l1 M11).bind fun q13 =>
  let M14 : oM := q13.2
  let r15 : Int := q13.1
  if r15 = 0 then (some ((-1), M14))
  else (if l2 < 0 then (p_O_tried_B28 f l1 l2 r12 M14)
  else (if 5 < l2 then (p_O_tried_B28 f l1 l2 r12 M14)
  else (p_O_tried_B34 f l1 l2 M14)))
def p_D_owedTo_L4 (f : Nat) (l1 : Int) (t : Int × Int × oM) : Option ((Int × Int × oM) ⊕ (Int × oM)) :=
  let l2 : Int := t.1
  let l3 : Int := t.2.1
  let M : oM := t.2.2
  if l3 < 10 then (bnd 100 (w32 ((w32 (l3 * 10)) + l1)) fun i1 =>
  let x2 : Int := w32 (l2 + (M 7 i1))
  let x3 : Int := w32 (l3 + 1)
  some (.inl (x2, x3, M)))
  else (some (.inr (l2, M)))
def p_D_owedTo (f : Nat) (l1 : Int) (M : oM) : Option (Int × oM) :=
  iter (p_D_owedTo_L4 f l1) f (0, 0, M)
def p_O_personIs (f : Nat) (l1 : Int) (l2 : Int) (M : oM) : Option (Int × oM) :=
  (p_P_has f l1 M).bind fun q1 =>
  let M2 : oM := q1.2
  let r3 : Int := q1.1
  if r3 = 0 then (some ((-1), M2))
  else (if l2 = 0 then (bnd 10 l1 fun i4 =>
  some (M2 4 i4, M2))
  else (if l2 = 1 then (bnd 10 l1 fun i5 =>
  some (M2 5 i5, M2))
  else (if l2 = 2 then ((p_D_owedBy f 6 l1 M2).bind fun q6 =>
  let M7 : oM := q6.2
  let r8 : Int := q6.1
  some (r8, M7))
  else (if l2 = 3 then ((p_D_owedTo f l1 M2).bind fun q9 =>
  let M10 : oM := q9.2
  let r11 : Int := q9.1
  some (r11, M10))
  else (if l2 = 4 then (bnd 10 l1 fun i12 =>
  some (M2 8 i12, M2))
  else (if l2 = 5 then ((p_D_timesChalked f 6 l1 M2).bind fun q13 =>
  let M14 : oM := q13.2
  let r15 : Int := q13.1
  some (r15, M14))
  else (some ((-1), M2))))))))
def p_O_owes (f : Nat) (l1 : Int) (l2 : Int) (M : oM) : Option (Int × oM) :=
  (p_P_hasBoth f l1 l2 M).bind fun q1 =>
  let M2 : oM := q1.2
  let r3 : Int := q1.1
  if r3 = 0 then (some ((-1), M2))
  else ((p_D_debtOf f 6 l1 l2 M2).bind fun q4 =>
  let M5 : oM := q4.2
  let r6 : Int := q4.1
  some (r6, M5))
def p_O_likes (f : Nat) (l1 : Int) (l2 : Int) (M : oM) : Option (Int × oM) :=
  (p_P_hasBoth f l1 l2 M).bind fun q1 =>
  let M2 : oM := q1.2
  let r3 : Int := q1.1
  if r3 = 0 then (some ((-1), M2))
  else ((p_L_liking f 6 l1 l2 M2).bind fun q4 =>
  let M5 : oM := q4.2
  let r6 : Int := q4.1
  some (r6, M5))
def p_RR_repeat_L33 (f : Nat) (l3 : Int) (l4 : Int) (t : Int × oM) : Option ((Int × oM) ⊕ (Int × oM)) :=
  let l5 : Int := t.1
  let M : oM := t.2
  if l5 < l4 then (bnd 60 (w32 (l5 - l3)) fun i2 =>
  bnd 60 l5 fun i3 =>
  let M4 : oM := oU M 40 i3 (M 40 i2)
  let x5 : Int := w32 (l5 + 1)
  some (.inl (x5, M4)))
  else (let M1 : oM := oU M 39 2 l4
  some (.inr (1, M1)))
def p_RR_repeat (f : Nat) (l1 : Int) (l2 : Int) (M : oM) : Option (Int × oM) :=
  let x6 : Int := w32 ((M 39 2) - l1)
  let x7 : Int := w32 (l1 + (w32 (x6 * l2)))
  if 60 < x7 then (some (0, M))
  else (if x6 < 0 then (some (0, M))
  else (let x8 : Int := M 39 2
  iter (p_RR_repeat_L33 f x6 x7) f (x8, M)))
def p_RR_readPaying_B177 (f : Nat) (rec : Int → oM → Option (Int × oM)) (l2 : Int) (l3 : Int) (l4 : Int) (M : oM) : Option (Int × oM) :=
  (p_T_step f  M).bind fun q1 =>
  let M2 : oM := q1.2
  (p_RR_repeat f l3 l4 M2).bind fun q3 =>
  let M4 : oM := q3.2
  let r5 : Int := q3.1
  if r5 = 0 then ((p_T_faultAt f 6 l2 M4).bind fun q6 =>
  let M7 : oM := q6.2
  let r8 : Int := q6.1
  some (r8, M7))
  else (some (0, M4))
def p_RR_readPaying_B59 (f : Nat) (rec : Int → oM → Option (Int × oM)) (l1 : Int) (l2 : Int) (l3 : Int) (l4 : Int) (M : oM) : Option (Int × oM) :=
  (p_T_next f  M).bind fun q9 =>
  let M10 : oM := q9.2
  let r11 : Int := q9.1
  if r11 = 40 then (if l1 < 2 then ((p_T_step f  M10).bind fun q27 =>
  let M28 : oM := q27.2
  (rec (w32 (l1 + 1)) M28).bind fun q29 =>
  let M30 : oM := q29.2
  let r31 : Int := q29.1
  if r31 = 0 then (p_RR_readPaying_B177 f rec l2 l3 l4 M30)
  else (some (r31, M30)))
  else ((p_T_fault f 5 M10).bind fun q32 =>
  let M33 : oM := q32.2
  let r34 : Int := q32.1
  some (r34, M33)))
  else ((p_T_nextOne f  M10).bind fun q12 =>
  let M13 : oM := q12.2
  let r14 : Int := q12.1
  if r14 < 0 then ((p_T_fault f 1 M13).bind fun q24 =>
  let M25 : oM := q24.2
  let r26 : Int := q24.1
  some (r26, M25))
  else (if M13 39 2 < 60 then ((p_T_nextOne f  M13).bind fun q15 =>
  let M16 : oM := q15.2
  let r17 : Int := q15.1
  bnd 60 (M13 39 2) fun i18 =>
  let M19 : oM := oU M16 40 i18 r17
  let M20 : oM := oU M19 39 2 (w32 ((M19 39 2) + 1))
  p_RR_readPaying_B177 f rec l2 l3 l4 M20)
  else ((p_T_faultAt f 6 l2 M13).bind fun q21 =>
  let M22 : oM := q21.2
  let r23 : Int := q21.1
  some (r23, M22))))
def p_RR_readPaying_F (f : Nat) (rec : Int → oM → Option (Int × oM)) (l1 : Int) (M : oM) : Option (Int × oM) :=
  (p_T_place f  M).bind fun q35 =>
  let M36 : oM := q35.2
  let r37 : Int := q35.1
  let x38 : Int := M36 39 2
  (p_T_next f  M36).bind fun q39 =>
  let M40 : oM := q39.2
  let r41 : Int := q39.1
  if r41 < 50 then (p_RR_readPaying_B59 f rec l1 r37 x38 1 M40)
  else ((p_T_next f  M40).bind fun q42 =>
  let M43 : oM := q42.2
  let r44 : Int := q42.1
  if 57 < r44 then (p_RR_readPaying_B59 f rec l1 r37 x38 1 M43)
  else ((p_T_next f  M43).bind fun q45 =>
  let M46 : oM := q45.2
  let r47 : Int := q45.1
  let x48 : Int := w32 (r47 - 48)
  (p_T_step f  M46).bind fun q49 =>
  let M50 : oM := q49.2
  p_RR_readPaying_B59 f rec l1 r37 x38 x48 M50))
def p_RR_readPayings_B51_2 (f : Nat) (rec : Int → oM → Option (Int × oM)) (l1 : Int) (l2 : Int) (M : oM) : Option ((Int × oM) ⊕ (Int × oM)) :=
  let x1 : Int := w32 (l2 + 1)
  some (.inl (x1, M))
def p_RR_readPayings_L2 (f : Nat) (rec : Int → oM → Option (Int × oM)) (l1 : Int) (t : Int × oM) : Option ((Int × oM) ⊕ (Int × oM)) :=
  let l2 : Int := t.1
  let M : oM := t.2
  if l2 < 60 then ((p_RR_readPaying_F f rec l1 M).bind fun q5 =>
  let M6 : oM := q5.2
  let r7 : Int := q5.1
  if r7 = 0 then (if l1 = 0 then ((p_T_ended f  M6).bind fun q11 =>
  let M12 : oM := q11.2
  let r13 : Int := q11.1
  if r13 = 0 then (p_RR_readPayings_B51_2 f rec l1 l2 M12)
  else (some (.inr (0, M12))))
  else ((p_T_next f  M6).bind fun q8 =>
  let M9 : oM := q8.2
  let r10 : Int := q8.1
  if r10 = 41 then (some (.inr (0, M9)))
  else (p_RR_readPayings_B51_2 f rec l1 l2 M9)))
  else (some (.inr (r7, M6))))
  else ((p_T_fault f 1 M).bind fun q2 =>
  let M3 : oM := q2.2
  let r4 : Int := q2.1
  some (.inr (r4, M3)))
def p_RR_readPayings_F (f : Nat) (rec : Int → oM → Option (Int × oM)) (l1 : Int) (M : oM) : Option (Int × oM) :=
  iter (p_RR_readPayings_L2 f rec l1) f (0, M)
def p_RR_readPayings (f : Nat) : Nat → Int → oM → Option (Int × oM)
  | 0, _, _ => none
  | n + 1, l1, M => p_RR_readPayings_F f (p_RR_readPayings f n) l1 M
def p_RR_read (f : Nat) (M : oM) : Option (Int × oM) :=
  let M1 : oM := oU M 39 2 0
  (p_RR_readPayings f 5 0 M1).bind fun q2 =>
  let M3 : oM := q2.2
  let r4 : Int := q2.1
  some (r4, M3)
def p_O_readRoute (f : Nat) (M : oM) : Option (Int × oM) :=
  (p_RR_read f  M).bind fun q1 =>
  let M2 : oM := q1.2
  let r3 : Int := q1.1
  (p_T_clear f  M2).bind fun q4 =>
  let M5 : oM := q4.2
  if r3 = 0 then (if M5 6 4 < 0 then (some ((-2), M5))
  else (some (0, M5)))
  else (some (r3, M5))
def p_P_hoursOf_L9 (f : Nat) (l2 : Int) (t : Int × Int × Int × oM) : Option ((Int × Int × Int × oM) ⊕ (Int × oM)) :=
  let l4 : Int := t.1
  let l5 : Int := t.2.1
  let l6 : Int := t.2.2.1
  let M : oM := t.2.2.2
  if l6 < l2 then (if l6 < 60 then (bnd 60 l6 fun i1 =>
  (p_P_way f l5 (M 40 i1) M).bind fun q2 =>
  let M3 : oM := q2.2
  let r4 : Int := q2.1
  let x5 : Int := w32 (l4 + r4)
  bnd 60 l6 fun i6 =>
  let x7 : Int := M3 40 i6
  let x8 : Int := w32 (l6 + 1)
  some (.inl (x5, x7, x8, M3)))
  else (some (.inr (l4, M))))
  else (some (.inr (l4, M)))
def p_P_hoursOf (f : Nat) (l2 : Int) (l3 : Int) (M : oM) : Option (Int × oM) :=
  iter (p_P_hoursOf_L9 f l2) f (0, l3, 0, M)
def p_RR_walkedBy_L2 (f : Nat) (o1 : Nat) (t : Int × oM) : Option ((Int × oM) ⊕ (Int × oM)) :=
  let l2 : Int := t.1
  let M : oM := t.2
  if l2 < M 39 2 then (if l2 < 60 then (bnd 60 l2 fun i1 =>
  (p_D_debtOf f o1 (M o1 4) (M 40 i1) M).bind fun q2 =>
  let M3 : oM := q2.2
  let r4 : Int := q2.1
  if r4 = 0 then (some (.inr (l2, M3)))
  else (bnd 60 l2 fun i5 =>
  (p_D_pay f o1 (M3 o1 4) (M3 40 i5) M3).bind fun q6 =>
  let M7 : oM := q6.2
  let x8 : Int := w32 (l2 + 1)
  some (.inl (x8, M7))))
  else (some (.inr (M 39 2, M))))
  else (some (.inr (M 39 2, M)))
def p_RR_walkedBy (f : Nat) (o1 : Nat) (M : oM) : Option (Int × oM) :=
  iter (p_RR_walkedBy_L2 f o1) f (0, M)
def p_O_route (f : Nat) (l1 : Int) (l2 : Int) (M : oM) : Option (Int × oM) :=
  if l2 < 0 then (some ((-1), M))
  else (if 2 < l2 then (some ((-1), M))
  else ((p_T_opens f l1 1 60 M).bind fun q1 =>
  let M2 : oM := q1.2
  let r3 : Int := q1.1
  if r3 = 0 then (some ((-1), M2))
  else ((p_O_readRoute f  M2).bind fun q4 =>
  let M5 : oM := q4.2
  let r6 : Int := q4.1
  if r6 = 0 then ((p_D_takeFrom f 14 6  M5).bind fun q7 =>
  let M8 : oM := q7.2
  (p_RR_walkedBy f 14  M8).bind fun q9 =>
  let M10 : oM := q9.2
  let r11 : Int := q9.1
  if l2 = 0 then (some (r11, M10))
  else (if l2 = 1 then ((p_P_hoursOf f r11 (M10 6 4) M10).bind fun q12 =>
  let M13 : oM := q12.2
  let r14 : Int := q12.1
  some (r14, M13))
  else (some (M10 14 4, M10))))
  else (some (r6, M5)))))
def p_O_walk (f : Nat) (l1 : Int) (M : oM) : Option (Int × oM) :=
  (p_T_opens f l1 1 60 M).bind fun q1 =>
  let M2 : oM := q1.2
  let r3 : Int := q1.1
  if r3 = 0 then (some ((-1), M2))
  else ((p_O_readRoute f  M2).bind fun q4 =>
  let M5 : oM := q4.2
  let r6 : Int := q4.1
  if r6 = 0 then ((p_RR_walkedBy f 6  M5).bind fun q7 =>
  let M8 : oM := q7.2
  let r9 : Int := q7.1
  some (r9, M8))
  else (some (r6, M5)))
def p_R_paidBy_B27_4 (f : Nat) (o0 : Nat) (l1 : Int) (l2 : Int) (l3 : Int) (M : oM) : Option ((Int × Int × oM) ⊕ (Int × oM)) :=
  let x1 : Int := w32 (l3 + 1)
  some (.inl (l2, x1, M))
def p_R_paidBy_L4 (f : Nat) (o0 : Nat) (l1 : Int) (t : Int × Int × oM) : Option ((Int × Int × oM) ⊕ (Int × oM)) :=
  let l2 : Int := t.1
  let l3 : Int := t.2.1
  let M : oM := t.2.2
  if l3 < 10 then (bnd 100 (w32 ((w32 (l1 * 10)) + l3)) fun i2 =>
  if 0 < M o0 i2 then (let x3 : Int := ior l2 (ishl 1 l3)
  p_R_paidBy_B27_4 f o0 l1 x3 l3 M)
  else (p_R_paidBy_B27_4 f o0 l1 l2 l3 M))
  else (some (.inr (l2, M)))
def p_R_paidBy (f : Nat) (o0 : Nat) (l1 : Int) (M : oM) : Option (Int × oM) :=
  iter (p_R_paidBy_L4 f o0 l1) f (0, 0, M)
def p_R_reachedFrom_X33 (f : Nat) (o0 : Nat) (l3 : Int) (l4 : Int) (l5 : Int) (t : Int × oM) : Option ((Int × Int × Int × oM) ⊕ (Int × oM)) :=
  let l2 : Int := t.1
  let M : oM := t.2
  let x1 : Int := w32 (l4 + 1)
  some (.inl (l2, l3, x1, M))
def p_R_reachedFrom_B60_33 (f : Nat) (o0 : Nat) (l2 : Int) (l3 : Int) (l4 : Int) (l5 : Int) (l6 : Int) (M : oM) : Option ((Int × Int × oM) ⊕ (Int × oM)) :=
  let x2 : Int := w32 (l6 + 1)
  some (.inl (l2, x2, M))
def p_R_reachedFrom_L33 (f : Nat) (o0 : Nat) (l3 : Int) (l4 : Int) (l5 : Int) (t : Int × Int × oM) : Option ((Int × Int × oM) ⊕ (Int × oM)) :=
  let l2 : Int := t.1
  let l6 : Int := t.2.1
  let M : oM := t.2.2
  if l6 < 10 then (if iand (ishr l5 l6) 1 = 1 then ((p_R_paidBy f o0 l6 M).bind fun q3 =>
  let M4 : oM := q3.2
  let r5 : Int := q3.1
  let x6 : Int := ior l2 r5
  p_R_reachedFrom_B60_33 f o0 x6 l3 l4 l5 l6 M4)
  else (p_R_reachedFrom_B60_33 f o0 l2 l3 l4 l5 l6 M))
  else (some (.inr (l2, M)))
def p_R_reachedFrom_L9 (f : Nat) (o0 : Nat) (t : Int × Int × Int × oM) : Option ((Int × Int × Int × oM) ⊕ (Int × oM)) :=
  let l2 : Int := t.1
  let l3 : Int := t.2.1
  let l4 : Int := t.2.2.1
  let M : oM := t.2.2.2
  if l4 < 10 then (if l3 = l2 then (some (.inr (l2, M)))
  else (let x7 : Int := iand l2 (ixor l3 (-1))
  (iter (p_R_reachedFrom_L33 f o0 l2 l4 x7) f (l2, 0, M)).bind (p_R_reachedFrom_X33 f o0 l2 l4 x7)))
  else (some (.inr (l2, M)))
def p_R_reachedFrom (f : Nat) (o0 : Nat) (l1 : Int) (M : oM) : Option (Int × oM) :=
  let x8 : Int := ishl 1 l1
  iter (p_R_reachedFrom_L9 f o0) f (x8, 0, 0, M)
def p_R_isOneRow_B130_7 (f : Nat) (o0 : Nat) (l1 : Int) (l3 : Int) (l4 : Int) (s0 : Int) (s1 : Int) (M : oM) : Option ((Int × Int × Int × oM) ⊕ (Int × oM)) :=
  let x1 : Int := ior s0 s1
  let x2 : Int := w32 (l4 + 1)
  some (.inl (x1, l3, x2, M))
def p_R_isOneRow_B114_7 (f : Nat) (o0 : Nat) (l1 : Int) (l2 : Int) (l4 : Int) (l5 : Int) (s0 : Int) (s1 : Int) (M : oM) : Option ((Int × Int × Int × oM) ⊕ (Int × oM)) :=
  let x3 : Int := w32 (s0 + s1)
  if 0 < l5 then (p_R_isOneRow_B130_7 f o0 l1 x3 l4 l2 (ishl 1 l4) M)
  else (p_R_isOneRow_B130_7 f o0 l1 x3 l4 l2 0 M)
def p_R_isOneRow_B90_7 (f : Nat) (o0 : Nat) (l1 : Int) (l2 : Int) (l3 : Int) (l4 : Int) (l5 : Int) (l6 : Int) (M : oM) : Option ((Int × Int × Int × oM) ⊕ (Int × oM)) :=
  if w32 (l5 + 1) < l6 then (some (.inr (0, M)))
  else (if l5 < l6 then (p_R_isOneRow_B114_7 f o0 l1 l2 l4 l5 l3 1 M)
  else (p_R_isOneRow_B114_7 f o0 l1 l2 l4 l5 l3 0 M))
def p_R_isOneRow_X23 (f : Nat) (o0 : Nat) (l1 : Int) (l2 : Int) (l3 : Int) (l4 : Int) (t : Int × Int × oM) : Option ((Int × Int × Int × oM) ⊕ (Int × oM)) :=
  let l5 : Int := t.1
  let l6 : Int := t.2.1
  let M : oM := t.2.2
  if w32 (l6 + 1) < l5 then (some (.inr (0, M)))
  else (if l5 = w32 (l6 + 1) then (if l4 = l1 then (p_R_isOneRow_B90_7 f o0 l1 l2 l3 l4 l5 l6 M)
  else (some (.inr (0, M))))
  else (p_R_isOneRow_B90_7 f o0 l1 l2 l3 l4 l5 l6 M))
def p_R_isOneRow_L23 (f : Nat) (o0 : Nat) (l1 : Int) (l2 : Int) (l3 : Int) (l4 : Int) (t : Int × Int × Int × oM) : Option ((Int × Int × Int × oM) ⊕ (Int × Int × oM)) :=
  let l5 : Int := t.1
  let l6 : Int := t.2.1
  let l7 : Int := t.2.2.1
  let M : oM := t.2.2.2
  if l7 < 10 then (bnd 100 (w32 ((w32 (l4 * 10)) + l7)) fun i4 =>
  let x5 : Int := w32 (l5 + (M o0 i4))
  bnd 100 (w32 ((w32 (l7 * 10)) + l4)) fun i6 =>
  let x7 : Int := w32 (l6 + (M o0 i6))
  let x8 : Int := w32 (l7 + 1)
  some (.inl (x5, x7, x8, M)))
  else (some (.inr (l5, l6, M)))
def p_R_isOneRow_L7 (f : Nat) (o0 : Nat) (l1 : Int) (t : Int × Int × Int × oM) : Option ((Int × Int × Int × oM) ⊕ (Int × oM)) :=
  let l2 : Int := t.1
  let l3 : Int := t.2.1
  let l4 : Int := t.2.2.1
  let M : oM := t.2.2.2
  if l4 < 10 then ((iter (p_R_isOneRow_L23 f o0 l1 l2 l3 l4) f (0, 0, 0, M)).bind (p_R_isOneRow_X23 f o0 l1 l2 l3 l4))
  else (if 1 < l3 then (some (.inr (0, M)))
  else ((p_R_reachedFrom f o0 l1 M).bind fun q9 =>
  let M10 : oM := q9.2
  let r11 : Int := q9.1
  if iand l2 (ixor r11 (-1)) = 0 then (some (.inr (1, M10)))
  else (some (.inr (0, M10)))))
def p_R_isOneRow (f : Nat) (o0 : Nat) (l1 : Int) (M : oM) : Option (Int × oM) :=
  iter (p_R_isOneRow_L7 f o0 l1) f (0, 0, 0, M)
def p_R_leastNext_B57_2 (f : Nat) (l1 : Int) (l2 : Int) (M : oM) : Option ((Int × oM) ⊕ (Int × oM)) :=
  let x1 : Int := w32 (l2 + 1)
  some (.inl (x1, M))
def p_R_leastNext_L2 (f : Nat) (l1 : Int) (t : Int × oM) : Option ((Int × oM) ⊕ (Int × oM)) :=
  let l2 : Int := t.1
  let M : oM := t.2
  if l2 < 10 then (let x2 : Int := w32 ((w32 (l1 * 10)) + l2)
  bnd 100 x2 fun i3 =>
  if 0 < M 43 i3 then (bnd 100 x2 fun i4 =>
  bnd 100 x2 fun i5 =>
  let M6 : oM := oU M 43 i5 (w32 ((M 43 i4) - 1))
  (p_R_isOneRow f 43 l2 M6).bind fun q7 =>
  let M8 : oM := q7.2
  let r9 : Int := q7.1
  if r9 = 0 then (bnd 100 x2 fun i10 =>
  bnd 100 x2 fun i11 =>
  let M12 : oM := oU M8 43 i11 (w32 ((M8 43 i10) + 1))
  p_R_leastNext_B57_2 f l1 l2 M12)
  else (some (.inr (l2, M8))))
  else (p_R_leastNext_B57_2 f l1 l2 M))
  else (some (.inr ((-1), M)))
def p_R_leastNext (f : Nat) (l1 : Int) (M : oM) : Option (Int × oM) :=
  iter (p_R_leastNext_L2 f l1) f (0, M)
def p_R_planTour_L18 (f : Nat) (l3 : Int) (t : Int × Int × oM) : Option ((Int × Int × oM) ⊕ (Int × oM)) :=
  let l4 : Int := t.1
  let l5 : Int := t.2.1
  let M : oM := t.2.2
  if l5 < l3 then (if l5 < 60 then ((p_R_leastNext f l4 M).bind fun q1 =>
  let M2 : oM := q1.2
  let r3 : Int := q1.1
  if r3 < 0 then (some (.inr (0, M2)))
  else (bnd 60 l5 fun i4 =>
  let M5 : oM := oU M2 47 i4 r3
  let x6 : Int := w32 (l5 + 1)
  some (.inl (r3, x6, M5))))
  else (some (.inr (0, M))))
  else (some (.inr (0, M)))
def p_R_planTour (f : Nat) (l2 : Int) (l3 : Int) (M : oM) : Option (Int × oM) :=
  cpg 100 100 0 0 100 fun _ =>
  let M7 : oM := acopy M 7 0 43 0 100
  iter (p_R_planTour_L18 f l3) f (l2, 0, M7)
def p_O_tour_B184 (f : Nat) (M : oM) : Option (Int × oM) :=
  some (1, M)
def p_O_tour_B131 (f : Nat) (l1 : Int) (l3 : Int) (M : oM) : Option (Int × oM) :=
  (p_R_planTour f (M 6 4) l3 M).bind fun q1 =>
  let M2 : oM := q1.2
  if l1 = 102 then (if l3 = 0 then (p_O_tour_B184 f M2)
  else (bnd 60 (w32 (l3 - 1)) fun i4 =>
  if M2 47 i4 = M2 6 4 then (p_O_tour_B184 f M2)
  else (some (0, M2))))
  else (bnd 60 l1 fun i3 =>
  some (M2 47 i3, M2))
def p_O_tour_B40 (f : Nat) (l1 : Int) (l2 : Int) (M : oM) : Option (Int × oM) :=
  if M 6 4 < 0 then (some ((-2), M))
  else ((p_D_owedInAll f 6  M).bind fun q5 =>
  let M6 : oM := q5.2
  let r7 : Int := q5.1
  if 60 < r7 then (some ((-3), M6))
  else (if l1 = 101 then (some (r7, M6))
  else ((p_R_isOneRow f 7 (M6 6 4) M6).bind fun q8 =>
  let M9 : oM := q8.2
  let r10 : Int := q8.1
  if l1 = 100 then (if r10 = 0 then (some (0, M9))
  else (some (1, M9)))
  else (if r10 = 0 then (some ((-4), M9))
  else (if l2 = 0 then (p_O_tour_B131 f l1 r7 M9)
  else (if l1 < r7 then (p_O_tour_B131 f l1 r7 M9)
  else (some ((-4), M9))))))))
def p_O_tour_B15 (f : Nat) (l1 : Int) (s0 : Int) (M : oM) : Option (Int × oM) :=
  if s0 = 0 then (if l1 = 100 then (p_O_tour_B40 f l1 s0 M)
  else (if l1 = 101 then (p_O_tour_B40 f l1 s0 M)
  else (if l1 = 102 then (p_O_tour_B40 f l1 s0 M)
  else (some ((-1), M)))))
  else (p_O_tour_B40 f l1 s0 M)
def p_O_tour_B14 (f : Nat) (l1 : Int) (M : oM) : Option (Int × oM) :=
  p_O_tour_B15 f l1 0 M
def p_O_tour (f : Nat) (l1 : Int) (M : oM) : Option (Int × oM) :=
  if l1 < 0 then (p_O_tour_B14 f l1 M)
  else (if l1 < 60 then (p_O_tour_B15 f l1 1 M)
  else (p_O_tour_B14 f l1 M))
def p_R_lengthen_B97_36 (f : Nat) (rec : Int → Int → oM → Option (Int × oM)) (l1 : Int) (l2 : Int) (l3 : Int) (M : oM) : Option ((Int × oM) ⊕ (Int × oM)) :=
  let x1 : Int := w32 (l3 + 1)
  some (.inl (x1, M))
def p_R_lengthen_L36 (f : Nat) (rec : Int → Int → oM → Option (Int × oM)) (l1 : Int) (l2 : Int) (t : Int × oM) : Option ((Int × oM) ⊕ (Int × oM)) :=
  let l3 : Int := t.1
  let M : oM := t.2
  if l3 < 10 then (let x2 : Int := w32 ((w32 (l1 * 10)) + l3)
  bnd 100 x2 fun i3 =>
  if 0 < M 43 i3 then (bnd 100 x2 fun i4 =>
  bnd 100 x2 fun i5 =>
  let M6 : oM := oU M 43 i5 (w32 ((M 43 i4) - 1))
  bnd 60 l2 fun i7 =>
  let M8 : oM := oU M6 47 i7 l3
  (rec l3 (w32 (l2 + 1)) M8).bind fun q9 =>
  let M10 : oM := q9.2
  bnd 100 x2 fun i11 =>
  bnd 100 x2 fun i12 =>
  let M13 : oM := oU M10 43 i12 (w32 ((M10 43 i11) + 1))
  p_R_lengthen_B97_36 f rec l1 l2 l3 M13)
  else (p_R_lengthen_B97_36 f rec l1 l2 l3 M))
  else (some (.inr (0, M)))
def p_R_lengthen_B27 (f : Nat) (rec : Int → Int → oM → Option (Int × oM)) (l1 : Int) (l2 : Int) (M : oM) : Option (Int × oM) :=
  if l2 < 12 then (iter (p_R_lengthen_L36 f rec l1 l2) f (0, M))
  else (some (0, M))
def p_R_lengthen_F (f : Nat) (rec : Int → Int → oM → Option (Int × oM)) (l1 : Int) (l2 : Int) (M : oM) : Option (Int × oM) :=
  if M 42 7 < l2 then (let M14 : oM := oU M 42 7 l2
  cpg 60 12 0 0 l2 fun _ =>
  let M15 : oM := acopy M14 47 0 48 0 l2
  p_R_lengthen_B27 f rec l1 l2 M15)
  else (p_R_lengthen_B27 f rec l1 l2 M)
def p_R_lengthen (f : Nat) : Nat → Int → Int → oM → Option (Int × oM)
  | 0, _, _, _ => none
  | n + 1, l1, l2, M => p_R_lengthen_F f (p_R_lengthen f n) l1 l2 M
def p_R_planMost (f : Nat) (l2 : Int) (M : oM) : Option (Int × oM) :=
  cpg 100 100 0 0 100 fun _ =>
  let M1 : oM := acopy M 7 0 43 0 100
  let M2 : oM := oU M1 42 7 0
  (p_R_lengthen f 14 l2 0 M2).bind fun q3 =>
  let M4 : oM := q3.2
  some (M4 42 7, M4)
def p_O_most_B28 (f : Nat) (l1 : Int) (l2 : Int) (M : oM) : Option (Int × oM) :=
  if M 6 4 < 0 then (some ((-2), M))
  else ((p_D_owedInAll f 6  M).bind fun q1 =>
  let M2 : oM := q1.2
  let r3 : Int := q1.1
  if 12 < r3 then (some ((-3), M2))
  else ((p_R_planMost f (M2 6 4) M2).bind fun q4 =>
  let M5 : oM := q4.2
  let r6 : Int := q4.1
  if l1 = 100 then (some (r6, M5))
  else (if l2 = 0 then (some ((-4), M5))
  else (if l1 < r6 then (bnd 12 l1 fun i7 =>
  some (M5 48 i7, M5))
  else (some ((-4), M5))))))
def p_O_most_B15 (f : Nat) (l1 : Int) (s0 : Int) (M : oM) : Option (Int × oM) :=
  if s0 = 0 then (if l1 = 100 then (p_O_most_B28 f l1 s0 M)
  else (some ((-1), M)))
  else (p_O_most_B28 f l1 s0 M)
def p_O_most_B14 (f : Nat) (l1 : Int) (M : oM) : Option (Int × oM) :=
  p_O_most_B15 f l1 0 M
def p_O_most (f : Nat) (l1 : Int) (M : oM) : Option (Int × oM) :=
  if l1 < 0 then (p_O_most_B14 f l1 M)
  else (if l1 < 12 then (p_O_most_B15 f l1 1 M)
  else (p_O_most_B14 f l1 M))
def p_R_wayBack_X22 (f : Nat) (l2 : Int) (l3 : Int) (l4 : Int) (t : oM) : Option ((Int × oM) ⊕ (Int × oM)) :=
  let M : oM := t
  let x1 : Int := w32 (l4 + 1)
  some (.inl (x1, M))
def p_R_wayBack_B108_22 (f : Nat) (l2 : Int) (l3 : Int) (l4 : Int) (l5 : Int) (M : oM) : Option ((Int × oM) ⊕ (oM)) :=
  let x2 : Int := w32 (l5 + 1)
  some (.inl (x2, M))
def p_R_wayBack_B103_22 (f : Nat) (l2 : Int) (l3 : Int) (l4 : Int) (l5 : Int) (s1 : Int) (s2 : Int) (s3 : Int) (s4 : Int) (M : oM) : Option ((Int × oM) ⊕ (oM)) :=
  bnd 10 s1 fun i3 =>
  let M4 : oM := oU M 46 i3 (imin s2 (w32 (s3 + s4)))
  p_R_wayBack_B108_22 f l2 l3 l4 l5 M4
def p_R_wayBack_B67_22 (f : Nat) (l2 : Int) (l3 : Int) (l4 : Int) (l5 : Int) (l6 : Int) (l7 : Int) (s0 : Int) (M : oM) : Option ((Int × oM) ⊕ (oM)) :=
  bnd 10 l7 fun i5 =>
  if l3 = 0 then (p_R_wayBack_B103_22 f l2 l3 l4 l5 l7 (M 46 i5) s0 1 M)
  else ((p_P_way f l6 l7 M).bind fun q6 =>
  let M7 : oM := q6.2
  let r8 : Int := q6.1
  p_R_wayBack_B103_22 f l2 l3 l4 l5 l7 (M 46 i5) s0 r8 M7)
def p_R_wayBack_L22 (f : Nat) (l2 : Int) (l3 : Int) (l4 : Int) (t : Int × oM) : Option ((Int × oM) ⊕ (oM)) :=
  let l5 : Int := t.1
  let M : oM := t.2
  if l5 < 100 then (nz 10 fun z9 =>
  let x10 : Int := w32 (Int.tdiv l5 z9)
  nz 10 fun z11 =>
  let x12 : Int := Int.tmod l5 z11
  bnd 100 l5 fun i13 =>
  if 0 < M 7 i13 then (if x10 = l2 then (p_R_wayBack_B67_22 f l2 l3 l4 l5 x10 x12 0 M)
  else (bnd 10 x10 fun i14 =>
  p_R_wayBack_B67_22 f l2 l3 l4 l5 x10 x12 (M 46 i14) M))
  else (p_R_wayBack_B108_22 f l2 l3 l4 l5 M))
  else (some (.inr M))
def p_R_wayBack_L12 (f : Nat) (l2 : Int) (l3 : Int) (t : Int × oM) : Option ((Int × oM) ⊕ (Int × oM)) :=
  let l4 : Int := t.1
  let M : oM := t.2
  if l4 < 10 then ((iter (p_R_wayBack_L22 f l2 l3 l4) f (0, M)).bind (p_R_wayBack_X22 f l2 l3 l4))
  else (bnd 10 l2 fun i15 =>
  some (.inr (M 46 i15, M)))
def p_R_wayBack (f : Nat) (l2 : Int) (l3 : Int) (M : oM) : Option (Int × oM) :=
  (p_JA_fill f 46 10 1000000 M).bind fun q16 =>
  let M17 : oM := q16.2
  iter (p_R_wayBack_L12 f l2 l3) f (0, M17)
def p_O_back_B44 (f : Nat) (s2 : Int) (s3 : Int) (M : oM) : Option (Int × oM) :=
  (p_R_wayBack f s2 s3 M).bind fun q1 =>
  let M2 : oM := q1.2
  let r3 : Int := q1.1
  if r3 < 1000000 then (some (r3, M2))
  else (some ((-2), M2))
def p_O_back_B22 (f : Nat) (l1 : Int) (l2 : Int) (M : oM) : Option (Int × oM) :=
  if l2 = 1 then (p_O_back_B44 f l1 1 M)
  else (p_O_back_B44 f l1 0 M)
def p_O_back (f : Nat) (l1 : Int) (l2 : Int) (M : oM) : Option (Int × oM) :=
  (p_P_has f l1 M).bind fun q4 =>
  let M5 : oM := q4.2
  let r6 : Int := q4.1
  if r6 = 0 then (some ((-1), M5))
  else (if l2 = 0 then (p_O_back_B22 f l1 l2 M5)
  else (if l2 = 1 then (p_O_back_B22 f l1 l2 M5)
  else (some ((-1), M5))))
def p_B_weigh_L2 (f : Nat) (t : Int × oM) : Option ((Int × oM) ⊕ (Int × oM)) :=
  let l2 : Int := t.1
  let M : oM := t.2
  if l2 < 10 then ((p_D_owedTo f l2 M).bind fun q1 =>
  let M2 : oM := q1.2
  let r3 : Int := q1.1
  (p_D_owedBy f 6 l2 M2).bind fun q4 =>
  let M5 : oM := q4.2
  let r6 : Int := q4.1
  bnd 10 l2 fun i7 =>
  let M8 : oM := oU M5 50 i7 (w32 (r3 - r6))
  let x9 : Int := w32 (l2 + 1)
  some (.inl (x9, M8)))
  else (some (.inr (0, M)))
def p_B_weigh (f : Nat) (M : oM) : Option (Int × oM) :=
  iter (p_B_weigh_L2 f) f (0, M)
def p_B_newDebts_L9 (f : Nat) (t : Int × Int × oM) : Option ((Int × Int × oM) ⊕ (Int × oM)) :=
  let l2 : Int := t.1
  let l3 : Int := t.2.1
  let M : oM := t.2.2
  if l3 < 10 then (bnd 10 l3 fun i1 =>
  let x2 : Int := w32 (l2 + (imax 0 (M 50 i1)))
  let x3 : Int := w32 (l3 + 1)
  some (.inl (x2, x3, M)))
  else (some (.inr (l2, M)))
def p_B_newDebts (f : Nat) (M : oM) : Option (Int × oM) :=
  (p_B_weigh f  M).bind fun q4 =>
  let M5 : oM := q4.2
  iter (p_B_newDebts_L9 f) f (0, 0, M5)
def p_B_assign_B20 (f : Nat) (rec : Int → Int → Int → oM → Option (Int × oM)) (l3 : Int) (M : oM) : Option (Int × oM) :=
  let M1 : oM := oU M 49 8 l3
  cpg 6 6 0 0 6 fun _ =>
  let M2 : oM := acopy M1 53 0 54 0 6
  some (0, M2)
def p_B_assign_B116_44 (f : Nat) (rec : Int → Int → Int → oM → Option (Int × oM)) (l1 : Int) (l2 : Int) (l3 : Int) (l4 : Int) (M : oM) : Option ((Int × oM) ⊕ (Int × oM)) :=
  let x3 : Int := w32 (l4 + 1)
  some (.inl (x3, M))
def p_B_assign_L44 (f : Nat) (rec : Int → Int → Int → oM → Option (Int × oM)) (l1 : Int) (l2 : Int) (l3 : Int) (t : Int × oM) : Option ((Int × oM) ⊕ (Int × oM)) :=
  let l4 : Int := t.1
  let M : oM := t.2
  if l4 < 10 then (bnd 10 l4 fun i4 =>
  if M 50 i4 < 0 then (bnd 10 l4 fun i5 =>
  bnd 10 l4 fun i6 =>
  let M7 : oM := oU M 50 i6 (w32 ((M 50 i5) + 1))
  bnd 6 l1 fun i8 =>
  let M9 : oM := oU M7 53 i8 l4
  bnd 6 l1 fun i10 =>
  (p_P_way f (M9 52 i10) l4 M9).bind fun q11 =>
  let M12 : oM := q11.2
  let r13 : Int := q11.1
  (rec (w32 (l1 + 1)) l2 (w32 (l3 + r13)) M12).bind fun q14 =>
  let M15 : oM := q14.2
  bnd 10 l4 fun i16 =>
  bnd 10 l4 fun i17 =>
  let M18 : oM := oU M15 50 i17 (w32 ((M15 50 i16) - 1))
  p_B_assign_B116_44 f rec l1 l2 l3 l4 M18)
  else (p_B_assign_B116_44 f rec l1 l2 l3 l4 M))
  else (some (.inr (0, M)))
def p_B_assign_F (f : Nat) (rec : Int → Int → Int → oM → Option (Int × oM)) (l1 : Int) (l2 : Int) (l3 : Int) (M : oM) : Option (Int × oM) :=
  if l3 < M 49 8 then (if l1 < l2 then (if l1 < 6 then (iter (p_B_assign_L44 f rec l1 l2 l3) f (0, M))
  else (p_B_assign_B20 f rec l3 M))
  else (p_B_assign_B20 f rec l3 M))
  else (some (0, M))
def p_B_assign (f : Nat) : Nat → Int → Int → Int → oM → Option (Int × oM)
  | 0, _, _, _, _ => none
  | n + 1, l1, l2, l3, M => p_B_assign_F f (p_B_assign f n) l1 l2 l3 M
def p_B_planNewDebts_X13 (f : Nat) (l1 : Int) (l3 : Int) (t : Int × oM) : Option ((Int × Int × oM) ⊕ (Int × oM)) :=
  let l2 : Int := t.1
  let M : oM := t.2
  let x1 : Int := w32 (l3 + 1)
  some (.inl (l2, x1, M))
def p_B_planNewDebts_L13 (f : Nat) (l1 : Int) (l3 : Int) (t : Int × Int × oM) : Option ((Int × Int × oM) ⊕ (Int × oM)) :=
  let l2 : Int := t.1
  let l4 : Int := t.2.1
  let M : oM := t.2.2
  bnd 10 l3 fun i2 =>
  if l4 < M 50 i2 then (if l2 < 6 then (bnd 6 l2 fun i3 =>
  let M4 : oM := oU M 52 i3 l3
  let x5 : Int := w32 (l2 + 1)
  let x6 : Int := w32 (l4 + 1)
  some (.inl (x5, x6, M4)))
  else (some (.inr (l2, M))))
  else (some (.inr (l2, M)))
def p_B_planNewDebts_L4 (f : Nat) (l1 : Int) (t : Int × Int × oM) : Option ((Int × Int × oM) ⊕ (Int × oM)) :=
  let l2 : Int := t.1
  let l3 : Int := t.2.1
  let M : oM := t.2.2
  if l3 < 10 then ((iter (p_B_planNewDebts_L13 f l1 l3) f (l2, 0, M)).bind (p_B_planNewDebts_X13 f l1 l3))
  else (let M7 : oM := oU M 49 8 1000000
  (p_B_assign f 9 0 (imin l1 l2) 0 M7).bind fun q8 =>
  let M9 : oM := q8.2
  some (.inr (0, M9)))
def p_B_planNewDebts (f : Nat) (l1 : Int) (M : oM) : Option (Int × oM) :=
  iter (p_B_planNewDebts_L4 f l1) f (0, 0, M)
def p_O_even_B75 (f : Nat) (l1 : Int) (l2 : Int) (l3 : Int) (M : oM) : Option (Int × oM) :=
  (p_B_planNewDebts f l3 M).bind fun q1 =>
  let M2 : oM := q1.2
  if l2 = 0 then (some (M2 49 8, M2))
  else (bnd 6 l1 fun i3 =>
  some (M2 54 i3, M2))
def p_O_even_B34 (f : Nat) (l1 : Int) (l2 : Int) (M : oM) : Option (Int × oM) :=
  (p_B_newDebts f  M).bind fun q4 =>
  let M5 : oM := q4.2
  let r6 : Int := q4.1
  if l1 = 100 then (some (r6, M5))
  else (if 6 < r6 then (some ((-3), M5))
  else (if l2 = 0 then (p_O_even_B75 f l1 l2 r6 M5)
  else (if l1 < r6 then (p_O_even_B75 f l1 l2 r6 M5)
  else (some ((-4), M5)))))
def p_O_even_B15 (f : Nat) (l1 : Int) (s0 : Int) (M : oM) : Option (Int × oM) :=
  if s0 = 0 then (if l1 = 100 then (p_O_even_B34 f l1 s0 M)
  else (if l1 = 101 then (p_O_even_B34 f l1 s0 M)
  else (some ((-1), M))))
  else (p_O_even_B34 f l1 s0 M)
def p_O_even_B14 (f : Nat) (l1 : Int) (M : oM) : Option (Int × oM) :=
  p_O_even_B15 f l1 0 M
def p_O_even (f : Nat) (l1 : Int) (M : oM) : Option (Int × oM) :=
  if l1 < 0 then (p_O_even_B14 f l1 M)
  else (if l1 < 6 then (p_O_even_B15 f l1 1 M)
  else (p_O_even_B14 f l1 M))
def p_B_isEvenTurned_L81 (f : Nat) (t : Int × oM) : Option ((Int × oM) ⊕ (Int × oM)) :=
  let l3 : Int := t.1
  let M : oM := t.2
  if l3 < 10 then (bnd 10 l3 fun i1 =>
  if M 51 i1 = 0 then (let x2 : Int := w32 (l3 + 1)
  some (.inl (x2, M)))
  else (some (.inr (0, M))))
  else (some (.inr (1, M)))
def p_B_isEvenTurned_X17 (f : Nat) (l1 : Int) (l2 : Int) (t : oM) : Option (Int × oM) :=
  let M : oM := t
  iter (p_B_isEvenTurned_L81 f) f (0, M)
def p_B_isEvenTurned_B73_17 (f : Nat) (l1 : Int) (l2 : Int) (l3 : Int) (M : oM) : Option ((Int × oM) ⊕ (oM)) :=
  let x3 : Int := w32 (l3 + 1)
  some (.inl (x3, M))
def p_B_isEvenTurned_L17 (f : Nat) (l1 : Int) (l2 : Int) (t : Int × oM) : Option ((Int × oM) ⊕ (oM)) :=
  let l3 : Int := t.1
  let M : oM := t.2
  if l3 < l2 then (if l3 < 12 then (if iand (ishr l1 l3) 1 = 1 then (bnd 12 l3 fun i4 =>
  nz 10 fun z5 =>
  bnd 10 (w32 (Int.tdiv (M 55 i4) z5)) fun i6 =>
  bnd 10 (w32 (Int.tdiv (M 55 i4) z5)) fun i7 =>
  let M8 : oM := oU M 51 i7 (w32 ((M 51 i6) + 2))
  bnd 12 l3 fun i9 =>
  nz 10 fun z10 =>
  bnd 10 (Int.tmod (M8 55 i9) z10) fun i11 =>
  bnd 10 (Int.tmod (M8 55 i9) z10) fun i12 =>
  let M13 : oM := oU M8 51 i12 (w32 ((M8 51 i11) - 2))
  p_B_isEvenTurned_B73_17 f l1 l2 l3 M13)
  else (p_B_isEvenTurned_B73_17 f l1 l2 l3 M))
  else (some (.inr M)))
  else (some (.inr M))
def p_B_isEvenTurned (f : Nat) (l1 : Int) (l2 : Int) (M : oM) : Option (Int × oM) :=
  cpg 10 10 0 0 10 fun _ =>
  let M14 : oM := acopy M 50 0 51 0 10
  (iter (p_B_isEvenTurned_L17 f l1 l2) f (0, M14)).bind (p_B_isEvenTurned_X17 f l1 l2)
def p_D_listCoins_X13 (f : Nat) (o1 : Nat) (n1 : Int) (l3 : Int) (t : Int × oM) : Option ((Int × Int × oM) ⊕ (Int × oM)) :=
  let l2 : Int := t.1
  let M : oM := t.2
  let x1 : Int := w32 (l3 + 1)
  some (.inl (l2, x1, M))
def p_D_listCoins_L13 (f : Nat) (o1 : Nat) (n1 : Int) (l3 : Int) (t : Int × Int × oM) : Option ((Int × Int × oM) ⊕ (Int × oM)) :=
  let l2 : Int := t.1
  let l4 : Int := t.2.1
  let M : oM := t.2.2
  bnd 100 l3 fun i2 =>
  if l4 < M 7 i2 then (if l2 < n1 then (bnd n1 l2 fun i3 =>
  let M4 : oM := oU M o1 i3 l3
  let x5 : Int := w32 (l2 + 1)
  let x6 : Int := w32 (l4 + 1)
  some (.inl (x5, x6, M4)))
  else (some (.inr (l2, M))))
  else (some (.inr (l2, M)))
def p_D_listCoins_L4 (f : Nat) (o1 : Nat) (n1 : Int) (t : Int × Int × oM) : Option ((Int × Int × oM) ⊕ (Int × oM)) :=
  let l2 : Int := t.1
  let l3 : Int := t.2.1
  let M : oM := t.2.2
  if l3 < 100 then ((iter (p_D_listCoins_L13 f o1 n1 l3) f (l2, 0, M)).bind (p_D_listCoins_X13 f o1 n1 l3))
  else (some (.inr (l2, M)))
def p_D_listCoins (f : Nat) (o1 : Nat) (n1 : Int) (M : oM) : Option (Int × oM) :=
  iter (p_D_listCoins_L4 f o1 n1) f (0, 0, M)
def p_JI_bitCount (f : Nat) (l0 : Int) (M : oM) : Option (Int × oM) :=
  let x1 : Int := w32 (l0 - (iand (iushr l0 1) 1431655765))
  let x2 : Int := w32 ((iand x1 858993459) + (iand (iushr x1 2) 858993459))
  let x3 : Int := iand (w32 (x2 + (iushr x2 4))) 252645135
  let x4 : Int := w32 (x3 + (iushr x3 8))
  let x5 : Int := w32 (x4 + (iushr x4 16))
  some (iand x5 63, M)
def p_B_leastTurned_B61_23 (f : Nat) (l2 : Int) (l3 : Int) (l4 : Int) (l5 : Int) (M : oM) : Option ((Int × Int × Int × oM) ⊕ (Int × oM)) :=
  let x1 : Int := w32 (l5 + 1)
  some (.inl (l3, l4, x1, M))
def p_B_leastTurned_L23 (f : Nat) (l2 : Int) (t : Int × Int × Int × oM) : Option ((Int × Int × Int × oM) ⊕ (Int × oM)) :=
  let l3 : Int := t.1
  let l4 : Int := t.2.1
  let l5 : Int := t.2.2.1
  let M : oM := t.2.2.2
  if l5 < ishl 1 l2 then ((p_JI_bitCount f l5 M).bind fun q2 =>
  let M3 : oM := q2.2
  let r4 : Int := q2.1
  if r4 < l4 then ((p_B_isEvenTurned f l5 l2 M3).bind fun q5 =>
  let M6 : oM := q5.2
  let r7 : Int := q5.1
  if r7 = 0 then (p_B_leastTurned_B61_23 f l2 l3 l4 l5 M6)
  else ((p_JI_bitCount f l5 M6).bind fun q8 =>
  let M9 : oM := q8.2
  let r10 : Int := q8.1
  p_B_leastTurned_B61_23 f l2 l5 r10 l5 M9))
  else (p_B_leastTurned_B61_23 f l2 l3 l4 l5 M3))
  else (some (.inr (l3, M)))
def p_B_leastTurned (f : Nat) (M : oM) : Option (Int × oM) :=
  (p_B_weigh f  M).bind fun q11 =>
  let M12 : oM := q11.2
  (p_D_listCoins f 55 12  M12).bind fun q13 =>
  let M14 : oM := q13.2
  let r15 : Int := q13.1
  iter (p_B_leastTurned_L23 f r15) f ((-1), 13, 0, M14)
def p_O_turned_B11 (f : Nat) (l1 : Int) (M : oM) : Option (Int × oM) :=
  (p_D_owedInAll f 6  M).bind fun q1 =>
  let M2 : oM := q1.2
  let r3 : Int := q1.1
  if 12 < r3 then (some ((-3), M2))
  else ((p_B_leastTurned f  M2).bind fun q4 =>
  let M5 : oM := q4.2
  let r6 : Int := q4.1
  if r6 < 0 then (some ((-2), M5))
  else (if l1 = 1 then (some (r6, M5))
  else ((p_JI_bitCount f r6 M5).bind fun q7 =>
  let M8 : oM := q7.2
  let r9 : Int := q7.1
  some (r9, M8))))
def p_O_turned (f : Nat) (l1 : Int) (M : oM) : Option (Int × oM) :=
  if l1 = 0 then (p_O_turned_B11 f l1 M)
  else (if l1 = 1 then (p_O_turned_B11 f l1 M)
  else (some ((-1), M)))
def p_O_setOff (f : Nat) (l1 : Int) (M : oM) : Option (Int × oM) :=
  (p_P_has f l1 M).bind fun q1 =>
  let M2 : oM := q1.2
  let r3 : Int := q1.1
  if r3 = 0 then (some ((-1000000), M2))
  else ((p_D_owedTo f l1 M2).bind fun q4 =>
  let M5 : oM := q4.2
  let r6 : Int := q4.1
  (p_D_owedBy f 6 l1 M5).bind fun q7 =>
  let M8 : oM := q7.2
  let r9 : Int := q7.1
  some (w32 (r6 - r9), M8))
def p_B_fewestPayings_B93_7 (f : Nat) (l2 : Int) (s1 : Int) (s2 : Int) (M : oM) : Option ((Int × oM) ⊕ (Int × oM)) :=
  bnd 1024 s1 fun i1 =>
  let M2 : oM := oU M 56 i1 s2
  let x3 : Int := w32 (l2 + 1)
  some (.inl (x3, M2))
def p_B_fewestPayings_X22 (f : Nat) (l2 : Int) (t : Int × Int × oM) : Option ((Int × oM) ⊕ (Int × oM)) :=
  let l3 : Int := t.1
  let l4 : Int := t.2.1
  let M : oM := t.2.2
  if l3 = 0 then (p_B_fewestPayings_B93_7 f l2 l2 (w32 (l4 + 1)) M)
  else (p_B_fewestPayings_B93_7 f l2 l2 l4 M)
def p_B_fewestPayings_B69_22 (f : Nat) (l2 : Int) (l3 : Int) (l4 : Int) (l5 : Int) (M : oM) : Option ((Int × Int × Int × oM) ⊕ (Int × Int × oM)) :=
  let x4 : Int := w32 (l5 + 1)
  some (.inl (l3, l4, x4, M))
def p_B_fewestPayings_L22 (f : Nat) (l2 : Int) (t : Int × Int × Int × oM) : Option ((Int × Int × Int × oM) ⊕ (Int × Int × oM)) :=
  let l3 : Int := t.1
  let l4 : Int := t.2.1
  let l5 : Int := t.2.2.1
  let M : oM := t.2.2.2
  if l5 < 10 then (if iand (ishr l2 l5) 1 = 1 then (bnd 10 l5 fun i5 =>
  let x6 : Int := w32 (l3 + (M 50 i5))
  bnd 1024 (iand l2 (ixor (ishl 1 l5) (-1))) fun i7 =>
  let x8 : Int := imax l4 (M 56 i7)
  p_B_fewestPayings_B69_22 f l2 x6 x8 l5 M)
  else (p_B_fewestPayings_B69_22 f l2 l3 l4 l5 M))
  else (some (.inr (l3, l4, M)))
def p_B_fewestPayings_L7 (f : Nat) (t : Int × oM) : Option ((Int × oM) ⊕ (Int × oM)) :=
  let l2 : Int := t.1
  let M : oM := t.2
  if l2 < 1024 then ((iter (p_B_fewestPayings_L22 f l2) f (0, 0, 0, M)).bind (p_B_fewestPayings_X22 f l2))
  else (bnd 1024 1023 fun i9 =>
  some (.inr (w32 (10 - (M 56 i9)), M)))
def p_B_fewestPayings (f : Nat) (M : oM) : Option (Int × oM) :=
  (p_B_weigh f  M).bind fun q10 =>
  let M11 : oM := q10.2
  iter (p_B_fewestPayings_L7 f) f (1, M11)
def p_O_fewest (f : Nat) (M : oM) : Option (Int × oM) :=
  (p_B_fewestPayings f  M).bind fun q1 =>
  let M2 : oM := q1.2
  let r3 : Int := q1.1
  some (r3, M2)
def p_R_ringOf_B49_11 (f : Nat) (l1 : Int) (l2 : Int) (l3 : Int) (l4 : Int) (M : oM) : Option ((Int × Int × oM) ⊕ (Int × oM)) :=
  let x1 : Int := w32 (l4 + 1)
  some (.inl (l2, x1, M))
def p_R_ringOf_L11 (f : Nat) (l1 : Int) (l3 : Int) (t : Int × Int × oM) : Option ((Int × Int × oM) ⊕ (Int × oM)) :=
  let l2 : Int := t.1
  let l4 : Int := t.2.1
  let M : oM := t.2.2
  if l4 < 10 then (if iand (ishr l3 l4) 1 = 1 then ((p_R_reachedFrom f 7 l4 M).bind fun q2 =>
  let M3 : oM := q2.2
  let r4 : Int := q2.1
  if iand (ishr r4 l1) 1 = 1 then (let x5 : Int := ior l2 (ishl 1 l4)
  p_R_ringOf_B49_11 f l1 x5 l3 l4 M3)
  else (p_R_ringOf_B49_11 f l1 l2 l3 l4 M3))
  else (p_R_ringOf_B49_11 f l1 l2 l3 l4 M))
  else (some (.inr (l2, M)))
def p_R_ringOf (f : Nat) (l1 : Int) (M : oM) : Option (Int × oM) :=
  (p_R_reachedFrom f 7 l1 M).bind fun q6 =>
  let M7 : oM := q6.2
  let r8 : Int := q6.1
  iter (p_R_ringOf_L11 f l1 r8) f (0, 0, M7)
def p_O_rings_B77_37 (f : Nat) (l2 : Int) (l3 : Int) (M : oM) : Option ((Int × Int × oM) ⊕ (Int × oM)) :=
  let x1 : Int := w32 (l3 + 1)
  some (.inl (l2, x1, M))
def p_O_rings_L37 (f : Nat) (t : Int × Int × oM) : Option ((Int × Int × oM) ⊕ (Int × oM)) :=
  let l2 : Int := t.1
  let l3 : Int := t.2.1
  let M : oM := t.2.2
  if l3 < 10 then ((p_P_has f l3 M).bind fun q2 =>
  let M3 : oM := q2.2
  let r4 : Int := q2.1
  if r4 = 0 then (p_O_rings_B77_37 f l2 l3 M3)
  else ((p_R_ringOf f l3 M3).bind fun q5 =>
  let M6 : oM := q5.2
  let r7 : Int := q5.1
  if iand r7 (w32 ((ishl 1 l3) - 1)) = 0 then (let x8 : Int := w32 (l2 + 1)
  p_O_rings_B77_37 f x8 l3 M6)
  else (p_O_rings_B77_37 f l2 l3 M6)))
  else (some (.inr (l2, M)))
def p_O_rings (f : Nat) (l1 : Int) (M : oM) : Option (Int × oM) :=
  if l1 = 100 then (iter (p_O_rings_L37 f) f (0, 0, M))
  else ((p_P_has f l1 M).bind fun q9 =>
  let M10 : oM := q9.2
  let r11 : Int := q9.1
  if r11 = 0 then (some ((-1), M10))
  else ((p_R_ringOf f l1 M10).bind fun q12 =>
  let M13 : oM := q12.2
  let r14 : Int := q12.1
  some (r14, M13)))
def p_O_off (f : Nat) (M : oM) : Option (Int × oM) :=
  if M 6 4 < 0 then (some ((-2), M))
  else ((p_R_reachedFrom f 7 (M 6 4) M).bind fun q1 =>
  let M2 : oM := q1.2
  let r3 : Int := q1.1
  some (iand (M 3 2) (ixor r3 (-1)), M2))
def p_O_when_L46 (f : Nat) (l1 : Int) (l2 : Int) (t : Int × oM) : Option ((Int × oM) ⊕ (Int × oM)) :=
  let l3 : Int := t.1
  let M : oM := t.2
  if l2 < l3 then (some (.inr ((-2), M)))
  else ((p_C_tick f 14  M).bind fun q1 =>
  let M2 : oM := q1.2
  if M2 41 5 = l1 then (some (.inr (l3, M2)))
  else (let x3 : Int := w32 (l3 + 1)
  some (.inl (x3, M2))))
def p_O_when (f : Nat) (l1 : Int) (l2 : Int) (M : oM) : Option (Int × oM) :=
  (p_P_has f l1 M).bind fun q4 =>
  let M5 : oM := q4.2
  let r6 : Int := q4.1
  if r6 = 0 then (some ((-1), M5))
  else ((p_O_areHours f l2 M5).bind fun q7 =>
  let M8 : oM := q7.2
  let r9 : Int := q7.1
  if r9 = 0 then (some ((-1), M8))
  else (if M8 6 4 = l1 then (some (0, M8))
  else ((p_D_takeFrom f 14 6  M8).bind fun q10 =>
  let M11 : oM := q10.2
  iter (p_O_when_L46 f l1 l2) f (1, M11))))
def p_O_wedding_B117_41 (f : Nat) (l1 : Int) (l2 : Int) (l3 : Int) (l4 : Int) (l5 : Int) (l6 : Int) (M : oM) : Option ((Int × Int × Int × oM) ⊕ (Int × oM)) :=
  let x1 : Int := w32 (l6 + 1)
  some (.inl (l4, l5, x1, M))
def p_O_wedding_B100_41 (f : Nat) (l1 : Int) (l2 : Int) (l3 : Int) (l4 : Int) (l5 : Int) (l6 : Int) (l7 : Int) (M : oM) : Option ((Int × Int × Int × oM) ⊕ (Int × oM)) :=
  if l4 = l7 then (if l5 = l7 then (some (.inr (l7, M)))
  else (p_O_wedding_B117_41 f l1 l2 l3 l4 l5 l6 M))
  else (p_O_wedding_B117_41 f l1 l2 l3 l4 l5 l6 M)
def p_O_wedding_L41 (f : Nat) (l1 : Int) (l2 : Int) (l3 : Int) (t : Int × Int × Int × oM) : Option ((Int × Int × Int × oM) ⊕ (Int × oM)) :=
  let l4 : Int := t.1
  let l5 : Int := t.2.1
  let l6 : Int := t.2.2.1
  let M : oM := t.2.2.2
  if l6 < l3 then (let x2 : Int := M 14 9
  (p_C_tick f 14  M).bind fun q3 =>
  let M4 : oM := q3.2
  if M4 41 5 = l1 then (p_O_wedding_B100_41 f l1 l2 l3 x2 l5 l6 x2 M4)
  else (if M4 41 5 = l2 then (p_O_wedding_B100_41 f l1 l2 l3 l4 x2 l6 x2 M4)
  else (p_O_wedding_B100_41 f l1 l2 l3 l4 l5 l6 x2 M4)))
  else (some (.inr ((-2), M)))
def p_O_wedding (f : Nat) (l1 : Int) (l2 : Int) (l3 : Int) (M : oM) : Option (Int × oM) :=
  (p_P_hasBoth f l1 l2 M).bind fun q5 =>
  let M6 : oM := q5.2
  let r7 : Int := q5.1
  if r7 = 0 then (some ((-1), M6))
  else ((p_O_areHours f l3 M6).bind fun q8 =>
  let M9 : oM := q8.2
  let r10 : Int := q8.1
  if r10 = 0 then (some ((-1), M9))
  else ((p_D_takeFrom f 14 6  M9).bind fun q11 =>
  let M12 : oM := q11.2
  iter (p_O_wedding_L41 f l1 l2 l3) f ((-1), (-1), 0, M12)))
def p_O_longest_B33_4 (f : Nat) (l1 : Int) (l2 : Int) (M : oM) : Option ((Int × Int × oM) ⊕ (Int × oM)) :=
  let x1 : Int := w32 (l2 + 1)
  some (.inl (l1, x1, M))
def p_O_longest_L4 (f : Nat) (t : Int × Int × oM) : Option ((Int × Int × oM) ⊕ (Int × oM)) :=
  let l1 : Int := t.1
  let l2 : Int := t.2.1
  let M : oM := t.2.2
  if l2 < 10 then (bnd 10 l2 fun i3 =>
  bnd 10 l1 fun i4 =>
  if M 8 i4 < M 8 i3 then (p_O_longest_B33_4 f l2 l2 M)
  else (p_O_longest_B33_4 f l1 l2 M))
  else (bnd 10 l1 fun i2 =>
  if 0 < M 8 i2 then (some (.inr (l1, M)))
  else (some (.inr ((-2), M))))
def p_O_longest (f : Nat) (M : oM) : Option (Int × oM) :=
  iter (p_O_longest_L4 f) f (0, 1, M)
def p_O_chalk (f : Nat) (l1 : Int) (M : oM) : Option (Int × oM) :=
  if l1 < 0 then (some ((-1), M))
  else (if l1 < M 6 3 then (if l1 < 40 then (bnd 40 l1 fun i1 =>
  some (M 9 i1, M))
  else (some ((-1), M)))
  else (some ((-1), M)))
def p_R_hoursOf_B58_5 (f : Nat) (l1 : Int) (l2 : Int) (l3 : Int) (l4 : Int) (M : oM) : Option ((Int × Int × oM) ⊕ (Int × oM)) :=
  let x1 : Int := w32 (l4 + 1)
  some (.inl (l3, x1, M))
def p_R_hoursOf_L5 (f : Nat) (l1 : Int) (l2 : Int) (t : Int × Int × oM) : Option ((Int × Int × oM) ⊕ (Int × oM)) :=
  let l3 : Int := t.1
  let l4 : Int := t.2.1
  let M : oM := t.2.2
  if l4 < l2 then (if l4 < 8 then (if iand (ishr l1 l4) 1 = 1 then (bnd 8 l4 fun i2 =>
  nz 10 fun z3 =>
  bnd 8 l4 fun i4 =>
  nz 10 fun z5 =>
  (p_P_way f (w32 (Int.tdiv (M 45 i2) z3)) (Int.tmod (M 45 i4) z5) M).bind fun q6 =>
  let M7 : oM := q6.2
  let r8 : Int := q6.1
  let x9 : Int := w32 (l3 + r8)
  p_R_hoursOf_B58_5 f l1 l2 x9 l4 M7)
  else (p_R_hoursOf_B58_5 f l1 l2 l3 l4 M))
  else (some (.inr (l3, M))))
  else (some (.inr (l3, M)))
def p_R_hoursOf (f : Nat) (l1 : Int) (l2 : Int) (M : oM) : Option (Int × oM) :=
  iter (p_R_hoursOf_L5 f l1 l2) f (0, 0, M)
def p_R_setShare_B44_8 (f : Nat) (o1 : Nat) (l2 : Int) (l3 : Int) (l4 : Int) (M : oM) : Option ((Int × oM) ⊕ (Int × oM)) :=
  let x1 : Int := w32 (l4 + 1)
  some (.inl (x1, M))
def p_R_setShare_L8 (f : Nat) (o1 : Nat) (l2 : Int) (l3 : Int) (t : Int × oM) : Option ((Int × oM) ⊕ (Int × oM)) :=
  let l4 : Int := t.1
  let M : oM := t.2
  if l4 < l3 then (if l4 < 8 then (if iand (ishr l2 l4) 1 = 1 then (bnd 8 l4 fun i2 =>
  bnd 100 (M 45 i2) fun i3 =>
  bnd 100 (M 45 i2) fun i4 =>
  let M5 : oM := oU M o1 i4 (w32 ((M o1 i3) + 1))
  p_R_setShare_B44_8 f o1 l2 l3 l4 M5)
  else (p_R_setShare_B44_8 f o1 l2 l3 l4 M))
  else (some (.inr (0, M))))
  else (some (.inr (0, M)))
def p_R_setShare (f : Nat) (o1 : Nat) (l2 : Int) (l3 : Int) (M : oM) : Option (Int × oM) :=
  (p_JA_fill f o1 100 0 M).bind fun q6 =>
  let M7 : oM := q6.2
  iter (p_R_setShare_L8 f o1 l2 l3) f (0, M7)
def p_R_sharedHours_B105_16 (f : Nat) (l2 : Int) (l3 : Int) (l4 : Int) (l5 : Int) (M : oM) : Option ((Int × Int × oM) ⊕ (Int × oM)) :=
  let x1 : Int := w32 (l5 + 1)
  some (.inl (l4, x1, M))
def p_R_sharedHours_L16 (f : Nat) (l2 : Int) (l3 : Int) (t : Int × Int × oM) : Option ((Int × Int × oM) ⊕ (Int × oM)) :=
  let l4 : Int := t.1
  let l5 : Int := t.2.1
  let M : oM := t.2.2
  if l5 < ishl 1 l3 then ((p_R_hoursOf f l5 l3 M).bind fun q2 =>
  let M3 : oM := q2.2
  let r4 : Int := q2.1
  (p_R_hoursOf f (ixor l5 (-1)) l3 M3).bind fun q5 =>
  let M6 : oM := q5.2
  let r7 : Int := q5.1
  let x8 : Int := imax r4 r7
  if x8 < l4 then ((p_R_setShare f 43 l5 l3 M6).bind fun q9 =>
  let M10 : oM := q9.2
  (p_R_setShare f 44 (ixor l5 (-1)) l3 M10).bind fun q11 =>
  let M12 : oM := q11.2
  (p_R_isOneRow f 43 (M12 6 4) M12).bind fun q13 =>
  let M14 : oM := q13.2
  let r15 : Int := q13.1
  if r15 = 0 then (p_R_sharedHours_B105_16 f l2 l3 l4 l5 M14)
  else ((p_R_isOneRow f 44 l2 M14).bind fun q16 =>
  let M17 : oM := q16.2
  let r18 : Int := q16.1
  if r18 = 0 then (p_R_sharedHours_B105_16 f l2 l3 l4 l5 M17)
  else (p_R_sharedHours_B105_16 f l2 l3 x8 l5 M17)))
  else (p_R_sharedHours_B105_16 f l2 l3 l4 l5 M6))
  else (some (.inr (l4, M)))
def p_R_sharedHours (f : Nat) (l2 : Int) (M : oM) : Option (Int × oM) :=
  (p_D_listCoins f 45 8  M).bind fun q19 =>
  let M20 : oM := q19.2
  let r21 : Int := q19.1
  iter (p_R_sharedHours_L16 f l2 r21) f (1000000, 0, M20)
def p_O_two (f : Nat) (l1 : Int) (M : oM) : Option (Int × oM) :=
  (p_P_has f l1 M).bind fun q1 =>
  let M2 : oM := q1.2
  let r3 : Int := q1.1
  if r3 = 0 then (some ((-1), M2))
  else (if M2 6 4 < 0 then (some ((-2), M2))
  else ((p_D_owedInAll f 6  M2).bind fun q4 =>
  let M5 : oM := q4.2
  let r6 : Int := q4.1
  if 8 < r6 then (some ((-3), M5))
  else ((p_R_sharedHours f l1 M5).bind fun q7 =>
  let M8 : oM := q7.2
  let r9 : Int := q7.1
  if r9 < 1000000 then (some (r9, M8))
  else (some ((-4), M8)))))
def p_O_commonDivisor_L7 (f : Nat) (t : Int × Int × Int × oM) : Option ((Int × Int × Int × oM) ⊕ (Int × oM)) :=
  let l2 : Int := t.1
  let l3 : Int := t.2.1
  let l4 : Int := t.2.2.1
  let M : oM := t.2.2.2
  if l4 < 64 then (if l3 = 0 then (some (.inr (l2, M)))
  else (nz l3 fun z1 =>
  let x2 : Int := Int.tmod l2 z1
  let x3 : Int := w32 (l4 + 1)
  some (.inl (l3, x2, x3, M))))
  else (some (.inr (l2, M)))
def p_O_commonDivisor (f : Nat) (l0 : Int) (l1 : Int) (M : oM) : Option (Int × oM) :=
  iter (p_O_commonDivisor_L7 f) f (l0, l1, 0, M)
def p_O_dry_L46 (f : Nat) (l1 : Int) (l2 : Int) (l3 : Int) (t : Int × Int × Int × oM) : Option ((Int × Int × Int × oM) ⊕ (Int × oM)) :=
  let l4 : Int := t.1
  let l5 : Int := t.2.1
  let l6 : Int := t.2.2.1
  let M : oM := t.2.2.2
  if l6 < l1 then (let x6 : Int := w32 (l4 * (w32 (10 - l3)))
  let x7 : Int := w32 (l5 * 10)
  let x8 : Int := w32 (l6 + 1)
  some (.inl (x6, x7, x8, M)))
  else ((p_O_commonDivisor f l4 l5 M).bind fun q1 =>
  let M2 : oM := q1.2
  let r3 : Int := q1.1
  if 0 < r3 then (if l2 = 0 then (nz r3 fun z5 =>
  some (.inr (w32 (Int.tdiv l4 z5), M2)))
  else (nz r3 fun z4 =>
  some (.inr (w32 (Int.tdiv l5 z4), M2))))
  else (some (.inr ((-1), M2))))
def p_O_dry_B22 (f : Nat) (l1 : Int) (l2 : Int) (M : oM) : Option (Int × oM) :=
  (p_L_rain f (M 6 9) M).bind fun q9 =>
  let M10 : oM := q9.2
  let r11 : Int := q9.1
  iter (p_O_dry_L46 f l1 l2 r11) f (1, 1, 0, M10)
def p_O_dry (f : Nat) (l1 : Int) (l2 : Int) (M : oM) : Option (Int × oM) :=
  if l1 < 1 then (some ((-1), M))
  else (if 9 < l1 then (some ((-1), M))
  else (if l2 = 0 then (p_O_dry_B22 f l1 l2 M)
  else (if l2 = 1 then (p_O_dry_B22 f l1 l2 M)
  else (some ((-1), M)))))
def p_O_seed (f : Nat) (l1 : Int) (M : oM) : Option (Int × oM) :=
  if l1 < 0 then (some (0, M))
  else (if 65535 < l1 then (some (0, M))
  else (let M1 : oM := oU M 6 11 l1
  some (1, M1)))
def p_O_keep (f : Nat) (M : oM) : Option (Int × oM) :=
  (p_D_takeFrom f 10 6  M).bind fun q1 =>
  let M2 : oM := q1.2
  let M3 : oM := oU M2 0 13 1
  (p_D_owedInAll f 6  M3).bind fun q4 =>
  let M5 : oM := q4.2
  let r6 : Int := q4.1
  some (r6, M5)
def p_O_undo (f : Nat) (M : oM) : Option (Int × oM) :=
  if M 0 13 = 0 then (bnd 2 (M 0 13) fun b1 => some (b1, M))
  else ((p_D_takeFrom f 6 10  M).bind fun q2 =>
  let M3 : oM := q2.2
  bnd 2 (M3 0 13) fun b4 => some (b4, M3))
def p_O_check_B70_21 (f : Nat) (l2 : Int) (M : oM) : Option ((Int × Int × oM) ⊕ (Int × oM)) :=
  (p_T_clear f  M).bind fun q1 =>
  let M2 : oM := q1.2
  some (.inr (l2, M2))
def p_O_check_B57_21 (f : Nat) (l1 : Int) (l2 : Int) (l3 : Int) (M : oM) : Option ((Int × Int × oM) ⊕ (Int × oM)) :=
  (p_T_step f  M).bind fun q3 =>
  let M4 : oM := q3.2
  let x5 : Int := w32 (l3 + 1)
  some (.inl (l2, x5, M4))
def p_O_check_L21 (f : Nat) (l1 : Int) (t : Int × Int × oM) : Option ((Int × Int × oM) ⊕ (Int × oM)) :=
  let l2 : Int := t.1
  let l3 : Int := t.2.1
  let M : oM := t.2.2
  if l3 < l1 then (if l2 = (-1) then ((p_T_next f  M).bind fun q6 =>
  let M7 : oM := q6.2
  let r8 : Int := q6.1
  (p_D_owedBy f 6 l3 M7).bind fun q9 =>
  let M10 : oM := q9.2
  let r11 : Int := q9.1
  if r8 = imin r11 255 then (p_O_check_B57_21 f l1 l2 l3 M10)
  else (p_O_check_B57_21 f l1 l3 l3 M10))
  else (p_O_check_B70_21 f l2 M))
  else (p_O_check_B70_21 f l2 M)
def p_O_check (f : Nat) (l1 : Int) (M : oM) : Option (Int × oM) :=
  (p_T_opens f l1 0 10 M).bind fun q12 =>
  let M13 : oM := q12.2
  let r14 : Int := q12.1
  if r14 = 0 then (some ((-2), M13))
  else (iter (p_O_check_L21 f l1) f ((-1), 0, M13))
def p_O_count (f : Nat) (l1 : Int) (M : oM) : Option (Int × oM) :=
  if l1 = 0 then (some (M 3 2, M))
  else (if l1 = 1 then ((p_D_owedInAll f 6  M).bind fun q1 =>
  let M2 : oM := q1.2
  let r3 : Int := q1.1
  some (r3, M2))
  else (if l1 = 2 then (if M 6 4 < 0 then (some ((-2), M))
  else (some (M 6 4, M)))
  else (if l1 = 3 then (if 0 < M 6 7 then (some (M 6 6, M))
  else (some ((-2), M)))
  else (if l1 = 4 then (some (M 6 7, M))
  else (if l1 = 5 then (some (M 6 8, M))
  else (if l1 = 6 then (some (M 6 9, M))
  else (if l1 = 7 then (if M 6 10 = 0 then (some (0, M))
  else (some (1, M)))
  else (if l1 = 8 then (some (M 6 3, M))
  else (if l1 = 9 then (some (M 18 10, M))
  else (if l1 = 10 then ((p_T_size f  M).bind fun q4 =>
  let M5 : oM := q4.2
  let r6 : Int := q4.1
  some (r6, M5))
  else (if l1 = 11 then (some (M 6 11, M))
  else (some ((-1), M)))))))))))))
end
