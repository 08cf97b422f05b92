/-! the class's methods as functions (by program out of the bytecode) -/
noncomputable section
def p_O_isOne (f : Nat) (l0 : Int) (M : oM) : Option (Int × oM) :=
  if l0 < 0 then (some (0, M))
  else (if l0 < 10 then (some (1, M))
  else (some (0, M)))
def p_P_settle (f : Nat) (l1 : Int) (l2 : Int) (l3 : Int) (M : oM) : Option (Int × oM) :=
  bnd 10 l1 fun i1 =>
  lt (oU M 4 i1 l2) fun M2 =>
  bnd 10 l1 fun i3 =>
  lt (oU M2 5 i3 l3) fun M4 =>
  lt (oU M4 3 2 (ior (M4 3 2) (ishl 1 l1))) fun M5 =>
  some (0, M5)
def p_O_person (f : Nat) (l1 : Int) (l2 : Int) (l3 : Int) (M : oM) : Option (Int × oM) :=
  (p_O_isOne f l1 M).bind fun q1 =>
  if q1.1 = 0 then (some (0, q1.2))
  else (if l2 < 0 then (some (0, q1.2))
  else (if l2 < 10 then (if l3 < 0 then (some (0, q1.2))
  else (if l3 < 10 then ((p_P_settle f l1 l2 l3 q1.2).bind fun q2 =>
  some (1, q2.2))
  else (some (0, q1.2))))
  else (some (0, q1.2))))
def p_P_has (f : Nat) (l1 : Int) (M : oM) : Option (Int × oM) :=
  (p_O_isOne f l1 M).bind fun q1 =>
  if q1.1 = 0 then (some (0, q1.2))
  else (if iand (ishr (q1.2 3 2) l1) 1 = 1 then (some (1, q1.2))
  else (some (0, q1.2)))
def p_P_hasBoth (f : Nat) (l1 : Int) (l2 : Int) (M : oM) : Option (Int × oM) :=
  if l1 = l2 then (some (0, M))
  else ((p_P_has f l1 M).bind fun q1 =>
  if q1.1 = 0 then (some (0, q1.2))
  else ((p_P_has f l2 q1.2).bind fun q2 =>
  if q2.1 = 0 then (some (0, q2.2))
  else (some (1, q2.2))))
def p_O_debt (f : Nat) (l1 : Int) (l2 : Int) (l3 : Int) (M : oM) : Option (Int × oM) :=
  (p_P_hasBoth f l1 l2 M).bind fun q1 =>
  if q1.1 = 0 then (some (0, q1.2))
  else (if l3 < 0 then (some (0, q1.2))
  else (if 99 < l3 then (some (0, q1.2))
  else (bnd 100 (w32 ((w32 (l1 * 10)) + l2)) fun i2 =>
  lt (oU q1.2 7 i2 l3) fun M3 =>
  some (1, M3))))
def p_D_giveTo (f : Nat) (o0 : Nat) (l1 : Int) (M : oM) : Option (Int × oM) :=
  lt (oU M o0 4 l1) fun M1 =>
  lt (oU M1 o0 5 (-1)) fun M2 =>
  lt (oU M2 o0 6 (-1)) fun M3 =>
  lt (oU M3 o0 7 0) fun M4 =>
  some (0, M4)
def p_O_coin (f : Nat) (l1 : Int) (M : oM) : Option (Int × oM) :=
  (p_P_has f l1 M).bind fun q1 =>
  if q1.1 = 0 then (some (0, q1.2))
  else ((p_D_giveTo f 6 l1 q1.2).bind fun q2 =>
  some (1, q2.2))
def p_T_add_L3 (f : Nat) (l1 : Int) : Int × oM → Option ((Int × oM) ⊕ (Int × oM))
  | (l2, M) =>
  if l2 < 0 then (some (.inr (0, M)))
  else (if M 1 1 < 260 then (bnd 260 (M 1 1) fun i1 =>
  lt (oU M 2 i1 (iand (iushr l1 l2) 255)) fun M2 =>
  lt (oU M2 1 1 (w32 ((M2 1 1) + 1))) fun M3 =>
  lt (w32 (l2 + (-8))) fun x4 =>
  some (.inl (x4, M3)))
  else (some (.inr (0, M))))
def p_T_add (f : Nat) (l1 : Int) (M : oM) : Option (Int × oM) :=
  iter (p_T_add_L3 f l1) f (24, M)
def p_T_size (f : Nat) (M : oM) : Option (Int × oM) :=
  some (M 1 1, M)
def p_O_feed (f : Nat) (l1 : Int) (l2 : Int) (l3 : Int) (l4 : Int) (l5 : Int) (M : oM) : Option (Int × oM) :=
  (p_T_size f  M).bind fun q1 =>
  if 260 < w32 (q1.1 + 20) then (some ((-1), q1.2))
  else ((p_T_add f l1 q1.2).bind fun q2 =>
  (p_T_add f l2 q2.2).bind fun q3 =>
  (p_T_add f l3 q3.2).bind fun q4 =>
  (p_T_add f l4 q4.2).bind fun q5 =>
  (p_T_add f l5 q5.2).bind fun q6 =>
  (p_T_size f  q6.2).bind fun q7 =>
  some (q7.1, q7.2))
def p_L_takeFrom (f : Nat) (M : oM) : Option (Int × oM) :=
  cpg 240 240 0 0 240 fun _ =>
  lt (acopy M 28 0 19 0 240) fun M1 =>
  cpg 240 240 0 0 240 fun _ =>
  lt (acopy M1 29 0 20 0 240) fun M2 =>
  cpg 16 16 0 0 16 fun _ =>
  lt (acopy M2 30 0 21 0 16) fun M3 =>
  cpg 16 16 0 0 16 fun _ =>
  lt (acopy M3 31 0 22 0 16) fun M4 =>
  cpg 16 16 0 0 16 fun _ =>
  lt (acopy M4 32 0 23 0 16) fun M5 =>
  cpg 16 16 0 0 16 fun _ =>
  lt (acopy M5 33 0 24 0 16) fun M6 =>
  lt (oU M6 18 9 (M6 27 9)) fun M7 =>
  lt (oU M7 18 10 (M7 27 10)) fun M8 =>
  some (0, M8)
def p_L_landHere (f : Nat) (l1 : Int) (M : oM) : Option (Int × oM) :=
  if l1 < 0 then (some (0, M))
  else (if l1 < M 27 9 then (bnd 240 l1 fun i1 =>
  lt (oU M 29 i1 (M 27 9)) fun M2 =>
  some (0, M2))
  else (some (0, M)))
def p_L_put (f : Nat) (l1 : Int) (l2 : Int) (M : oM) : Option (Int × oM) :=
  if M 27 9 < 240 then (bnd 240 (M 27 9) fun i1 =>
  lt (oU M 28 i1 l1) fun M2 =>
  bnd 240 (M2 27 9) fun i3 =>
  lt (oU M2 29 i3 l2) fun M4 =>
  lt (oU M4 27 9 (w32 ((M4 27 9) + 1))) fun M5 =>
  some (w32 ((M5 27 9) - 1), M5))
  else (some ((-1), M))
def p_T_faultAt (f : Nat) (l1 : Int) (l2 : Int) (M : oM) : Option (Int × oM) :=
  some (w32 ((w32 ((-1000) * l1)) - l2), M)
def p_T_fault (f : Nat) (l1 : Int) (M : oM) : Option (Int × oM) :=
  (p_T_faultAt f l1 (M 1 3) M).bind fun q1 =>
  some (q1.1, q1.2)
def p_T_next (f : Nat) (M : oM) : Option (Int × oM) :=
  some (M 1 4, M)
def p_T_nextIsDigit (f : Nat) (M : oM) : Option (Int × oM) :=
  if M 1 4 < 48 then (some (0, M))
  else (if 57 < M 1 4 then (some (0, M))
  else (some (1, M)))
def p_T_step (f : Nat) (M : oM) : Option (Int × oM) :=
  lt (oU M 1 3 (w32 ((M 1 3) + 1))) fun M1 =>
  if M1 1 3 < 0 then (lt (oU M1 1 4 (-1)) fun M2 =>
  some (0, M2))
  else (if M1 1 3 < M1 1 2 then (if M1 1 3 < 260 then (bnd 260 (M1 1 3) fun i5 =>
  lt (oU M1 1 4 (M1 2 i5)) fun M6 =>
  some (0, M6))
  else (lt (oU M1 1 4 (-1)) fun M4 =>
  some (0, M4)))
  else (lt (oU M1 1 4 (-1)) fun M3 =>
  some (0, M3)))
def p_LR_readDigits_B48_4 (f : Nat) (l1 : Int) (M : oM) : Option ((Int × Int × oM) ⊕ (Int × oM)) :=
  (p_T_nextIsDigit f  M).bind fun q1 =>
  if q1.1 = 0 then ((p_L_put f 48 l1 q1.2).bind fun q2 =>
  some (.inr (0, q2.2)))
  else ((p_T_fault f 2 q1.2).bind fun q3 =>
  some (.inr (q3.1, q3.2)))
def p_LR_readDigits_L4 (f : Nat) : Int × Int × oM → Option ((Int × Int × oM) ⊕ (Int × oM))
  | (l1, l2, M) =>
  if l2 < 5 then ((p_T_nextIsDigit f  M).bind fun q4 =>
  if q4.1 = 0 then (p_LR_readDigits_B48_4 f l1 q4.2)
  else ((p_T_next f  q4.2).bind fun q5 =>
  lt (w32 ((w32 ((w32 (l1 * 10)) + q5.1)) - 48)) fun x6 =>
  (p_T_step f  q5.2).bind fun q7 =>
  lt (w32 (l2 + 1)) fun x8 =>
  some (.inl (x6, x8, q7.2))))
  else (p_LR_readDigits_B48_4 f l1 M)
def p_LR_readDigits (f : Nat) (M : oM) : Option (Int × oM) :=
  iter (p_LR_readDigits_L4 f) f (0, 0, M)
def p_JS_isLatin1 (f : Nat) (M : oM) : Option (Int × oM) :=
  if (1 : Int) = 0 then (some (0, M))
  else (if (0 : Int) = 0 then (some (1, M))
  else (some (0, M)))
def p_JS_coder (f : Nat) (M : oM) : Option (Int × oM) :=
  if (1 : Int) = 0 then (some (1, M))
  else (some (0, M))
def p_JS_length (f : Nat) (M : oM) : Option (Int × oM) :=
  (p_JS_coder f  M).bind fun q1 =>
  some (ishr 8 q1.1, q1.2)
def p_JL_canEncode (f : Nat) (l0 : Int) (M : oM) : Option (Int × oM) :=
  if l0 < 0 then (some (0, M))
  else (if 255 < l0 then (some (0, M))
  else (some (1, M)))
def p_JL_indexOfChar_L7 (f : Nat) (l3 : Int) (l4 : Int) : Int × oM → Option ((Int × oM) ⊕ (Int × oM))
  | (l5, M) =>
  if l5 < l3 then (bnd 8 l5 fun i1 =>
  if tx8 i1 = l4 then (some (.inr (l5, M)))
  else (lt (w32 (l5 + 1)) fun x2 =>
  some (.inl (x2, M))))
  else (some (.inr ((-1), M)))
def p_JL_indexOfChar (f : Nat) (l1 : Int) (l2 : Int) (l3 : Int) (M : oM) : Option (Int × oM) :=
  lt (i2b l1) fun x3 =>
  iter (p_JL_indexOfChar_L7 f l3 x3) f (l2, M)
def p_JL_indexOf (f : Nat) (l1 : Int) (l2 : Int) (l3 : Int) (M : oM) : Option (Int × oM) :=
  (p_JL_canEncode f l1 M).bind fun q1 =>
  if q1.1 = 0 then (some ((-1), q1.2))
  else (lt (imax l2 0) fun x2 =>
  lt (imin l3 8) fun x3 =>
  if x2 < x3 then ((p_JL_indexOfChar f l1 x2 x3 q1.2).bind fun q4 =>
  some (q4.1, q4.2))
  else (some ((-1), q1.2)))
def p_JS_indexOf2 (f : Nat) (l1 : Int) (l2 : Int) (M : oM) : Option (Int × oM) :=
  (p_JS_isLatin1 f  M).bind fun q1 =>
  if q1.1 = 0 then (none)
  else ((p_JS_length f  q1.2).bind fun q2 =>
  (p_JL_indexOf f l1 l2 q2.1 q2.2).bind fun q3 =>
  some (q3.1, q3.2))
def p_JS_indexOf (f : Nat) (l1 : Int) (M : oM) : Option (Int × oM) :=
  (p_JS_indexOf2 f l1 0 M).bind fun q1 =>
  some (q1.1, q1.2)
def p_LR_readFactor_B111 (f : Nat) (rec : Int → oM → Option (Int × oM)) (s0 : Int) (M : oM) : Option (Int × oM) :=
  if s0 < 0 then ((p_T_fault f 1 M).bind fun q3 =>
  some (q3.1, q3.2))
  else ((p_L_put f 97 s0 M).bind fun q1 =>
  (p_T_step f  q1.2).bind fun q2 =>
  some (0, q2.2))
def p_LR_readFactor_F (f : Nat) (rec : Int → oM → Option (Int × oM)) (l1 : Int) (M : oM) : Option (Int × oM) :=
  (p_T_next f  M).bind fun q4 =>
  if q4.1 = 91 then (if l1 < 6 then ((p_T_step f  q4.2).bind fun q8 =>
  (rec (w32 (l1 + 1)) q8.2).bind fun q9 =>
  if q9.1 = 0 then ((p_T_next f  q9.2).bind fun q10 =>
  if q10.1 = 93 then ((p_T_step f  q10.2).bind fun q11 =>
  some (0, q11.2))
  else ((p_T_fault f 1 q10.2).bind fun q12 =>
  some (q12.1, q12.2)))
  else (some (q9.1, q9.2)))
  else ((p_T_fault f 5 q4.2).bind fun q13 =>
  some (q13.1, q13.2)))
  else ((p_T_nextIsDigit f  q4.2).bind fun q5 =>
  if q5.1 = 0 then (if q4.1 = (-1) then (p_LR_readFactor_B111 f rec (-1) q5.2)
  else ((p_JS_indexOf f (i2c q4.1) q5.2).bind fun q6 =>
  p_LR_readFactor_B111 f rec q6.1 q6.2))
  else ((p_LR_readDigits f  q5.2).bind fun q7 =>
  some (q7.1, q7.2)))
def p_LR_readNumber_B117_7 (f : Nat) (rec : Int → oM → Option (Int × oM)) (l1 : Int) (l2 : Int) (l3 : Int) (l4 : Int) (M : oM) : Option ((Int × Int × Int × oM) ⊕ (Int × oM)) :=
  (p_T_step f  M).bind fun q1 =>
  lt (w32 (l4 + 1)) fun x2 =>
  some (.inl (l2, l3, x2, q1.2))
def p_LR_readNumber_B77_7 (f : Nat) (rec : Int → oM → Option (Int × oM)) (l1 : Int) (l3 : Int) (l4 : Int) (l6 : Int) (M : oM) : Option ((Int × Int × Int × oM) ⊕ (Int × oM)) :=
  p_LR_readNumber_B117_7 f rec l1 l6 l3 l4 M
def p_LR_readNumber_B114_7 (f : Nat) (rec : Int → oM → Option (Int × oM)) (l1 : Int) (l2 : Int) (l4 : Int) (l6 : Int) (M : oM) : Option ((Int × Int × Int × oM) ⊕ (Int × oM)) :=
  p_LR_readNumber_B117_7 f rec l1 l2 l6 l4 M
def p_LR_readNumber_B98_7 (f : Nat) (rec : Int → oM → Option (Int × oM)) (l1 : Int) (l2 : Int) (l4 : Int) (l6 : Int) (M : oM) : Option ((Int × Int × Int × oM) ⊕ (Int × oM)) :=
  if l6 = 43 then (p_LR_readNumber_B114_7 f rec l1 l2 l4 l6 M)
  else (if l6 = 45 then (p_LR_readNumber_B114_7 f rec l1 l2 l4 l6 M)
  else (some (.inr (0, M))))
def p_LR_readNumber_B47_7 (f : Nat) (rec : Int → oM → Option (Int × oM)) (l1 : Int) (l2 : Int) (l3 : Int) (l4 : Int) (M : oM) : Option ((Int × Int × Int × oM) ⊕ (Int × oM)) :=
  (p_T_next f  M).bind fun q3 =>
  if q3.1 = 42 then (p_LR_readNumber_B77_7 f rec l1 l3 l4 q3.1 q3.2)
  else (if q3.1 = 47 then (p_LR_readNumber_B77_7 f rec l1 l3 l4 q3.1 q3.2)
  else (if q3.1 = 37 then (p_LR_readNumber_B77_7 f rec l1 l3 l4 q3.1 q3.2)
  else (if l3 = (-1) then (p_LR_readNumber_B98_7 f rec l1 l2 l4 q3.1 q3.2)
  else ((p_L_put f l3 0 q3.2).bind fun q4 =>
  p_LR_readNumber_B98_7 f rec l1 l2 l4 q3.1 q4.2))))
def p_LR_readNumber_L7 (f : Nat) (rec : Int → oM → Option (Int × oM)) (l1 : Int) : Int × Int × Int × oM → Option ((Int × Int × Int × oM) ⊕ (Int × oM))
  | (l2, l3, l4, M) =>
  if l4 < 240 then ((p_LR_readFactor_F f rec l1 M).bind fun q6 =>
  if q6.1 = 0 then (if l2 = (-1) then (p_LR_readNumber_B47_7 f rec l1 l2 l3 l4 q6.2)
  else ((p_L_put f l2 0 q6.2).bind fun q7 =>
  p_LR_readNumber_B47_7 f rec l1 (-1) l3 l4 q7.2))
  else (some (.inr (q6.1, q6.2))))
  else ((p_T_fault f 1 M).bind fun q5 =>
  some (.inr (q5.1, q5.2)))
def p_LR_readNumber_F (f : Nat) (rec : Int → oM → Option (Int × oM)) (l1 : Int) (M : oM) : Option (Int × oM) :=
  iter (p_LR_readNumber_L7 f rec l1) f ((-1), (-1), 0, M)
def p_LR_readNumber (f : Nat) : Nat → Int → oM → Option (Int × oM)
  | 0, _, _ => none
  | n + 1, l1, M => p_LR_readNumber_F f (p_LR_readNumber f n) l1 M
def p_LR_readPlainTest_B89 (f : Nat) (rec : Int → oM → Option (Int × oM)) (l1 : Int) (l3 : Int) (M : oM) : Option (Int × oM) :=
  (p_T_step f  M).bind fun q1 =>
  (p_LR_readNumber f 9 l1 q1.2).bind fun q2 =>
  (p_L_put f l3 0 q2.2).bind fun q3 =>
  some (q2.1, q3.2)
def p_LR_readPlainTest_F (f : Nat) (rec : Int → oM → Option (Int × oM)) (l1 : Int) (M : oM) : Option (Int × oM) :=
  (p_T_next f  M).bind fun q4 =>
  if q4.1 = 40 then (if l1 < 6 then ((p_T_step f  q4.2).bind fun q8 =>
  (rec (w32 (l1 + 1)) q8.2).bind fun q9 =>
  some (q9.1, q9.2))
  else ((p_T_fault f 5 q4.2).bind fun q10 =>
  some (q10.1, q10.2)))
  else ((p_LR_readNumber f 9 l1 q4.2).bind fun q5 =>
  if q5.1 = 0 then ((p_T_next f  q5.2).bind fun q6 =>
  if q6.1 = 60 then (p_LR_readPlainTest_B89 f rec l1 q6.1 q6.2)
  else (if q6.1 = 62 then (p_LR_readPlainTest_B89 f rec l1 q6.1 q6.2)
  else (if q6.1 = 61 then (p_LR_readPlainTest_B89 f rec l1 q6.1 q6.2)
  else ((p_T_fault f 1 q6.2).bind fun q7 =>
  some (q7.1, q7.2)))))
  else (some (q5.1, q5.2)))
def p_LR_readTest_L67 (f : Nat) (rec : Int → oM → Option (Int × oM)) (l2 : Int) (l3 : Int) : Int × oM → Option ((Int × oM) ⊕ (Int × oM))
  | (l4, M) =>
  if l4 < l2 then ((p_L_put f 33 0 M).bind fun q1 =>
  lt (w32 (l4 + 1)) fun x2 =>
  some (.inl (x2, q1.2)))
  else (some (.inr (l3, M)))
def p_LR_readTest_X4 (f : Nat) (rec : Int → oM → Option (Int × oM)) (l1 : Int) : (Int × oM) ⊕ (Int × oM) → Option (Int × oM)
  | .inl q => some q
  | .inr (l2, M) =>
  (p_LR_readPlainTest_F f rec (w32 (l1 + l2)) M).bind fun q3 =>
  iter (p_LR_readTest_L67 f rec l2 q3.1) f (0, q3.2)
def p_LR_readTest_L4 (f : Nat) (rec : Int → oM → Option (Int × oM)) (l1 : Int) : Int × Int × oM → Option ((Int × Int × oM) ⊕ ((Int × oM) ⊕ (Int × oM)))
  | (l2, l3, M) =>
  if l3 < 240 then ((p_T_next f  M).bind fun q4 =>
  if q4.1 = 33 then (if w32 (l1 + l2) < 6 then (lt (w32 (l2 + 1)) fun x5 =>
  (p_T_step f  q4.2).bind fun q6 =>
  lt (w32 (l3 + 1)) fun x7 =>
  some (.inl (x5, x7, q6.2)))
  else ((p_T_fault f 5 q4.2).bind fun q8 =>
  some (.inr (.inl (q8.1, q8.2)))))
  else (some (.inr (.inr (l2, q4.2)))))
  else (some (.inr (.inr (l2, M))))
def p_LR_readTest_F (f : Nat) (rec : Int → oM → Option (Int × oM)) (l1 : Int) (M : oM) : Option (Int × oM) :=
  (iter (p_LR_readTest_L4 f rec l1) f (0, 0, M)).bind (p_LR_readTest_X4 f rec l1)
def p_LR_readCondition_B147_7 (f : Nat) (rec : Int → oM → Option (Int × oM)) (l1 : Int) (l2 : Int) (l3 : Int) (l4 : Int) (M : oM) : Option ((Int × Int × Int × oM) ⊕ (Int × oM)) :=
  lt (w32 (l4 + 1)) fun x1 =>
  some (.inl (l2, l3, x1, M))
def p_LR_readCondition_B69_7 (f : Nat) (rec : Int → oM → Option (Int × oM)) (l1 : Int) (l2 : Int) (l3 : Int) (l4 : Int) (l6 : Int) (M : oM) : Option ((Int × Int × Int × oM) ⊕ (Int × oM)) :=
  (p_T_step f  M).bind fun q2 =>
  (p_L_landHere f l2 q2.2).bind fun q3 =>
  if l6 = 38 then ((p_L_put f 38 (q3.2 27 9) q3.2).bind fun q6 =>
  p_LR_readCondition_B147_7 f rec l1 q6.1 l3 l4 q6.2)
  else ((p_L_landHere f l3 q3.2).bind fun q4 =>
  if l6 = 41 then (some (.inr (0, q4.2)))
  else ((p_L_put f 124 (q4.2 27 9) q4.2).bind fun q5 =>
  p_LR_readCondition_B147_7 f rec l1 (-1) q5.1 l4 q5.2))
def p_LR_readCondition_L7 (f : Nat) (rec : Int → oM → Option (Int × oM)) (l1 : Int) : Int × Int × Int × oM → Option ((Int × Int × Int × oM) ⊕ (Int × oM))
  | (l2, l3, l4, M) =>
  if l4 < 240 then ((p_LR_readTest_F f rec l1 M).bind fun q8 =>
  if q8.1 = 0 then ((p_T_next f  q8.2).bind fun q9 =>
  if q9.1 = 38 then (p_LR_readCondition_B69_7 f rec l1 l2 l3 l4 q9.1 q9.2)
  else (if q9.1 = 124 then (p_LR_readCondition_B69_7 f rec l1 l2 l3 l4 q9.1 q9.2)
  else (if q9.1 = 41 then (p_LR_readCondition_B69_7 f rec l1 l2 l3 l4 q9.1 q9.2)
  else ((p_T_fault f 1 q9.2).bind fun q10 =>
  some (.inr (q10.1, q10.2))))))
  else (some (.inr (q8.1, q8.2))))
  else ((p_T_fault f 1 M).bind fun q7 =>
  some (.inr (q7.1, q7.2)))
def p_LR_readCondition_F (f : Nat) (rec : Int → oM → Option (Int × oM)) (l1 : Int) (M : oM) : Option (Int × oM) :=
  iter (p_LR_readCondition_L7 f rec l1) f ((-1), (-1), 0, M)
def p_LR_readCondition (f : Nat) : Nat → Int → oM → Option (Int × oM)
  | 0, _, _ => none
  | n + 1, l1, M => p_LR_readCondition_F f (p_LR_readCondition f n) l1 M
def p_LR_readRule_B104 (f : Nat) (l1 : Int) (s0 : Int) (M : oM) : Option (Int × oM) :=
  if s0 = 0 then ((p_T_next f  M).bind fun q1 =>
  if q1.1 = 40 then ((p_T_step f  q1.2).bind fun q2 =>
  bnd 16 l1 fun i3 =>
  lt (oU q2.2 32 i3 (q2.2 27 9)) fun M4 =>
  (p_LR_readCondition f 9 1 M4).bind fun q5 =>
  if q5.1 = 0 then (bnd 16 l1 fun i6 =>
  lt (oU q5.2 33 i6 (q5.2 27 9)) fun M7 =>
  lt (oU M7 27 10 (w32 (l1 + 1))) fun M8 =>
  some (q5.1, M8))
  else (some (q5.1, q5.2)))
  else ((p_T_fault f 1 q1.2).bind fun q9 =>
  some (q9.1, q9.2)))
  else (some (s0, M))
def p_LR_readRule_B41 (f : Nat) (l1 : Int) (l2 : Int) (M : oM) : Option (Int × oM) :=
  if l1 < 16 then ((p_T_step f  M).bind fun q10 =>
  bnd 16 l1 fun i11 =>
  lt (oU q10.2 30 i11 l2) fun M12 =>
  bnd 16 l1 fun i13 =>
  lt (oU M12 31 i13 (M12 27 9)) fun M14 =>
  if l2 = 115 then (p_LR_readRule_B104 f l1 0 M14)
  else ((p_LR_readNumber f 9 0 M14).bind fun q15 =>
  p_LR_readRule_B104 f l1 q15.1 q15.2))
  else ((p_T_fault f 4 M).bind fun q16 =>
  some (q16.1, q16.2))
def p_LR_readRule (f : Nat) (l1 : Int) (M : oM) : Option (Int × oM) :=
  (p_T_next f  M).bind fun q17 =>
  if q17.1 = 101 then (p_LR_readRule_B41 f l1 q17.1 q17.2)
  else (if q17.1 = 105 then (p_LR_readRule_B41 f l1 q17.1 q17.2)
  else (if q17.1 = 114 then (p_LR_readRule_B41 f l1 q17.1 q17.2)
  else (if q17.1 = 115 then (p_LR_readRule_B41 f l1 q17.1 q17.2)
  else ((p_T_fault f 1 q17.2).bind fun q18 =>
  some (q18.1, q18.2)))))
def p_T_ended (f : Nat) (M : oM) : Option (Int × oM) :=
  if M 1 3 < M 1 2 then (some (0, M))
  else (some (1, M))
def p_LR_read_L18 (f : Nat) : Int × oM → Option ((Int × oM) ⊕ (Int × oM))
  | (l1, M) =>
  if 16 < l1 then ((p_T_fault f 4 M).bind fun q1 =>
  some (.inr (q1.1, q1.2)))
  else ((p_LR_readRule f l1 M).bind fun q2 =>
  if q2.1 = 0 then ((p_T_ended f  q2.2).bind fun q3 =>
  if q3.1 = 0 then ((p_T_next f  q3.2).bind fun q4 =>
  if q4.1 = 59 then ((p_T_step f  q4.2).bind fun q5 =>
  lt (w32 (l1 + 1)) fun x6 =>
  some (.inl (x6, q5.2)))
  else ((p_T_fault f 1 q4.2).bind fun q7 =>
  some (.inr (q7.1, q7.2))))
  else (some (.inr (q3.2 27 10, q3.2))))
  else (some (.inr (q2.1, q2.2))))
def p_LR_read (f : Nat) (M : oM) : Option (Int × oM) :=
  lt (oU M 27 9 0) fun M8 =>
  lt (oU M8 27 10 0) fun M9 =>
  iter (p_LR_read_L18 f) f (0, M9)
def p_T_clear (f : Nat) (M : oM) : Option (Int × oM) :=
  lt (oU M 1 1 0) fun M1 =>
  some (0, M1)
def p_T_opens (f : Nat) (l1 : Int) (l2 : Int) (l3 : Int) (M : oM) : Option (Int × oM) :=
  if l1 < l2 then (some (0, M))
  else (if l3 < l1 then (some (0, M))
  else (if M 1 1 < l1 then (some (0, M))
  else (lt (oU M 1 2 l1) fun M1 =>
  lt (oU M1 1 3 (-1)) fun M2 =>
  (p_T_step f  M2).bind fun q3 =>
  some (1, q3.2))))
def p_O_law (f : Nat) (l1 : Int) (M : oM) : Option (Int × oM) :=
  (p_T_opens f l1 1 240 M).bind fun q1 =>
  if q1.1 = 0 then (some ((-1), q1.2))
  else ((p_LR_read f  q1.2).bind fun q2 =>
  (p_T_clear f  q2.2).bind fun q3 =>
  if 0 < q2.1 then ((p_L_takeFrom f  q3.2).bind fun q4 =>
  some (q2.1, q4.2))
  else (some (q2.1, q3.2)))
def p_T_place (f : Nat) (M : oM) : Option (Int × oM) :=
  some (M 1 3, M)
def p_DR_readMany_B72_27 (f : Nat) (l1 : Int) (l2 : Int) (l3 : Int) (M : oM) : Option ((Int × Int × oM) ⊕ (Int × oM)) :=
  if l3 = 0 then ((p_T_faultAt f 3 l2 M).bind fun q4 =>
  some (.inr (q4.1, q4.2)))
  else (bnd 100 l1 fun i1 =>
  bnd 100 l1 fun i2 =>
  lt (oU M 38 i2 (imin 99 (w32 ((M 38 i1) + l3)))) fun M3 =>
  some (.inr (0, M3)))
def p_DR_readMany_L27 (f : Nat) (l1 : Int) (l2 : Int) : Int × Int × oM → Option ((Int × Int × oM) ⊕ (Int × oM))
  | (l3, l4, M) =>
  if l4 < 2 then ((p_T_nextIsDigit f  M).bind fun q5 =>
  if q5.1 = 0 then (p_DR_readMany_B72_27 f l1 l2 l3 q5.2)
  else ((p_T_next f  q5.2).bind fun q6 =>
  lt (w32 ((w32 ((w32 (l3 * 10)) + q6.1)) - 48)) fun x7 =>
  (p_T_step f  q6.2).bind fun q8 =>
  lt (w32 (l4 + 1)) fun x9 =>
  some (.inl (x7, x9, q8.2))))
  else (p_DR_readMany_B72_27 f l1 l2 l3 M)
def p_DR_readMany_B23 (f : Nat) (l1 : Int) (l2 : Int) (s0 : Int) (M : oM) : Option (Int × oM) :=
  iter (p_DR_readMany_L27 f l1 l2) f (s0, 0, M)
def p_DR_readMany (f : Nat) (l1 : Int) (M : oM) : Option (Int × oM) :=
  (p_T_place f  M).bind fun q10 =>
  (p_T_nextIsDigit f  q10.2).bind fun q11 =>
  if q11.1 = 0 then (p_DR_readMany_B23 f l1 q10.1 1 q11.2)
  else (p_DR_readMany_B23 f l1 q10.1 0 q11.2)
def p_T_nextOne (f : Nat) (M : oM) : Option (Int × oM) :=
  lt (w32 ((M 1 4) - 97)) fun x1 =>
  (p_O_isOne f x1 M).bind fun q2 =>
  if q2.1 = 0 then (some ((-1), q2.2))
  else (some (x1, q2.2))
def p_DR_readLine (f : Nat) (l1 : Int) (M : oM) : Option (Int × oM) :=
  (p_T_nextOne f  M).bind fun q1 =>
  if q1.1 < 0 then ((p_T_fault f 1 q1.2).bind fun q16 =>
  some (q16.1, q16.2))
  else (if l1 < 30 then ((p_P_has f q1.1 q1.2).bind fun q2 =>
  if q2.1 = 0 then ((p_T_fault f 7 q2.2).bind fun q14 =>
  some (q14.1, q14.2))
  else ((p_T_step f  q2.2).bind fun q3 =>
  (p_T_next f  q3.2).bind fun q4 =>
  if q4.1 = 62 then ((p_T_step f  q4.2).bind fun q5 =>
  (p_T_nextOne f  q5.2).bind fun q6 =>
  if q6.1 < 0 then ((p_T_fault f 1 q6.2).bind fun q12 =>
  some (q12.1, q12.2))
  else ((p_P_has f q6.1 q6.2).bind fun q7 =>
  if q7.1 = 0 then ((p_T_fault f 7 q7.2).bind fun q11 =>
  some (q11.1, q11.2))
  else (if q6.1 = q1.1 then ((p_T_fault f 6 q7.2).bind fun q10 =>
  some (q10.1, q10.2))
  else ((p_T_step f  q7.2).bind fun q8 =>
  (p_DR_readMany f (w32 ((w32 (q1.1 * 10)) + q6.1)) q8.2).bind fun q9 =>
  some (q9.1, q9.2)))))
  else ((p_T_fault f 1 q4.2).bind fun q13 =>
  some (q13.1, q13.2))))
  else ((p_T_fault f 4 q1.2).bind fun q15 =>
  some (q15.1, q15.2)))
def p_JA_fill_L5 (f : Nat) (o0 : Nat) (n0 : Int) (l1 : Int) (l3 : Int) : Int × oM → Option ((Int × oM) ⊕ (Int × oM))
  | (l2, M) =>
  if l2 < l3 then (bnd n0 l2 fun i1 =>
  lt (oU M o0 i1 l1) fun M2 =>
  lt (w32 (l2 + 1)) fun x3 =>
  some (.inl (x3, M2)))
  else (some (.inr (0, M)))
def p_JA_fill (f : Nat) (o0 : Nat) (n0 : Int) (l1 : Int) (M : oM) : Option (Int × oM) :=
  iter (p_JA_fill_L5 f o0 n0 l1 n0) f (0, M)
def p_DR_read_L10 (f : Nat) : Int × oM → Option ((Int × oM) ⊕ (Int × oM))
  | (l1, M) =>
  if 30 < l1 then ((p_T_fault f 4 M).bind fun q1 =>
  some (.inr (q1.1, q1.2)))
  else ((p_DR_readLine f l1 M).bind fun q2 =>
  if q2.1 = 0 then ((p_T_ended f  q2.2).bind fun q3 =>
  if q3.1 = 0 then ((p_T_next f  q3.2).bind fun q4 =>
  if q4.1 = 59 then ((p_T_step f  q4.2).bind fun q5 =>
  lt (w32 (l1 + 1)) fun x6 =>
  some (.inl (x6, q5.2)))
  else ((p_T_fault f 1 q4.2).bind fun q7 =>
  some (.inr (q7.1, q7.2))))
  else (some (.inr (q2.1, q3.2))))
  else (some (.inr (q2.1, q2.2))))
def p_DR_read (f : Nat) (M : oM) : Option (Int × oM) :=
  (p_JA_fill f 38 100 0 M).bind fun q8 =>
  iter (p_DR_read_L10 f) f (0, q8.2)
def p_D_owedInAll_L4 (f : Nat) (o0 : Nat) : Int × Int × oM → Option ((Int × Int × oM) ⊕ (Int × oM))
  | (l1, l2, M) =>
  if l2 < 100 then (bnd 100 l2 fun i1 =>
  lt (w32 (l1 + (M (o0 + 1) i1))) fun x2 =>
  lt (w32 (l2 + 1)) fun x3 =>
  some (.inl (x2, x3, M)))
  else (some (.inr (l1, M)))
def p_D_owedInAll (f : Nat) (o0 : Nat) (M : oM) : Option (Int × oM) :=
  iter (p_D_owedInAll_L4 f o0) f (0, 0, M)
def p_O_debts (f : Nat) (l1 : Int) (M : oM) : Option (Int × oM) :=
  (p_T_opens f l1 1 160 M).bind fun q1 =>
  if q1.1 = 0 then (some ((-1), q1.2))
  else ((p_DR_read f  q1.2).bind fun q2 =>
  (p_T_clear f  q2.2).bind fun q3 =>
  if q2.1 = 0 then (cpg 100 100 0 0 100 fun _ =>
  lt (acopy q3.2 38 0 7 0 100) fun M4 =>
  (p_D_owedInAll f 6  M4).bind fun q5 =>
  some (q5.1, q5.2))
  else (some (q2.1, q3.2)))
def p_O_areHours (f : Nat) (l0 : Int) (M : oM) : Option (Int × oM) :=
  if l0 < 1 then (some (0, M))
  else (if 240 < l0 then (some (0, M))
  else (some (1, M)))
def p_D_draw (f : Nat) (o0 : Nat) (M : oM) : Option (Int × oM) :=
  lt (oU M o0 11 (iand (w32 ((w32 (25173 * (M o0 11))) + 13849)) 65535)) fun M1 =>
  nz 10 fun z2 =>
  some (Int.tmod (M1 o0 11) z2, M1)
def p_L_joined (f : Nat) (l0 : Int) (l1 : Int) (l2 : Int) (M : oM) : Option (Int × oM) :=
  if l0 = 37 then (if l2 = 0 then (some (0, M))
  else (nz l2 fun z1 =>
  some (Int.tmod l1 z1, M)))
  else (if l0 = 42 then (some (w32 (l1 * l2), M))
  else (if l0 = 43 then (some (w32 (l1 + l2), M))
  else (if l0 = 45 then (some (w32 (l1 - l2), M))
  else (if l0 = 47 then (if l2 = 0 then (some (0, M))
  else (nz l2 fun z2 =>
  some (w32 (Int.tdiv l1 z2), M)))
  else (if l0 = 60 then (if l1 < l2 then (some (1, M))
  else (some (0, M)))
  else (if l0 = 62 then (if l2 < l1 then (some (1, M))
  else (some (0, M)))
  else (if l1 = l2 then (some (1, M))
  else (some (0, M)))))))))
def p_L_reckoned_B292_8 (f : Nat) (l3 : Int) (M : oM) : Option ((Int × Int × Int × oM) ⊕ (Int × oM)) :=
  if l3 = 1 then (bnd 64 0 fun i1 =>
  some (.inr (M 26 i1, M)))
  else (some (.inr (0, M)))
def p_L_reckoned_B286_8 (f : Nat) (l2 : Int) (l3 : Int) (l4 : Int) (l5 : Int) (M : oM) : Option ((Int × Int × Int × oM) ⊕ (Int × oM)) :=
  lt (w32 (l5 + 1)) fun x2 =>
  some (.inl (l3, l4, x2, M))
def p_L_reckoned_B105_8 (f : Nat) (l2 : Int) (l3 : Int) (l4 : Int) (l5 : Int) (s1 : Int) (s2 : Int) (M : oM) : Option ((Int × Int × Int × oM) ⊕ (Int × oM)) :=
  bnd 64 s1 fun i3 =>
  lt (oU M 26 i3 s2) fun M4 =>
  lt (w32 (l3 + 1)) fun x5 =>
  p_L_reckoned_B286_8 f l2 x5 l4 l5 M4
def p_L_reckoned_B70_8 (f : Nat) (l2 : Int) (l3 : Int) (l4 : Int) (l5 : Int) (l6 : Int) (l7 : Int) (M : oM) : Option ((Int × Int × Int × oM) ⊕ (Int × oM)) :=
  if l3 < 64 then (if l6 = 48 then (p_L_reckoned_B105_8 f l2 l3 l4 l5 l3 l7 M)
  else (bnd 8 (iand l7 7) fun i6 =>
  p_L_reckoned_B105_8 f l2 l3 l4 l5 l3 (M 25 i6) M))
  else (some (.inr (0, M)))
def p_L_reckoned_B196_8 (f : Nat) (l2 : Int) (l3 : Int) (l4 : Int) (l5 : Int) (l7 : Int) (s0 : Int) (s1 : Int) (M : oM) : Option ((Int × Int × Int × oM) ⊕ (Int × oM)) :=
  if s0 = s1 then (p_L_reckoned_B286_8 f l2 l3 l7 l5 M)
  else (lt (w32 (l3 + (-1))) fun x7 =>
  p_L_reckoned_B286_8 f l2 x7 l4 l5 M)
def p_L_reckoned_B184_8 (f : Nat) (l2 : Int) (l3 : Int) (l4 : Int) (l5 : Int) (l6 : Int) (l7 : Int) (s0 : Int) (M : oM) : Option ((Int × Int × Int × oM) ⊕ (Int × oM)) :=
  if l6 = 124 then (p_L_reckoned_B196_8 f l2 l3 l4 l5 l7 s0 1 M)
  else (p_L_reckoned_B196_8 f l2 l3 l4 l5 l7 s0 0 M)
def p_L_reckoned_B133_8 (f : Nat) (l2 : Int) (l3 : Int) (l4 : Int) (l5 : Int) (l6 : Int) (l7 : Int) (M : oM) : Option ((Int × Int × Int × oM) ⊕ (Int × oM)) :=
  if l3 < 1 then (some (.inr (0, M)))
  else (if l6 = 33 then (bnd 64 (w32 (l3 - 1)) fun i9 =>
  bnd 64 (w32 (l3 - 1)) fun i10 =>
  lt (oU M 26 i10 (w32 (1 - (M 26 i9)))) fun M11 =>
  p_L_reckoned_B286_8 f l2 l3 l4 l5 M11)
  else (bnd 64 (w32 (l3 - 1)) fun i8 =>
  if M 26 i8 = 0 then (p_L_reckoned_B184_8 f l2 l3 l4 l5 l6 l7 0 M)
  else (p_L_reckoned_B184_8 f l2 l3 l4 l5 l6 l7 1 M)))
def p_L_reckoned_B256_8 (f : Nat) (l2 : Int) (l3 : Int) (l4 : Int) (l5 : Int) (l6 : Int) (M : oM) : Option ((Int × Int × Int × oM) ⊕ (Int × oM)) :=
  lt (w32 (l3 + (-1))) fun x12 =>
  bnd 64 (w32 (x12 - 1)) fun i13 =>
  bnd 64 x12 fun i14 =>
  (p_L_joined f l6 (M 26 i13) (M 26 i14) M).bind fun q15 =>
  bnd 64 (w32 (x12 - 1)) fun i16 =>
  lt (oU q15.2 26 i16 q15.1) fun M17 =>
  p_L_reckoned_B286_8 f l2 x12 l4 l5 M17
def p_L_reckoned_B231_8 (f : Nat) (l2 : Int) (l3 : Int) (l4 : Int) (l5 : Int) (l6 : Int) (s0 : Int) (M : oM) : Option ((Int × Int × Int × oM) ⊕ (Int × oM)) :=
  if l3 < 2 then (some (.inr (0, M)))
  else (if s0 = 0 then (p_L_reckoned_B256_8 f l2 l3 l4 l5 l6 M)
  else (bnd 64 (w32 (l3 - 1)) fun i18 =>
  if M 26 i18 = 0 then (some (.inr (0, M)))
  else (p_L_reckoned_B256_8 f l2 l3 l4 l5 l6 M)))
def p_L_reckoned_B226_8 (f : Nat) (l2 : Int) (l3 : Int) (l4 : Int) (l5 : Int) (l6 : Int) (M : oM) : Option ((Int × Int × Int × oM) ⊕ (Int × oM)) :=
  p_L_reckoned_B231_8 f l2 l3 l4 l5 l6 1 M
def p_L_reckoned_L8 (f : Nat) (l2 : Int) : Int × Int × Int × oM → Option ((Int × Int × Int × oM) ⊕ (Int × oM))
  | (l3, l4, l5, M) =>
  if l5 < 240 then (if l4 < 0 then (p_L_reckoned_B292_8 f l3 M)
  else (if l4 < l2 then (if l4 < 240 then (bnd 240 l4 fun i19 =>
  lt (M 19 i19) fun x20 =>
  bnd 240 l4 fun i21 =>
  lt (M 20 i21) fun x22 =>
  lt (w32 (l4 + 1)) fun x23 =>
  if x20 = 48 then (p_L_reckoned_B70_8 f l2 l3 x23 l5 x20 x22 M)
  else (if x20 = 97 then (p_L_reckoned_B70_8 f l2 l3 x23 l5 x20 x22 M)
  else (if x20 = 33 then (p_L_reckoned_B133_8 f l2 l3 x23 l5 x20 x22 M)
  else (if x20 = 38 then (p_L_reckoned_B133_8 f l2 l3 x23 l5 x20 x22 M)
  else (if x20 = 124 then (p_L_reckoned_B133_8 f l2 l3 x23 l5 x20 x22 M)
  else (if x20 = 47 then (p_L_reckoned_B226_8 f l2 l3 x23 l5 x20 M)
  else (if x20 = 37 then (p_L_reckoned_B226_8 f l2 l3 x23 l5 x20 M)
  else (p_L_reckoned_B231_8 f l2 l3 x23 l5 x20 0 M))))))))
  else (p_L_reckoned_B292_8 f l3 M))
  else (p_L_reckoned_B292_8 f l3 M)))
  else (p_L_reckoned_B292_8 f l3 M)
def p_L_reckoned (f : Nat) (l1 : Int) (l2 : Int) (M : oM) : Option (Int × oM) :=
  iter (p_L_reckoned_L8 f l2) f (0, l1, 0, M)
def p_L_firstOf_B74_2 (f : Nat) (l1 : Int) (l2 : Int) (l3 : Int) (M : oM) : Option ((Int × oM) ⊕ (Int × oM)) :=
  lt (w32 (l3 + 1)) fun x1 =>
  some (.inl (x1, M))
def p_L_firstOf_L2 (f : Nat) (l1 : Int) (l2 : Int) : Int × oM → Option ((Int × oM) ⊕ (Int × oM))
  | (l3, M) =>
  if l3 < M 18 10 then (if l3 < 16 then (bnd 16 l3 fun i2 =>
  if M 21 i2 = l1 then (bnd 16 l3 fun i3 =>
  bnd 16 l3 fun i4 =>
  (p_L_reckoned f (M 23 i3) (M 24 i4) M).bind fun q5 =>
  if q5.1 = 0 then (p_L_firstOf_B74_2 f l1 l2 l3 q5.2)
  else (bnd 16 l3 fun i6 =>
  bnd 16 l3 fun i7 =>
  (p_L_reckoned f (q5.2 22 i6) (q5.2 23 i7) q5.2).bind fun q8 =>
  some (.inr (imax 0 (imin l2 q8.1), q8.2))))
  else (p_L_firstOf_B74_2 f l1 l2 l3 M))
  else (some (.inr (0, M))))
  else (some (.inr (0, M)))
def p_L_firstOf (f : Nat) (l1 : Int) (l2 : Int) (M : oM) : Option (Int × oM) :=
  iter (p_L_firstOf_L2 f l1 l2) f (0, M)
def p_D_debtOf (f : Nat) (o0 : Nat) (l1 : Int) (l2 : Int) (M : oM) : Option (Int × oM) :=
  (p_O_isOne f l1 M).bind fun q1 =>
  if q1.1 = 0 then (some (0, q1.2))
  else ((p_O_isOne f l2 q1.2).bind fun q2 =>
  if q2.1 = 0 then (some (0, q2.2))
  else (bnd 100 (w32 ((w32 (l1 * 10)) + l2)) fun i3 =>
  some (q2.2 (o0 + 1) i3, q2.2)))
def p_D_owedBy_L4 (f : Nat) (o0 : Nat) (l1 : Int) : Int × Int × oM → Option ((Int × Int × oM) ⊕ (Int × oM))
  | (l2, l3, M) =>
  if l3 < 10 then (bnd 100 (w32 ((w32 (l1 * 10)) + l3)) fun i1 =>
  lt (w32 (l2 + (M (o0 + 1) i1))) fun x2 =>
  lt (w32 (l3 + 1)) fun x3 =>
  some (.inl (x2, x3, M)))
  else (some (.inr (l2, M)))
def p_D_owedBy (f : Nat) (o0 : Nat) (l1 : Int) (M : oM) : Option (Int × oM) :=
  iter (p_D_owedBy_L4 f o0 l1) f (0, 0, M)
def p_D_timesChalked_B31_4 (f : Nat) (o0 : Nat) (l1 : Int) (l2 : Int) (l3 : Int) (M : oM) : Option ((Int × Int × oM) ⊕ (Int × oM)) :=
  lt (w32 (l3 + 1)) fun x1 =>
  some (.inl (l2, x1, M))
def p_D_timesChalked_L4 (f : Nat) (o0 : Nat) (l1 : Int) : Int × Int × oM → Option ((Int × Int × oM) ⊕ (Int × oM))
  | (l2, l3, M) =>
  if l3 < M o0 3 then (if l3 < 40 then (bnd 40 l3 fun i2 =>
  if M (o0 + 3) i2 = l1 then (lt (w32 (l2 + 1)) fun x3 =>
  p_D_timesChalked_B31_4 f o0 l1 x3 l3 M)
  else (p_D_timesChalked_B31_4 f o0 l1 l2 l3 M))
  else (some (.inr (l2, M))))
  else (some (.inr (l2, M)))
def p_D_timesChalked (f : Nat) (o0 : Nat) (l1 : Int) (M : oM) : Option (Int × oM) :=
  iter (p_D_timesChalked_L4 f o0 l1) f (0, 0, M)
def p_P_way (f : Nat) (l1 : Int) (l2 : Int) (M : oM) : Option (Int × oM) :=
  (p_O_isOne f l1 M).bind fun q1 =>
  if q1.1 = 0 then (some (1, q1.2))
  else ((p_O_isOne f l2 q1.2).bind fun q2 =>
  if q2.1 = 0 then (some (1, q2.2))
  else (bnd 10 l1 fun i3 =>
  bnd 10 l2 fun i4 =>
  bnd 10 l1 fun i5 =>
  bnd 10 l2 fun i6 =>
  some (imax 1 (w32 ((iabs (w32 ((q2.2 4 i3) - (q2.2 4 i4)))) + (iabs (w32 ((q2.2 5 i5) - (q2.2 5 i6)))))), q2.2)))
def p_L_look (f : Nat) (o1 : Nat) (l2 : Int) (l3 : Int) (M : oM) : Option (Int × oM) :=
  bnd 8 0 fun i1 =>
  lt (oU M 25 i1 l2) fun M2 =>
  bnd 8 1 fun i3 =>
  lt (oU M2 25 i3 l3) fun M4 =>
  (p_D_debtOf f o1 l2 l3 M4).bind fun q5 =>
  bnd 8 2 fun i6 =>
  lt (oU q5.2 25 i6 q5.1) fun M7 =>
  (p_D_owedBy f o1 l2 M7).bind fun q8 =>
  bnd 8 3 fun i9 =>
  lt (oU q8.2 25 i9 q8.1) fun M10 =>
  (p_P_way f l2 l3 M10).bind fun q11 =>
  bnd 8 4 fun i12 =>
  lt (oU q11.2 25 i12 q11.1) fun M13 =>
  (p_D_timesChalked f o1 l3 M13).bind fun q14 =>
  bnd 8 5 fun i15 =>
  lt (oU q14.2 25 i15 q14.1) fun M16 =>
  bnd 8 6 fun i17 =>
  lt (oU M16 25 i17 (M16 o1 8)) fun M18 =>
  bnd 8 7 fun i19 =>
  lt (oU M18 25 i19 (M18 o1 9)) fun M20 =>
  some (0, M20)
def p_L_growth (f : Nat) (o1 : Nat) (l2 : Int) (l3 : Int) (M : oM) : Option (Int × oM) :=
  (p_L_look f o1 l2 l3 M).bind fun q1 =>
  (p_L_firstOf f 105 9 q1.2).bind fun q2 =>
  some (q2.1, q2.2)
def p_L_rain (f : Nat) (l1 : Int) (M : oM) : Option (Int × oM) :=
  (p_JA_fill f 25 8 0 M).bind fun q1 =>
  bnd 8 7 fun i2 =>
  lt (oU q1.2 25 i2 l1) fun M3 =>
  (p_L_firstOf f 114 10 M3).bind fun q4 =>
  some (q4.1, q4.2)
def p_C_beginDay_B113_46 (f : Nat) (o1 : Nat) (l2 : Int) (M : oM) : Option ((Int × oM) ⊕ (Int × oM)) :=
  lt (w32 (l2 + 1)) fun x1 =>
  some (.inl (x1, M))
def p_C_beginDay_L46 (f : Nat) (o1 : Nat) : Int × oM → Option ((Int × oM) ⊕ (Int × oM))
  | (l2, M) =>
  if l2 < 100 then (bnd 100 l2 fun i2 =>
  lt (M (o1 + 1) i2) fun x3 =>
  if 0 < x3 then (nz 10 fun z4 =>
  nz 10 fun z5 =>
  (p_L_growth f o1 (w32 (Int.tdiv l2 z4)) (Int.tmod l2 z5) M).bind fun q6 =>
  lt (w32 (x3 + q6.1)) fun x7 =>
  bnd 100 l2 fun i8 =>
  lt (oU q6.2 (o1 + 1) i8 (imin 99 x7)) fun M9 =>
  bnd 100 l2 fun i10 =>
  lt (oU M9 41 4 (w32 ((M9 41 4) + (w32 ((M9 (o1 + 1) i10) - x3))))) fun M11 =>
  p_C_beginDay_B113_46 f o1 l2 M11)
  else (p_C_beginDay_B113_46 f o1 l2 M))
  else (some (.inr (0, M)))
def p_C_beginDay_B44 (f : Nat) (o1 : Nat) (M : oM) : Option (Int × oM) :=
  iter (p_C_beginDay_L46 f o1) f (0, M)
def p_C_beginDay_B24 (f : Nat) (o1 : Nat) (s1 : Int) (M : oM) : Option (Int × oM) :=
  bnd 2 s1 fun b12 =>
  lt (oU M o1 10 b12) fun M13 =>
  if M13 o1 10 = 0 then (p_C_beginDay_B44 f o1 M13)
  else (lt (oU M13 41 3 (w32 ((M13 41 3) + 1))) fun M14 =>
  p_C_beginDay_B44 f o1 M14)
def p_C_beginDay (f : Nat) (o1 : Nat) (M : oM) : Option (Int × oM) :=
  (p_D_draw f o1  M).bind fun q15 =>
  (p_L_rain f (q15.2 o1 9) q15.2).bind fun q16 =>
  if q15.1 < q16.1 then (p_C_beginDay_B24 f o1 1 q16.2)
  else (p_C_beginDay_B24 f o1 0 q16.2)
def p_D_sendTo (f : Nat) (o0 : Nat) (l1 : Int) (l2 : Int) (M : oM) : Option (Int × oM) :=
  lt (oU M o0 5 (M o0 4)) fun M1 =>
  lt (oU M1 o0 6 l1) fun M2 =>
  lt (oU M2 o0 7 l2) fun M3 =>
  lt (oU M3 o0 4 (-1)) fun M4 =>
  some (0, M4)
def p_L_liking_B67_10 (f : Nat) (o1 : Nat) (M : oM) : Option ((Int × oM) ⊕ (Int × oM)) :=
  (p_L_firstOf f 101 9999 M).bind fun q1 =>
  some (.inr (q1.1, q1.2))
def p_L_liking_B61_10 (f : Nat) (o1 : Nat) (l4 : Int) (M : oM) : Option ((Int × oM) ⊕ (Int × oM)) :=
  lt (w32 (l4 + 1)) fun x2 =>
  some (.inl (x2, M))
def p_L_liking_L10 (f : Nat) (o1 : Nat) : Int × oM → Option ((Int × oM) ⊕ (Int × oM))
  | (l4, M) =>
  if l4 < M 18 10 then (if l4 < 16 then (bnd 16 l4 fun i3 =>
  if M 21 i3 = 115 then (bnd 16 l4 fun i4 =>
  bnd 16 l4 fun i5 =>
  (p_L_reckoned f (M 23 i4) (M 24 i5) M).bind fun q6 =>
  if q6.1 = 0 then (p_L_liking_B61_10 f o1 l4 q6.2)
  else (some (.inr (0, q6.2))))
  else (p_L_liking_B61_10 f o1 l4 M))
  else (p_L_liking_B67_10 f o1 M))
  else (p_L_liking_B67_10 f o1 M)
def p_L_liking (f : Nat) (o1 : Nat) (l2 : Int) (l3 : Int) (M : oM) : Option (Int × oM) :=
  (p_L_look f o1 l2 l3 M).bind fun q7 =>
  iter (p_L_liking_L10 f o1) f (0, q7.2)
def p_C_setOut_B87_39 (f : Nat) (o1 : Nat) (l2 : Int) (l3 : Int) (l4 : Int) (l5 : Int) (M : oM) : Option ((Int × Int × Int × oM) ⊕ (Int × oM)) :=
  lt (w32 (l5 + 1)) fun x1 =>
  some (.inl (l3, l4, x1, M))
def p_C_setOut_B71_39 (f : Nat) (o1 : Nat) (l2 : Int) (l3 : Int) (l4 : Int) (l5 : Int) (s0 : Int) (M : oM) : Option ((Int × Int × Int × oM) ⊕ (Int × oM)) :=
  if l4 < s0 then (p_C_setOut_B87_39 f o1 l2 l5 s0 l5 M)
  else (p_C_setOut_B87_39 f o1 l2 l3 l4 l5 M)
def p_C_setOut_L39 (f : Nat) (o1 : Nat) (l2 : Int) : Int × Int × Int × oM → Option ((Int × Int × Int × oM) ⊕ (Int × oM))
  | (l3, l4, l5, M) =>
  if l5 < 10 then ((p_D_debtOf f o1 l2 l5 M).bind fun q4 =>
  if 0 < q4.1 then ((p_L_liking f o1 l2 l5 q4.2).bind fun q5 =>
  p_C_setOut_B71_39 f o1 l2 l3 l4 l5 q5.1 q5.2)
  else (p_C_setOut_B71_39 f o1 l2 l3 l4 l5 0 q4.2))
  else (if l3 < 0 then (some (.inr (0, M)))
  else ((p_P_way f l2 l3 M).bind fun q2 =>
  (p_D_sendTo f o1 l3 q2.1 q2.2).bind fun q3 =>
  some (.inr (0, q3.2))))
def p_C_setOut (f : Nat) (o1 : Nat) (M : oM) : Option (Int × oM) :=
  if M o1 10 = 0 then (if M o1 8 < 6 then (some (0, M))
  else (if 19 < M o1 8 then (some (0, M))
  else (lt (M o1 4) fun x6 =>
  iter (p_C_setOut_L39 f o1 x6) f ((-1), 0, 0, M))))
  else (some (0, M))
def p_D_write_B30 (f : Nat) (o0 : Nat) (l1 : Int) (M : oM) : Option (Int × oM) :=
  bnd 40 (M o0 3) fun i1 =>
  lt (oU M (o0 + 3) i1 l1) fun M2 =>
  lt (oU M2 o0 3 (w32 ((M2 o0 3) + 1))) fun M3 =>
  some (0, M3)
def p_D_write (f : Nat) (o0 : Nat) (l1 : Int) (M : oM) : Option (Int × oM) :=
  if M o0 3 < 40 then (p_D_write_B30 f o0 l1 M)
  else (cpg 40 40 1 0 39 fun _ =>
  lt (acopy M (o0 + 3) 1 (o0 + 3) 0 39) fun M4 =>
  lt (oU M4 o0 3 39) fun M5 =>
  p_D_write_B30 f o0 l1 M5)
def p_D_pay_B24 (f : Nat) (o0 : Nat) (l2 : Int) (M : oM) : Option (Int × oM) :=
  (p_D_giveTo f o0 l2 M).bind fun q1 =>
  (p_D_write f o0 l2 q1.2).bind fun q2 =>
  some (0, q2.2)
def p_D_pay (f : Nat) (o0 : Nat) (l1 : Int) (l2 : Int) (M : oM) : Option (Int × oM) :=
  (p_D_debtOf f o0 l1 l2 M).bind fun q3 =>
  if 0 < q3.1 then (bnd 100 (w32 ((w32 (l1 * 10)) + l2)) fun i4 =>
  bnd 100 (w32 ((w32 (l1 * 10)) + l2)) fun i5 =>
  lt (oU q3.2 (o0 + 1) i5 (w32 ((q3.2 (o0 + 1) i4) - 1))) fun M6 =>
  p_D_pay_B24 f o0 l2 M6)
  else (p_D_pay_B24 f o0 l2 q3.2)
def p_C_travel (f : Nat) (o1 : Nat) (M : oM) : Option (Int × oM) :=
  lt (oU M o1 7 (w32 ((M o1 7) - 1))) fun M1 =>
  if M1 o1 7 = 0 then (lt (oU M1 41 5 (M1 o1 6)) fun M2 =>
  (p_D_pay f o1 (M2 o1 5) (M2 o1 6) M2).bind fun q3 =>
  lt (oU q3.2 41 2 (w32 ((q3.2 41 2) + 1))) fun M4 =>
  some (0, M4))
  else (some (0, M1))
def p_C_tick_B80 (f : Nat) (o1 : Nat) (M : oM) : Option (Int × oM) :=
  lt (oU M o1 8 (w32 ((M o1 8) + 1))) fun M1 =>
  if 23 < M1 o1 8 then (lt (oU M1 o1 8 0) fun M2 =>
  lt (oU M2 o1 9 (w32 ((M2 o1 9) + 1))) fun M3 =>
  some (0, M3))
  else (some (0, M1))
def p_C_tick_B37 (f : Nat) (o1 : Nat) (M : oM) : Option (Int × oM) :=
  if 0 < M o1 7 then ((p_C_travel f o1  M).bind fun q9 =>
  p_C_tick_B80 f o1 q9.2)
  else ((p_O_isOne f (M o1 4) M).bind fun q4 =>
  if q4.1 = 0 then (p_C_tick_B80 f o1 q4.2)
  else (bnd 10 (q4.2 o1 4) fun i5 =>
  bnd 10 (q4.2 o1 4) fun i6 =>
  lt (oU q4.2 (o1 + 2) i6 (w32 ((q4.2 (o1 + 2) i5) + 1))) fun M7 =>
  (p_C_setOut f o1  M7).bind fun q8 =>
  p_C_tick_B80 f o1 q8.2))
def p_C_tick_B25 (f : Nat) (o1 : Nat) (M : oM) : Option (Int × oM) :=
  if M o1 8 = 0 then ((p_C_beginDay f o1  M).bind fun q10 =>
  p_C_tick_B37 f o1 q10.2)
  else (p_C_tick_B37 f o1 M)
def p_C_tick (f : Nat) (o1 : Nat) (M : oM) : Option (Int × oM) :=
  lt (oU M 41 5 (-1)) fun M11 =>
  if M11 o1 9 < 9999 then (p_C_tick_B25 f o1 M11)
  else (if M11 o1 8 < 23 then (p_C_tick_B25 f o1 M11)
  else (some (0, M11)))
def p_C_pass_L17 (f : Nat) (o1 : Nat) (l2 : Int) : Int × oM → Option ((Int × oM) ⊕ (Int × oM))
  | (l3, M) =>
  if l3 < l2 then ((p_C_tick f o1  M).bind fun q1 =>
  lt (w32 (l3 + 1)) fun x2 =>
  some (.inl (x2, q1.2)))
  else (some (.inr (0, M)))
def p_C_pass (f : Nat) (o1 : Nat) (l2 : Int) (M : oM) : Option (Int × oM) :=
  lt (oU M 41 2 0) fun M3 =>
  lt (oU M3 41 3 0) fun M4 =>
  lt (oU M4 41 4 0) fun M5 =>
  iter (p_C_pass_L17 f o1 l2) f (0, M5)
def p_O_hours (f : Nat) (l1 : Int) (M : oM) : Option (Int × oM) :=
  (p_O_areHours f l1 M).bind fun q1 =>
  if q1.1 = 0 then (some ((-1), q1.2))
  else ((p_C_pass f 6 l1 q1.2).bind fun q2 =>
  some (q2.2 41 2, q2.2))
def p_D_takeFrom (f : Nat) (o0 : Nat) (o1 : Nat) (M : oM) : Option (Int × oM) :=
  cpg 100 100 0 0 100 fun _ =>
  lt (acopy M (o1 + 1) 0 (o0 + 1) 0 100) fun M1 =>
  cpg 10 10 0 0 10 fun _ =>
  lt (acopy M1 (o1 + 2) 0 (o0 + 2) 0 10) fun M2 =>
  cpg 40 40 0 0 40 fun _ =>
  lt (acopy M2 (o1 + 3) 0 (o0 + 3) 0 40) fun M3 =>
  lt (oU M3 o0 3 (M3 o1 3)) fun M4 =>
  lt (oU M4 o0 4 (M4 o1 4)) fun M5 =>
  lt (oU M5 o0 5 (M5 o1 5)) fun M6 =>
  lt (oU M6 o0 6 (M6 o1 6)) fun M7 =>
  lt (oU M7 o0 7 (M7 o1 7)) fun M8 =>
  lt (oU M8 o0 8 (M8 o1 8)) fun M9 =>
  lt (oU M9 o0 9 (M9 o1 9)) fun M10 =>
  bnd 2 (M10 o1 10) fun b11 =>
  lt (oU M10 o0 10 b11) fun M12 =>
  lt (oU M12 o0 11 (M12 o1 11)) fun M13 =>
  some (0, M13)
def p_O_tried_B34 (f : Nat) (l1 : Int) (l2 : Int) (M : oM) : Option (Int × oM) :=
  (p_D_takeFrom f 14 6  M).bind fun q1 =>
  (p_C_pass f 14 l1 q1.2).bind fun q2 =>
  if l2 = 0 then (some (q2.2 41 2, q2.2))
  else (if l2 = 1 then ((p_D_owedInAll f 14  q2.2).bind fun q3 =>
  some (q3.1, q3.2))
  else (if l2 = 2 then (if q2.2 14 4 < 0 then (some ((-2), q2.2))
  else (some (q2.2 14 4, q2.2)))
  else (if l2 = 3 then (some (q2.2 41 3, q2.2))
  else (if l2 = 4 then (some (q2.2 41 4, q2.2))
  else (if l2 = 5 then (some (q2.2 14 8, q2.2))
  else (bnd 10 (w32 (l2 - 10)) fun i4 =>
  bnd 10 (w32 (l2 - 10)) fun i5 =>
  some (w32 ((q2.2 16 i4) - (q2.2 8 i5)), q2.2)))))))
def p_O_tried_B28 (f : Nat) (l1 : Int) (l2 : Int) (l3 : Int) (M : oM) : Option (Int × oM) :=
  if l3 = 0 then (some ((-1), M))
  else (p_O_tried_B34 f l1 l2 M)
def p_O_tried (f : Nat) (l1 : Int) (l2 : Int) (M : oM) : Option (Int × oM) :=
  (p_P_has f (w32 (l2 - 10)) M).bind fun q6 =>
  (p_O_areHours f l1 q6.2).bind fun q7 =>
  if q7.1 = 0 then (some ((-1), q7.2))
  else (if l2 < 0 then (p_O_tried_B28 f l1 l2 q6.1 q7.2)
  else (if 5 < l2 then (p_O_tried_B28 f l1 l2 q6.1 q7.2)
  else (p_O_tried_B34 f l1 l2 q7.2)))
def p_D_owedTo_L4 (f : Nat) (l1 : Int) : Int × Int × oM → Option ((Int × Int × oM) ⊕ (Int × oM))
  | (l2, l3, M) =>
  if l3 < 10 then (bnd 100 (w32 ((w32 (l3 * 10)) + l1)) fun i1 =>
  lt (w32 (l2 + (M 7 i1))) fun x2 =>
  lt (w32 (l3 + 1)) fun x3 =>
  some (.inl (x2, x3, M)))
  else (some (.inr (l2, M)))
def p_D_owedTo (f : Nat) (l1 : Int) (M : oM) : Option (Int × oM) :=
  iter (p_D_owedTo_L4 f l1) f (0, 0, M)
def p_O_personIs (f : Nat) (l1 : Int) (l2 : Int) (M : oM) : Option (Int × oM) :=
  (p_P_has f l1 M).bind fun q1 =>
  if q1.1 = 0 then (some ((-1), q1.2))
  else (if l2 = 0 then (bnd 10 l1 fun i2 =>
  some (q1.2 4 i2, q1.2))
  else (if l2 = 1 then (bnd 10 l1 fun i3 =>
  some (q1.2 5 i3, q1.2))
  else (if l2 = 2 then ((p_D_owedBy f 6 l1 q1.2).bind fun q4 =>
  some (q4.1, q4.2))
  else (if l2 = 3 then ((p_D_owedTo f l1 q1.2).bind fun q5 =>
  some (q5.1, q5.2))
  else (if l2 = 4 then (bnd 10 l1 fun i6 =>
  some (q1.2 8 i6, q1.2))
  else (if l2 = 5 then ((p_D_timesChalked f 6 l1 q1.2).bind fun q7 =>
  some (q7.1, q7.2))
  else (some ((-1), q1.2))))))))
def p_O_owes (f : Nat) (l1 : Int) (l2 : Int) (M : oM) : Option (Int × oM) :=
  (p_P_hasBoth f l1 l2 M).bind fun q1 =>
  if q1.1 = 0 then (some ((-1), q1.2))
  else ((p_D_debtOf f 6 l1 l2 q1.2).bind fun q2 =>
  some (q2.1, q2.2))
def p_O_likes (f : Nat) (l1 : Int) (l2 : Int) (M : oM) : Option (Int × oM) :=
  (p_P_hasBoth f l1 l2 M).bind fun q1 =>
  if q1.1 = 0 then (some ((-1), q1.2))
  else ((p_L_liking f 6 l1 l2 q1.2).bind fun q2 =>
  some (q2.1, q2.2))
def p_RR_repeat_L33 (f : Nat) (l3 : Int) (l4 : Int) : Int × oM → Option ((Int × oM) ⊕ (Int × oM))
  | (l5, M) =>
  if l5 < l4 then (bnd 60 (w32 (l5 - l3)) fun i2 =>
  bnd 60 l5 fun i3 =>
  lt (oU M 40 i3 (M 40 i2)) fun M4 =>
  lt (w32 (l5 + 1)) fun x5 =>
  some (.inl (x5, M4)))
  else (lt (oU M 39 2 l4) fun M1 =>
  some (.inr (1, M1)))
def p_RR_repeat (f : Nat) (l1 : Int) (l2 : Int) (M : oM) : Option (Int × oM) :=
  lt (w32 ((M 39 2) - l1)) fun x6 =>
  lt (w32 (l1 + (w32 (x6 * l2)))) fun x7 =>
  if 60 < x7 then (some (0, M))
  else (if x6 < 0 then (some (0, M))
  else (lt (M 39 2) fun x8 =>
  iter (p_RR_repeat_L33 f x6 x7) f (x8, M)))
def p_RR_readPaying_B177 (f : Nat) (rec : Int → oM → Option (Int × oM)) (l2 : Int) (l3 : Int) (l4 : Int) (M : oM) : Option (Int × oM) :=
  (p_T_step f  M).bind fun q1 =>
  (p_RR_repeat f l3 l4 q1.2).bind fun q2 =>
  if q2.1 = 0 then ((p_T_faultAt f 6 l2 q2.2).bind fun q3 =>
  some (q3.1, q3.2))
  else (some (0, q2.2))
def p_RR_readPaying_B59 (f : Nat) (rec : Int → oM → Option (Int × oM)) (l1 : Int) (l2 : Int) (l3 : Int) (l4 : Int) (M : oM) : Option (Int × oM) :=
  (p_T_next f  M).bind fun q4 =>
  if q4.1 = 40 then (if l1 < 2 then ((p_T_step f  q4.2).bind fun q12 =>
  (rec (w32 (l1 + 1)) q12.2).bind fun q13 =>
  if q13.1 = 0 then (p_RR_readPaying_B177 f rec l2 l3 l4 q13.2)
  else (some (q13.1, q13.2)))
  else ((p_T_fault f 5 q4.2).bind fun q14 =>
  some (q14.1, q14.2)))
  else ((p_T_nextOne f  q4.2).bind fun q5 =>
  if q5.1 < 0 then ((p_T_fault f 1 q5.2).bind fun q11 =>
  some (q11.1, q11.2))
  else (if q5.2 39 2 < 60 then ((p_T_nextOne f  q5.2).bind fun q6 =>
  bnd 60 (q5.2 39 2) fun i7 =>
  lt (oU q6.2 40 i7 q6.1) fun M8 =>
  lt (oU M8 39 2 (w32 ((M8 39 2) + 1))) fun M9 =>
  p_RR_readPaying_B177 f rec l2 l3 l4 M9)
  else ((p_T_faultAt f 6 l2 q5.2).bind fun q10 =>
  some (q10.1, q10.2))))
def p_RR_readPaying_F (f : Nat) (rec : Int → oM → Option (Int × oM)) (l1 : Int) (M : oM) : Option (Int × oM) :=
  (p_T_place f  M).bind fun q15 =>
  lt (q15.2 39 2) fun x16 =>
  (p_T_next f  q15.2).bind fun q17 =>
  if q17.1 < 50 then (p_RR_readPaying_B59 f rec l1 q15.1 x16 1 q17.2)
  else ((p_T_next f  q17.2).bind fun q18 =>
  if 57 < q18.1 then (p_RR_readPaying_B59 f rec l1 q15.1 x16 1 q18.2)
  else ((p_T_next f  q18.2).bind fun q19 =>
  lt (w32 (q19.1 - 48)) fun x20 =>
  (p_T_step f  q19.2).bind fun q21 =>
  p_RR_readPaying_B59 f rec l1 q15.1 x16 x20 q21.2))
def p_RR_readPayings_B51_2 (f : Nat) (rec : Int → oM → Option (Int × oM)) (l1 : Int) (l2 : Int) (M : oM) : Option ((Int × oM) ⊕ (Int × oM)) :=
  lt (w32 (l2 + 1)) fun x1 =>
  some (.inl (x1, M))
def p_RR_readPayings_L2 (f : Nat) (rec : Int → oM → Option (Int × oM)) (l1 : Int) : Int × oM → Option ((Int × oM) ⊕ (Int × oM))
  | (l2, M) =>
  if l2 < 60 then ((p_RR_readPaying_F f rec l1 M).bind fun q3 =>
  if q3.1 = 0 then (if l1 = 0 then ((p_T_ended f  q3.2).bind fun q5 =>
  if q5.1 = 0 then (p_RR_readPayings_B51_2 f rec l1 l2 q5.2)
  else (some (.inr (0, q5.2))))
  else ((p_T_next f  q3.2).bind fun q4 =>
  if q4.1 = 41 then (some (.inr (0, q4.2)))
  else (p_RR_readPayings_B51_2 f rec l1 l2 q4.2)))
  else (some (.inr (q3.1, q3.2))))
  else ((p_T_fault f 1 M).bind fun q2 =>
  some (.inr (q2.1, q2.2)))
def p_RR_readPayings_F (f : Nat) (rec : Int → oM → Option (Int × oM)) (l1 : Int) (M : oM) : Option (Int × oM) :=
  iter (p_RR_readPayings_L2 f rec l1) f (0, M)
def p_RR_readPayings (f : Nat) : Nat → Int → oM → Option (Int × oM)
  | 0, _, _ => none
  | n + 1, l1, M => p_RR_readPayings_F f (p_RR_readPayings f n) l1 M
def p_RR_read (f : Nat) (M : oM) : Option (Int × oM) :=
  lt (oU M 39 2 0) fun M1 =>
  (p_RR_readPayings f 5 0 M1).bind fun q2 =>
  some (q2.1, q2.2)
def p_O_readRoute (f : Nat) (M : oM) : Option (Int × oM) :=
  (p_RR_read f  M).bind fun q1 =>
  (p_T_clear f  q1.2).bind fun q2 =>
  if q1.1 = 0 then (if q2.2 6 4 < 0 then (some ((-2), q2.2))
  else (some (0, q2.2)))
  else (some (q1.1, q2.2))
def p_P_hoursOf_L9 (f : Nat) (l2 : Int) : Int × Int × Int × oM → Option ((Int × Int × Int × oM) ⊕ (Int × oM))
  | (l4, l5, l6, M) =>
  if l6 < l2 then (if l6 < 60 then (bnd 60 l6 fun i1 =>
  (p_P_way f l5 (M 40 i1) M).bind fun q2 =>
  lt (w32 (l4 + q2.1)) fun x3 =>
  bnd 60 l6 fun i4 =>
  lt (q2.2 40 i4) fun x5 =>
  lt (w32 (l6 + 1)) fun x6 =>
  some (.inl (x3, x5, x6, q2.2)))
  else (some (.inr (l4, M))))
  else (some (.inr (l4, M)))
def p_P_hoursOf (f : Nat) (l2 : Int) (l3 : Int) (M : oM) : Option (Int × oM) :=
  iter (p_P_hoursOf_L9 f l2) f (0, l3, 0, M)
def p_RR_walkedBy_L2 (f : Nat) (o1 : Nat) : Int × oM → Option ((Int × oM) ⊕ (Int × oM))
  | (l2, M) =>
  if l2 < M 39 2 then (if l2 < 60 then (bnd 60 l2 fun i1 =>
  (p_D_debtOf f o1 (M o1 4) (M 40 i1) M).bind fun q2 =>
  if q2.1 = 0 then (some (.inr (l2, q2.2)))
  else (bnd 60 l2 fun i3 =>
  (p_D_pay f o1 (q2.2 o1 4) (q2.2 40 i3) q2.2).bind fun q4 =>
  lt (w32 (l2 + 1)) fun x5 =>
  some (.inl (x5, q4.2))))
  else (some (.inr (M 39 2, M))))
  else (some (.inr (M 39 2, M)))
def p_RR_walkedBy (f : Nat) (o1 : Nat) (M : oM) : Option (Int × oM) :=
  iter (p_RR_walkedBy_L2 f o1) f (0, M)
def p_O_route (f : Nat) (l1 : Int) (l2 : Int) (M : oM) : Option (Int × oM) :=
  if l2 < 0 then (some ((-1), M))
  else (if 2 < l2 then (some ((-1), M))
  else ((p_T_opens f l1 1 60 M).bind fun q1 =>
  if q1.1 = 0 then (some ((-1), q1.2))
  else ((p_O_readRoute f  q1.2).bind fun q2 =>
  if q2.1 = 0 then ((p_D_takeFrom f 14 6  q2.2).bind fun q3 =>
  (p_RR_walkedBy f 14  q3.2).bind fun q4 =>
  if l2 = 0 then (some (q4.1, q4.2))
  else (if l2 = 1 then ((p_P_hoursOf f q4.1 (q4.2 6 4) q4.2).bind fun q5 =>
  some (q5.1, q5.2))
  else (some (q4.2 14 4, q4.2))))
  else (some (q2.1, q2.2)))))
def p_O_walk (f : Nat) (l1 : Int) (M : oM) : Option (Int × oM) :=
  (p_T_opens f l1 1 60 M).bind fun q1 =>
  if q1.1 = 0 then (some ((-1), q1.2))
  else ((p_O_readRoute f  q1.2).bind fun q2 =>
  if q2.1 = 0 then ((p_RR_walkedBy f 6  q2.2).bind fun q3 =>
  some (q3.1, q3.2))
  else (some (q2.1, q2.2)))
def p_R_paidBy_B27_4 (f : Nat) (o0 : Nat) (l1 : Int) (l2 : Int) (l3 : Int) (M : oM) : Option ((Int × Int × oM) ⊕ (Int × oM)) :=
  lt (w32 (l3 + 1)) fun x1 =>
  some (.inl (l2, x1, M))
def p_R_paidBy_L4 (f : Nat) (o0 : Nat) (l1 : Int) : Int × Int × oM → Option ((Int × Int × oM) ⊕ (Int × oM))
  | (l2, l3, M) =>
  if l3 < 10 then (bnd 100 (w32 ((w32 (l1 * 10)) + l3)) fun i2 =>
  if 0 < M o0 i2 then (lt (ior l2 (ishl 1 l3)) fun x3 =>
  p_R_paidBy_B27_4 f o0 l1 x3 l3 M)
  else (p_R_paidBy_B27_4 f o0 l1 l2 l3 M))
  else (some (.inr (l2, M)))
def p_R_paidBy (f : Nat) (o0 : Nat) (l1 : Int) (M : oM) : Option (Int × oM) :=
  iter (p_R_paidBy_L4 f o0 l1) f (0, 0, M)
def p_R_reachedFrom_X33 (f : Nat) (o0 : Nat) (l3 : Int) (l4 : Int) (l5 : Int) : Int × oM → Option ((Int × Int × Int × oM) ⊕ (Int × oM))
  | (l2, M) =>
  lt (w32 (l4 + 1)) fun x1 =>
  some (.inl (l2, l3, x1, M))
def p_R_reachedFrom_B60_33 (f : Nat) (o0 : Nat) (l2 : Int) (l3 : Int) (l4 : Int) (l5 : Int) (l6 : Int) (M : oM) : Option ((Int × Int × oM) ⊕ (Int × oM)) :=
  lt (w32 (l6 + 1)) fun x2 =>
  some (.inl (l2, x2, M))
def p_R_reachedFrom_L33 (f : Nat) (o0 : Nat) (l3 : Int) (l4 : Int) (l5 : Int) : Int × Int × oM → Option ((Int × Int × oM) ⊕ (Int × oM))
  | (l2, l6, M) =>
  if l6 < 10 then (if iand (ishr l5 l6) 1 = 1 then ((p_R_paidBy f o0 l6 M).bind fun q3 =>
  lt (ior l2 q3.1) fun x4 =>
  p_R_reachedFrom_B60_33 f o0 x4 l3 l4 l5 l6 q3.2)
  else (p_R_reachedFrom_B60_33 f o0 l2 l3 l4 l5 l6 M))
  else (some (.inr (l2, M)))
def p_R_reachedFrom_L9 (f : Nat) (o0 : Nat) : Int × Int × Int × oM → Option ((Int × Int × Int × oM) ⊕ (Int × oM))
  | (l2, l3, l4, M) =>
  if l4 < 10 then (if l3 = l2 then (some (.inr (l2, M)))
  else (lt (iand l2 (ixor l3 (-1))) fun x5 =>
  (iter (p_R_reachedFrom_L33 f o0 l2 l4 x5) f (l2, 0, M)).bind (p_R_reachedFrom_X33 f o0 l2 l4 x5)))
  else (some (.inr (l2, M)))
def p_R_reachedFrom (f : Nat) (o0 : Nat) (l1 : Int) (M : oM) : Option (Int × oM) :=
  lt (ishl 1 l1) fun x6 =>
  iter (p_R_reachedFrom_L9 f o0) f (x6, 0, 0, M)
def p_R_isOneRow_B93_4 (f : Nat) (o0 : Nat) (l1 : Int) (l3 : Int) (s0 : Int) (s1 : Int) (M : oM) : Option ((Int × Int × oM) ⊕ (Int × oM)) :=
  lt (ior s0 s1) fun x1 =>
  lt (w32 (l3 + 1)) fun x2 =>
  some (.inl (x1, x2, M))
def p_R_isOneRow_B74_4 (f : Nat) (o0 : Nat) (l1 : Int) (l2 : Int) (l3 : Int) (l4 : Int) (s0 : Int) (s1 : Int) (s2 : Int) (M : oM) : Option ((Int × Int × oM) ⊕ (Int × oM)) :=
  if w32 (s1 + s2) < s0 then (some (.inr (0, M)))
  else (if 0 < l4 then (p_R_isOneRow_B93_4 f o0 l1 l3 l2 (ishl 1 l3) M)
  else (p_R_isOneRow_B93_4 f o0 l1 l3 l2 0 M))
def p_R_isOneRow_X19 (f : Nat) (o0 : Nat) (l1 : Int) (l2 : Int) (l3 : Int) : Int × Int × oM → Option ((Int × Int × oM) ⊕ (Int × oM))
  | (l4, l5, M) =>
  if l3 = l1 then (p_R_isOneRow_B74_4 f o0 l1 l2 l3 l4 l4 l5 1 M)
  else (p_R_isOneRow_B74_4 f o0 l1 l2 l3 l4 l4 l5 0 M)
def p_R_isOneRow_L19 (f : Nat) (o0 : Nat) (l1 : Int) (l2 : Int) (l3 : Int) : Int × Int × Int × oM → Option ((Int × Int × Int × oM) ⊕ (Int × Int × oM))
  | (l4, l5, l6, M) =>
  if l6 < 10 then (bnd 100 (w32 ((w32 (l3 * 10)) + l6)) fun i3 =>
  lt (w32 (l4 + (M o0 i3))) fun x4 =>
  bnd 100 (w32 ((w32 (l6 * 10)) + l3)) fun i5 =>
  lt (w32 (l5 + (M o0 i5))) fun x6 =>
  lt (w32 (l6 + 1)) fun x7 =>
  some (.inl (x4, x6, x7, M)))
  else (some (.inr (l4, l5, M)))
def p_R_isOneRow_L4 (f : Nat) (o0 : Nat) (l1 : Int) : Int × Int × oM → Option ((Int × Int × oM) ⊕ (Int × oM))
  | (l2, l3, M) =>
  if l3 < 10 then ((iter (p_R_isOneRow_L19 f o0 l1 l2 l3) f (0, 0, 0, M)).bind (p_R_isOneRow_X19 f o0 l1 l2 l3))
  else ((p_R_reachedFrom f o0 l1 M).bind fun q8 =>
  if iand l2 (ixor q8.1 (-1)) = 0 then (some (.inr (1, q8.2)))
  else (some (.inr (0, q8.2))))
def p_R_isOneRow (f : Nat) (o0 : Nat) (l1 : Int) (M : oM) : Option (Int × oM) :=
  iter (p_R_isOneRow_L4 f o0 l1) f (0, 0, M)
def p_R_leastNext_B57_2 (f : Nat) (l1 : Int) (l2 : Int) (M : oM) : Option ((Int × oM) ⊕ (Int × oM)) :=
  lt (w32 (l2 + 1)) fun x1 =>
  some (.inl (x1, M))
def p_R_leastNext_L2 (f : Nat) (l1 : Int) : Int × oM → Option ((Int × oM) ⊕ (Int × oM))
  | (l2, M) =>
  if l2 < 10 then (lt (w32 ((w32 (l1 * 10)) + l2)) fun x2 =>
  bnd 100 x2 fun i3 =>
  if 0 < M 43 i3 then (bnd 100 x2 fun i4 =>
  bnd 100 x2 fun i5 =>
  lt (oU M 43 i5 (w32 ((M 43 i4) - 1))) fun M6 =>
  (p_R_isOneRow f 43 l2 M6).bind fun q7 =>
  if q7.1 = 0 then (bnd 100 x2 fun i8 =>
  bnd 100 x2 fun i9 =>
  lt (oU q7.2 43 i9 (w32 ((q7.2 43 i8) + 1))) fun M10 =>
  p_R_leastNext_B57_2 f l1 l2 M10)
  else (some (.inr (l2, q7.2))))
  else (p_R_leastNext_B57_2 f l1 l2 M))
  else (some (.inr ((-1), M)))
def p_R_leastNext (f : Nat) (l1 : Int) (M : oM) : Option (Int × oM) :=
  iter (p_R_leastNext_L2 f l1) f (0, M)
def p_R_planTour_L18 (f : Nat) (l3 : Int) : Int × Int × oM → Option ((Int × Int × oM) ⊕ (Int × oM))
  | (l4, l5, M) =>
  if l5 < l3 then (if l5 < 60 then ((p_R_leastNext f l4 M).bind fun q1 =>
  if q1.1 < 0 then (some (.inr (0, q1.2)))
  else (bnd 60 l5 fun i2 =>
  lt (oU q1.2 47 i2 q1.1) fun M3 =>
  lt (w32 (l5 + 1)) fun x4 =>
  some (.inl (q1.1, x4, M3))))
  else (some (.inr (0, M))))
  else (some (.inr (0, M)))
def p_R_planTour (f : Nat) (l2 : Int) (l3 : Int) (M : oM) : Option (Int × oM) :=
  cpg 100 100 0 0 100 fun _ =>
  lt (acopy M 7 0 43 0 100) fun M5 =>
  iter (p_R_planTour_L18 f l3) f (l2, 0, M5)
def p_O_tour_B184 (f : Nat) (M : oM) : Option (Int × oM) :=
  some (1, M)
def p_O_tour_B131 (f : Nat) (l1 : Int) (l3 : Int) (M : oM) : Option (Int × oM) :=
  (p_R_planTour f (M 6 4) l3 M).bind fun q1 =>
  if l1 = 102 then (if l3 = 0 then (p_O_tour_B184 f q1.2)
  else (bnd 60 (w32 (l3 - 1)) fun i3 =>
  if q1.2 47 i3 = q1.2 6 4 then (p_O_tour_B184 f q1.2)
  else (some (0, q1.2))))
  else (bnd 60 l1 fun i2 =>
  some (q1.2 47 i2, q1.2))
def p_O_tour_B40 (f : Nat) (l1 : Int) (l2 : Int) (M : oM) : Option (Int × oM) :=
  if M 6 4 < 0 then (some ((-2), M))
  else ((p_D_owedInAll f 6  M).bind fun q4 =>
  if 60 < q4.1 then (some ((-3), q4.2))
  else (if l1 = 101 then (some (q4.1, q4.2))
  else ((p_R_isOneRow f 7 (q4.2 6 4) q4.2).bind fun q5 =>
  if l1 = 100 then (if q5.1 = 0 then (some (0, q5.2))
  else (some (1, q5.2)))
  else (if q5.1 = 0 then (some ((-4), q5.2))
  else (if l2 = 0 then (p_O_tour_B131 f l1 q4.1 q5.2)
  else (if l1 < q4.1 then (p_O_tour_B131 f l1 q4.1 q5.2)
  else (some ((-4), q5.2))))))))
def p_O_tour_B15 (f : Nat) (l1 : Int) (s0 : Int) (M : oM) : Option (Int × oM) :=
  if s0 = 0 then (if l1 = 100 then (p_O_tour_B40 f l1 s0 M)
  else (if l1 = 101 then (p_O_tour_B40 f l1 s0 M)
  else (if l1 = 102 then (p_O_tour_B40 f l1 s0 M)
  else (some ((-1), M)))))
  else (p_O_tour_B40 f l1 s0 M)
def p_O_tour_B14 (f : Nat) (l1 : Int) (M : oM) : Option (Int × oM) :=
  p_O_tour_B15 f l1 0 M
def p_O_tour (f : Nat) (l1 : Int) (M : oM) : Option (Int × oM) :=
  if l1 < 0 then (p_O_tour_B14 f l1 M)
  else (if l1 < 60 then (p_O_tour_B15 f l1 1 M)
  else (p_O_tour_B14 f l1 M))
def p_R_lengthen_B97_36 (f : Nat) (rec : Int → Int → oM → Option (Int × oM)) (l1 : Int) (l2 : Int) (l3 : Int) (M : oM) : Option ((Int × oM) ⊕ (Int × oM)) :=
  lt (w32 (l3 + 1)) fun x1 =>
  some (.inl (x1, M))
def p_R_lengthen_L36 (f : Nat) (rec : Int → Int → oM → Option (Int × oM)) (l1 : Int) (l2 : Int) : Int × oM → Option ((Int × oM) ⊕ (Int × oM))
  | (l3, M) =>
  if l3 < 10 then (lt (w32 ((w32 (l1 * 10)) + l3)) fun x2 =>
  bnd 100 x2 fun i3 =>
  if 0 < M 43 i3 then (bnd 100 x2 fun i4 =>
  bnd 100 x2 fun i5 =>
  lt (oU M 43 i5 (w32 ((M 43 i4) - 1))) fun M6 =>
  bnd 60 l2 fun i7 =>
  lt (oU M6 47 i7 l3) fun M8 =>
  (rec l3 (w32 (l2 + 1)) M8).bind fun q9 =>
  bnd 100 x2 fun i10 =>
  bnd 100 x2 fun i11 =>
  lt (oU q9.2 43 i11 (w32 ((q9.2 43 i10) + 1))) fun M12 =>
  p_R_lengthen_B97_36 f rec l1 l2 l3 M12)
  else (p_R_lengthen_B97_36 f rec l1 l2 l3 M))
  else (some (.inr (0, M)))
def p_R_lengthen_B27 (f : Nat) (rec : Int → Int → oM → Option (Int × oM)) (l1 : Int) (l2 : Int) (M : oM) : Option (Int × oM) :=
  if l2 < 12 then (iter (p_R_lengthen_L36 f rec l1 l2) f (0, M))
  else (some (0, M))
def p_R_lengthen_F (f : Nat) (rec : Int → Int → oM → Option (Int × oM)) (l1 : Int) (l2 : Int) (M : oM) : Option (Int × oM) :=
  if M 42 7 < l2 then (lt (oU M 42 7 l2) fun M13 =>
  cpg 60 12 0 0 l2 fun _ =>
  lt (acopy M13 47 0 48 0 l2) fun M14 =>
  p_R_lengthen_B27 f rec l1 l2 M14)
  else (p_R_lengthen_B27 f rec l1 l2 M)
def p_R_lengthen (f : Nat) : Nat → Int → Int → oM → Option (Int × oM)
  | 0, _, _, _ => none
  | n + 1, l1, l2, M => p_R_lengthen_F f (p_R_lengthen f n) l1 l2 M
def p_R_planMost (f : Nat) (l2 : Int) (M : oM) : Option (Int × oM) :=
  cpg 100 100 0 0 100 fun _ =>
  lt (acopy M 7 0 43 0 100) fun M1 =>
  lt (oU M1 42 7 0) fun M2 =>
  (p_R_lengthen f 14 l2 0 M2).bind fun q3 =>
  some (q3.2 42 7, q3.2)
def p_O_most_B28 (f : Nat) (l1 : Int) (l2 : Int) (M : oM) : Option (Int × oM) :=
  if M 6 4 < 0 then (some ((-2), M))
  else ((p_D_owedInAll f 6  M).bind fun q1 =>
  if 12 < q1.1 then (some ((-3), q1.2))
  else ((p_R_planMost f (q1.2 6 4) q1.2).bind fun q2 =>
  if l1 = 100 then (some (q2.1, q2.2))
  else (if l2 = 0 then (some ((-4), q2.2))
  else (if l1 < q2.1 then (bnd 12 l1 fun i3 =>
  some (q2.2 48 i3, q2.2))
  else (some ((-4), q2.2))))))
def p_O_most_B15 (f : Nat) (l1 : Int) (s0 : Int) (M : oM) : Option (Int × oM) :=
  if s0 = 0 then (if l1 = 100 then (p_O_most_B28 f l1 s0 M)
  else (some ((-1), M)))
  else (p_O_most_B28 f l1 s0 M)
def p_O_most_B14 (f : Nat) (l1 : Int) (M : oM) : Option (Int × oM) :=
  p_O_most_B15 f l1 0 M
def p_O_most (f : Nat) (l1 : Int) (M : oM) : Option (Int × oM) :=
  if l1 < 0 then (p_O_most_B14 f l1 M)
  else (if l1 < 12 then (p_O_most_B15 f l1 1 M)
  else (p_O_most_B14 f l1 M))
def p_R_wayBack_X22 (f : Nat) (l2 : Int) (l3 : Int) (l4 : Int) : oM → Option ((Int × oM) ⊕ (Int × oM))
  | M =>
  lt (w32 (l4 + 1)) fun x1 =>
  some (.inl (x1, M))
def p_R_wayBack_B108_22 (f : Nat) (l2 : Int) (l3 : Int) (l4 : Int) (l5 : Int) (M : oM) : Option ((Int × oM) ⊕ (oM)) :=
  lt (w32 (l5 + 1)) fun x2 =>
  some (.inl (x2, M))
def p_R_wayBack_B103_22 (f : Nat) (l2 : Int) (l3 : Int) (l4 : Int) (l5 : Int) (s1 : Int) (s2 : Int) (s3 : Int) (s4 : Int) (M : oM) : Option ((Int × oM) ⊕ (oM)) :=
  bnd 10 s1 fun i3 =>
  lt (oU M 46 i3 (imin s2 (w32 (s3 + s4)))) fun M4 =>
  p_R_wayBack_B108_22 f l2 l3 l4 l5 M4
def p_R_wayBack_B67_22 (f : Nat) (l2 : Int) (l3 : Int) (l4 : Int) (l5 : Int) (l6 : Int) (l7 : Int) (s0 : Int) (M : oM) : Option ((Int × oM) ⊕ (oM)) :=
  bnd 10 l7 fun i5 =>
  if l3 = 0 then (p_R_wayBack_B103_22 f l2 l3 l4 l5 l7 (M 46 i5) s0 1 M)
  else ((p_P_way f l6 l7 M).bind fun q6 =>
  p_R_wayBack_B103_22 f l2 l3 l4 l5 l7 (M 46 i5) s0 q6.1 q6.2)
def p_R_wayBack_L22 (f : Nat) (l2 : Int) (l3 : Int) (l4 : Int) : Int × oM → Option ((Int × oM) ⊕ (oM))
  | (l5, M) =>
  if l5 < 100 then (nz 10 fun z7 =>
  lt (w32 (Int.tdiv l5 z7)) fun x8 =>
  nz 10 fun z9 =>
  lt (Int.tmod l5 z9) fun x10 =>
  bnd 100 l5 fun i11 =>
  if 0 < M 7 i11 then (if x8 = l2 then (p_R_wayBack_B67_22 f l2 l3 l4 l5 x8 x10 0 M)
  else (bnd 10 x8 fun i12 =>
  p_R_wayBack_B67_22 f l2 l3 l4 l5 x8 x10 (M 46 i12) M))
  else (p_R_wayBack_B108_22 f l2 l3 l4 l5 M))
  else (some (.inr M))
def p_R_wayBack_L12 (f : Nat) (l2 : Int) (l3 : Int) : Int × oM → Option ((Int × oM) ⊕ (Int × oM))
  | (l4, M) =>
  if l4 < 10 then ((iter (p_R_wayBack_L22 f l2 l3 l4) f (0, M)).bind (p_R_wayBack_X22 f l2 l3 l4))
  else (bnd 10 l2 fun i13 =>
  some (.inr (M 46 i13, M)))
def p_R_wayBack (f : Nat) (l2 : Int) (l3 : Int) (M : oM) : Option (Int × oM) :=
  (p_JA_fill f 46 10 1000000 M).bind fun q14 =>
  iter (p_R_wayBack_L12 f l2 l3) f (0, q14.2)
def p_O_back_B44 (f : Nat) (s2 : Int) (s3 : Int) (M : oM) : Option (Int × oM) :=
  (p_R_wayBack f s2 s3 M).bind fun q1 =>
  if q1.1 < 1000000 then (some (q1.1, q1.2))
  else (some ((-2), q1.2))
def p_O_back_B22 (f : Nat) (l1 : Int) (l2 : Int) (M : oM) : Option (Int × oM) :=
  if l2 = 1 then (p_O_back_B44 f l1 1 M)
  else (p_O_back_B44 f l1 0 M)
def p_O_back (f : Nat) (l1 : Int) (l2 : Int) (M : oM) : Option (Int × oM) :=
  (p_P_has f l1 M).bind fun q2 =>
  if q2.1 = 0 then (some ((-1), q2.2))
  else (if l2 = 0 then (p_O_back_B22 f l1 l2 q2.2)
  else (if l2 = 1 then (p_O_back_B22 f l1 l2 q2.2)
  else (some ((-1), q2.2))))
def p_B_weigh_L2 (f : Nat) : Int × oM → Option ((Int × oM) ⊕ (Int × oM))
  | (l2, M) =>
  if l2 < 10 then ((p_D_owedTo f l2 M).bind fun q1 =>
  (p_D_owedBy f 6 l2 q1.2).bind fun q2 =>
  bnd 10 l2 fun i3 =>
  lt (oU q2.2 50 i3 (w32 (q1.1 - q2.1))) fun M4 =>
  lt (w32 (l2 + 1)) fun x5 =>
  some (.inl (x5, M4)))
  else (some (.inr (0, M)))
def p_B_weigh (f : Nat) (M : oM) : Option (Int × oM) :=
  iter (p_B_weigh_L2 f) f (0, M)
def p_B_newDebts_L9 (f : Nat) : Int × Int × oM → Option ((Int × Int × oM) ⊕ (Int × oM))
  | (l2, l3, M) =>
  if l3 < 10 then (bnd 10 l3 fun i1 =>
  lt (w32 (l2 + (imax 0 (M 50 i1)))) fun x2 =>
  lt (w32 (l3 + 1)) fun x3 =>
  some (.inl (x2, x3, M)))
  else (some (.inr (l2, M)))
def p_B_newDebts (f : Nat) (M : oM) : Option (Int × oM) :=
  (p_B_weigh f  M).bind fun q4 =>
  iter (p_B_newDebts_L9 f) f (0, 0, q4.2)
def p_B_assign_B20 (f : Nat) (rec : Int → Int → Int → oM → Option (Int × oM)) (l3 : Int) (M : oM) : Option (Int × oM) :=
  lt (oU M 49 8 l3) fun M1 =>
  cpg 6 6 0 0 6 fun _ =>
  lt (acopy M1 53 0 54 0 6) fun M2 =>
  some (0, M2)
def p_B_assign_B116_44 (f : Nat) (rec : Int → Int → Int → oM → Option (Int × oM)) (l1 : Int) (l2 : Int) (l3 : Int) (l4 : Int) (M : oM) : Option ((Int × oM) ⊕ (Int × oM)) :=
  lt (w32 (l4 + 1)) fun x3 =>
  some (.inl (x3, M))
def p_B_assign_L44 (f : Nat) (rec : Int → Int → Int → oM → Option (Int × oM)) (l1 : Int) (l2 : Int) (l3 : Int) : Int × oM → Option ((Int × oM) ⊕ (Int × oM))
  | (l4, M) =>
  if l4 < 10 then (bnd 10 l4 fun i4 =>
  if M 50 i4 < 0 then (bnd 10 l4 fun i5 =>
  bnd 10 l4 fun i6 =>
  lt (oU M 50 i6 (w32 ((M 50 i5) + 1))) fun M7 =>
  bnd 6 l1 fun i8 =>
  lt (oU M7 53 i8 l4) fun M9 =>
  bnd 6 l1 fun i10 =>
  (p_P_way f (M9 52 i10) l4 M9).bind fun q11 =>
  (rec (w32 (l1 + 1)) l2 (w32 (l3 + q11.1)) q11.2).bind fun q12 =>
  bnd 10 l4 fun i13 =>
  bnd 10 l4 fun i14 =>
  lt (oU q12.2 50 i14 (w32 ((q12.2 50 i13) - 1))) fun M15 =>
  p_B_assign_B116_44 f rec l1 l2 l3 l4 M15)
  else (p_B_assign_B116_44 f rec l1 l2 l3 l4 M))
  else (some (.inr (0, M)))
def p_B_assign_F (f : Nat) (rec : Int → Int → Int → oM → Option (Int × oM)) (l1 : Int) (l2 : Int) (l3 : Int) (M : oM) : Option (Int × oM) :=
  if l3 < M 49 8 then (if l1 < l2 then (if l1 < 6 then (iter (p_B_assign_L44 f rec l1 l2 l3) f (0, M))
  else (p_B_assign_B20 f rec l3 M))
  else (p_B_assign_B20 f rec l3 M))
  else (some (0, M))
def p_B_assign (f : Nat) : Nat → Int → Int → Int → oM → Option (Int × oM)
  | 0, _, _, _, _ => none
  | n + 1, l1, l2, l3, M => p_B_assign_F f (p_B_assign f n) l1 l2 l3 M
def p_B_planNewDebts_X13 (f : Nat) (l1 : Int) (l3 : Int) : Int × oM → Option ((Int × Int × oM) ⊕ (Int × oM))
  | (l2, M) =>
  lt (w32 (l3 + 1)) fun x1 =>
  some (.inl (l2, x1, M))
def p_B_planNewDebts_L13 (f : Nat) (l1 : Int) (l3 : Int) : Int × Int × oM → Option ((Int × Int × oM) ⊕ (Int × oM))
  | (l2, l4, M) =>
  bnd 10 l3 fun i2 =>
  if l4 < M 50 i2 then (if l2 < 6 then (bnd 6 l2 fun i3 =>
  lt (oU M 52 i3 l3) fun M4 =>
  lt (w32 (l2 + 1)) fun x5 =>
  lt (w32 (l4 + 1)) fun x6 =>
  some (.inl (x5, x6, M4)))
  else (some (.inr (l2, M))))
  else (some (.inr (l2, M)))
def p_B_planNewDebts_L4 (f : Nat) (l1 : Int) : Int × Int × oM → Option ((Int × Int × oM) ⊕ (Int × oM))
  | (l2, l3, M) =>
  if l3 < 10 then ((iter (p_B_planNewDebts_L13 f l1 l3) f (l2, 0, M)).bind (p_B_planNewDebts_X13 f l1 l3))
  else (lt (oU M 49 8 1000000) fun M7 =>
  (p_B_assign f 9 0 (imin l1 l2) 0 M7).bind fun q8 =>
  some (.inr (0, q8.2)))
def p_B_planNewDebts (f : Nat) (l1 : Int) (M : oM) : Option (Int × oM) :=
  iter (p_B_planNewDebts_L4 f l1) f (0, 0, M)
def p_O_even_B75 (f : Nat) (l1 : Int) (l2 : Int) (l3 : Int) (M : oM) : Option (Int × oM) :=
  (p_B_planNewDebts f l3 M).bind fun q1 =>
  if l2 = 0 then (some (q1.2 49 8, q1.2))
  else (bnd 6 l1 fun i2 =>
  some (q1.2 54 i2, q1.2))
def p_O_even_B34 (f : Nat) (l1 : Int) (l2 : Int) (M : oM) : Option (Int × oM) :=
  (p_B_newDebts f  M).bind fun q3 =>
  if l1 = 100 then (some (q3.1, q3.2))
  else (if 6 < q3.1 then (some ((-3), q3.2))
  else (if l2 = 0 then (p_O_even_B75 f l1 l2 q3.1 q3.2)
  else (if l1 < q3.1 then (p_O_even_B75 f l1 l2 q3.1 q3.2)
  else (some ((-4), q3.2)))))
def p_O_even_B15 (f : Nat) (l1 : Int) (s0 : Int) (M : oM) : Option (Int × oM) :=
  if s0 = 0 then (if l1 = 100 then (p_O_even_B34 f l1 s0 M)
  else (if l1 = 101 then (p_O_even_B34 f l1 s0 M)
  else (some ((-1), M))))
  else (p_O_even_B34 f l1 s0 M)
def p_O_even_B14 (f : Nat) (l1 : Int) (M : oM) : Option (Int × oM) :=
  p_O_even_B15 f l1 0 M
def p_O_even (f : Nat) (l1 : Int) (M : oM) : Option (Int × oM) :=
  if l1 < 0 then (p_O_even_B14 f l1 M)
  else (if l1 < 6 then (p_O_even_B15 f l1 1 M)
  else (p_O_even_B14 f l1 M))
def p_B_isEvenTurned_L81 (f : Nat) : Int × oM → Option ((Int × oM) ⊕ (Int × oM))
  | (l3, M) =>
  if l3 < 10 then (bnd 10 l3 fun i1 =>
  if M 51 i1 = 0 then (lt (w32 (l3 + 1)) fun x2 =>
  some (.inl (x2, M)))
  else (some (.inr (0, M))))
  else (some (.inr (1, M)))
def p_B_isEvenTurned_X17 (f : Nat) (l1 : Int) (l2 : Int) : oM → Option (Int × oM)
  | M =>
  iter (p_B_isEvenTurned_L81 f) f (0, M)
def p_B_isEvenTurned_B73_17 (f : Nat) (l1 : Int) (l2 : Int) (l3 : Int) (M : oM) : Option ((Int × oM) ⊕ (oM)) :=
  lt (w32 (l3 + 1)) fun x3 =>
  some (.inl (x3, M))
def p_B_isEvenTurned_L17 (f : Nat) (l1 : Int) (l2 : Int) : Int × oM → Option ((Int × oM) ⊕ (oM))
  | (l3, M) =>
  if l3 < l2 then (if l3 < 12 then (if iand (ishr l1 l3) 1 = 1 then (bnd 12 l3 fun i4 =>
  nz 10 fun z5 =>
  bnd 10 (w32 (Int.tdiv (M 55 i4) z5)) fun i6 =>
  bnd 10 (w32 (Int.tdiv (M 55 i4) z5)) fun i7 =>
  lt (oU M 51 i7 (w32 ((M 51 i6) + 2))) fun M8 =>
  bnd 12 l3 fun i9 =>
  nz 10 fun z10 =>
  bnd 10 (Int.tmod (M8 55 i9) z10) fun i11 =>
  bnd 10 (Int.tmod (M8 55 i9) z10) fun i12 =>
  lt (oU M8 51 i12 (w32 ((M8 51 i11) - 2))) fun M13 =>
  p_B_isEvenTurned_B73_17 f l1 l2 l3 M13)
  else (p_B_isEvenTurned_B73_17 f l1 l2 l3 M))
  else (some (.inr M)))
  else (some (.inr M))
def p_B_isEvenTurned (f : Nat) (l1 : Int) (l2 : Int) (M : oM) : Option (Int × oM) :=
  cpg 10 10 0 0 10 fun _ =>
  lt (acopy M 50 0 51 0 10) fun M14 =>
  (iter (p_B_isEvenTurned_L17 f l1 l2) f (0, M14)).bind (p_B_isEvenTurned_X17 f l1 l2)
def p_D_listCoins_X13 (f : Nat) (o1 : Nat) (n1 : Int) (l3 : Int) : Int × oM → Option ((Int × Int × oM) ⊕ (Int × oM))
  | (l2, M) =>
  lt (w32 (l3 + 1)) fun x1 =>
  some (.inl (l2, x1, M))
def p_D_listCoins_L13 (f : Nat) (o1 : Nat) (n1 : Int) (l3 : Int) : Int × Int × oM → Option ((Int × Int × oM) ⊕ (Int × oM))
  | (l2, l4, M) =>
  bnd 100 l3 fun i2 =>
  if l4 < M 7 i2 then (if l2 < n1 then (bnd n1 l2 fun i3 =>
  lt (oU M o1 i3 l3) fun M4 =>
  lt (w32 (l2 + 1)) fun x5 =>
  lt (w32 (l4 + 1)) fun x6 =>
  some (.inl (x5, x6, M4)))
  else (some (.inr (l2, M))))
  else (some (.inr (l2, M)))
def p_D_listCoins_L4 (f : Nat) (o1 : Nat) (n1 : Int) : Int × Int × oM → Option ((Int × Int × oM) ⊕ (Int × oM))
  | (l2, l3, M) =>
  if l3 < 100 then ((iter (p_D_listCoins_L13 f o1 n1 l3) f (l2, 0, M)).bind (p_D_listCoins_X13 f o1 n1 l3))
  else (some (.inr (l2, M)))
def p_D_listCoins (f : Nat) (o1 : Nat) (n1 : Int) (M : oM) : Option (Int × oM) :=
  iter (p_D_listCoins_L4 f o1 n1) f (0, 0, M)
def p_JI_bitCount (f : Nat) (l0 : Int) (M : oM) : Option (Int × oM) :=
  lt (w32 (l0 - (iand (iushr l0 1) 1431655765))) fun x1 =>
  lt (w32 ((iand x1 858993459) + (iand (iushr x1 2) 858993459))) fun x2 =>
  lt (iand (w32 (x2 + (iushr x2 4))) 252645135) fun x3 =>
  lt (w32 (x3 + (iushr x3 8))) fun x4 =>
  lt (w32 (x4 + (iushr x4 16))) fun x5 =>
  some (iand x5 63, M)
def p_B_leastTurned_B61_23 (f : Nat) (l2 : Int) (l3 : Int) (l4 : Int) (l5 : Int) (M : oM) : Option ((Int × Int × Int × oM) ⊕ (Int × oM)) :=
  lt (w32 (l5 + 1)) fun x1 =>
  some (.inl (l3, l4, x1, M))
def p_B_leastTurned_L23 (f : Nat) (l2 : Int) : Int × Int × Int × oM → Option ((Int × Int × Int × oM) ⊕ (Int × oM))
  | (l3, l4, l5, M) =>
  if l5 < ishl 1 l2 then ((p_JI_bitCount f l5 M).bind fun q2 =>
  if q2.1 < l4 then ((p_B_isEvenTurned f l5 l2 q2.2).bind fun q3 =>
  if q3.1 = 0 then (p_B_leastTurned_B61_23 f l2 l3 l4 l5 q3.2)
  else ((p_JI_bitCount f l5 q3.2).bind fun q4 =>
  p_B_leastTurned_B61_23 f l2 l5 q4.1 l5 q4.2))
  else (p_B_leastTurned_B61_23 f l2 l3 l4 l5 q2.2))
  else (some (.inr (l3, M)))
def p_B_leastTurned (f : Nat) (M : oM) : Option (Int × oM) :=
  (p_B_weigh f  M).bind fun q5 =>
  (p_D_listCoins f 55 12  q5.2).bind fun q6 =>
  iter (p_B_leastTurned_L23 f q6.1) f ((-1), 13, 0, q6.2)
def p_O_turned_B11 (f : Nat) (l1 : Int) (M : oM) : Option (Int × oM) :=
  (p_D_owedInAll f 6  M).bind fun q1 =>
  if 12 < q1.1 then (some ((-3), q1.2))
  else ((p_B_leastTurned f  q1.2).bind fun q2 =>
  if q2.1 < 0 then (some ((-2), q2.2))
  else (if l1 = 1 then (some (q2.1, q2.2))
  else ((p_JI_bitCount f q2.1 q2.2).bind fun q3 =>
  some (q3.1, q3.2))))
def p_O_turned (f : Nat) (l1 : Int) (M : oM) : Option (Int × oM) :=
  if l1 = 0 then (p_O_turned_B11 f l1 M)
  else (if l1 = 1 then (p_O_turned_B11 f l1 M)
  else (some ((-1), M)))
def p_O_setOff (f : Nat) (l1 : Int) (M : oM) : Option (Int × oM) :=
  (p_P_has f l1 M).bind fun q1 =>
  if q1.1 = 0 then (some ((-1000000), q1.2))
  else ((p_D_owedTo f l1 q1.2).bind fun q2 =>
  (p_D_owedBy f 6 l1 q2.2).bind fun q3 =>
  some (w32 (q2.1 - q3.1), q3.2))
def p_B_fewestPayings_B93_7 (f : Nat) (l2 : Int) (s1 : Int) (s2 : Int) (M : oM) : Option ((Int × oM) ⊕ (Int × oM)) :=
  bnd 1024 s1 fun i1 =>
  lt (oU M 56 i1 s2) fun M2 =>
  lt (w32 (l2 + 1)) fun x3 =>
  some (.inl (x3, M2))
def p_B_fewestPayings_X22 (f : Nat) (l2 : Int) : Int × Int × oM → Option ((Int × oM) ⊕ (Int × oM))
  | (l3, l4, M) =>
  if l3 = 0 then (p_B_fewestPayings_B93_7 f l2 l2 (w32 (l4 + 1)) M)
  else (p_B_fewestPayings_B93_7 f l2 l2 l4 M)
def p_B_fewestPayings_B69_22 (f : Nat) (l2 : Int) (l3 : Int) (l4 : Int) (l5 : Int) (M : oM) : Option ((Int × Int × Int × oM) ⊕ (Int × Int × oM)) :=
  lt (w32 (l5 + 1)) fun x4 =>
  some (.inl (l3, l4, x4, M))
def p_B_fewestPayings_L22 (f : Nat) (l2 : Int) : Int × Int × Int × oM → Option ((Int × Int × Int × oM) ⊕ (Int × Int × oM))
  | (l3, l4, l5, M) =>
  if l5 < 10 then (if iand (ishr l2 l5) 1 = 1 then (bnd 10 l5 fun i5 =>
  lt (w32 (l3 + (M 50 i5))) fun x6 =>
  bnd 1024 (iand l2 (ixor (ishl 1 l5) (-1))) fun i7 =>
  lt (imax l4 (M 56 i7)) fun x8 =>
  p_B_fewestPayings_B69_22 f l2 x6 x8 l5 M)
  else (p_B_fewestPayings_B69_22 f l2 l3 l4 l5 M))
  else (some (.inr (l3, l4, M)))
def p_B_fewestPayings_L7 (f : Nat) : Int × oM → Option ((Int × oM) ⊕ (Int × oM))
  | (l2, M) =>
  if l2 < 1024 then ((iter (p_B_fewestPayings_L22 f l2) f (0, 0, 0, M)).bind (p_B_fewestPayings_X22 f l2))
  else (bnd 1024 1023 fun i9 =>
  some (.inr (w32 (10 - (M 56 i9)), M)))
def p_B_fewestPayings (f : Nat) (M : oM) : Option (Int × oM) :=
  (p_B_weigh f  M).bind fun q10 =>
  iter (p_B_fewestPayings_L7 f) f (1, q10.2)
def p_O_fewest (f : Nat) (M : oM) : Option (Int × oM) :=
  (p_B_fewestPayings f  M).bind fun q1 =>
  some (q1.1, q1.2)
def p_R_ringOf_B49_11 (f : Nat) (l1 : Int) (l2 : Int) (l3 : Int) (l4 : Int) (M : oM) : Option ((Int × Int × oM) ⊕ (Int × oM)) :=
  lt (w32 (l4 + 1)) fun x1 =>
  some (.inl (l2, x1, M))
def p_R_ringOf_L11 (f : Nat) (l1 : Int) (l3 : Int) : Int × Int × oM → Option ((Int × Int × oM) ⊕ (Int × oM))
  | (l2, l4, M) =>
  if l4 < 10 then (if iand (ishr l3 l4) 1 = 1 then ((p_R_reachedFrom f 7 l4 M).bind fun q2 =>
  if iand (ishr q2.1 l1) 1 = 1 then (lt (ior l2 (ishl 1 l4)) fun x3 =>
  p_R_ringOf_B49_11 f l1 x3 l3 l4 q2.2)
  else (p_R_ringOf_B49_11 f l1 l2 l3 l4 q2.2))
  else (p_R_ringOf_B49_11 f l1 l2 l3 l4 M))
  else (some (.inr (l2, M)))
def p_R_ringOf (f : Nat) (l1 : Int) (M : oM) : Option (Int × oM) :=
  (p_R_reachedFrom f 7 l1 M).bind fun q4 =>
  iter (p_R_ringOf_L11 f l1 q4.1) f (0, 0, q4.2)
def p_O_rings_B77_37 (f : Nat) (l2 : Int) (l3 : Int) (M : oM) : Option ((Int × Int × oM) ⊕ (Int × oM)) :=
  lt (w32 (l3 + 1)) fun x1 =>
  some (.inl (l2, x1, M))
def p_O_rings_L37 (f : Nat) : Int × Int × oM → Option ((Int × Int × oM) ⊕ (Int × oM))
  | (l2, l3, M) =>
  if l3 < 10 then ((p_P_has f l3 M).bind fun q2 =>
  if q2.1 = 0 then (p_O_rings_B77_37 f l2 l3 q2.2)
  else ((p_R_ringOf f l3 q2.2).bind fun q3 =>
  if iand q3.1 (w32 ((ishl 1 l3) - 1)) = 0 then (lt (w32 (l2 + 1)) fun x4 =>
  p_O_rings_B77_37 f x4 l3 q3.2)
  else (p_O_rings_B77_37 f l2 l3 q3.2)))
  else (some (.inr (l2, M)))
def p_O_rings (f : Nat) (l1 : Int) (M : oM) : Option (Int × oM) :=
  if l1 = 100 then (iter (p_O_rings_L37 f) f (0, 0, M))
  else ((p_P_has f l1 M).bind fun q5 =>
  if q5.1 = 0 then (some ((-1), q5.2))
  else ((p_R_ringOf f l1 q5.2).bind fun q6 =>
  some (q6.1, q6.2)))
def p_O_off (f : Nat) (M : oM) : Option (Int × oM) :=
  if M 6 4 < 0 then (some ((-2), M))
  else ((p_R_reachedFrom f 7 (M 6 4) M).bind fun q1 =>
  some (iand (M 3 2) (ixor q1.1 (-1)), q1.2))
def p_O_when_L46 (f : Nat) (l1 : Int) (l2 : Int) : Int × oM → Option ((Int × oM) ⊕ (Int × oM))
  | (l3, M) =>
  if l2 < l3 then (some (.inr ((-2), M)))
  else ((p_C_tick f 14  M).bind fun q1 =>
  if q1.2 41 5 = l1 then (some (.inr (l3, q1.2)))
  else (lt (w32 (l3 + 1)) fun x2 =>
  some (.inl (x2, q1.2))))
def p_O_when (f : Nat) (l1 : Int) (l2 : Int) (M : oM) : Option (Int × oM) :=
  (p_P_has f l1 M).bind fun q3 =>
  if q3.1 = 0 then (some ((-1), q3.2))
  else ((p_O_areHours f l2 q3.2).bind fun q4 =>
  if q4.1 = 0 then (some ((-1), q4.2))
  else (if q4.2 6 4 = l1 then (some (0, q4.2))
  else ((p_D_takeFrom f 14 6  q4.2).bind fun q5 =>
  iter (p_O_when_L46 f l1 l2) f (1, q5.2))))
def p_O_wedding_B117_41 (f : Nat) (l1 : Int) (l2 : Int) (l3 : Int) (l4 : Int) (l5 : Int) (l6 : Int) (M : oM) : Option ((Int × Int × Int × oM) ⊕ (Int × oM)) :=
  lt (w32 (l6 + 1)) fun x1 =>
  some (.inl (l4, l5, x1, M))
def p_O_wedding_B100_41 (f : Nat) (l1 : Int) (l2 : Int) (l3 : Int) (l4 : Int) (l5 : Int) (l6 : Int) (l7 : Int) (M : oM) : Option ((Int × Int × Int × oM) ⊕ (Int × oM)) :=
  if l4 = l7 then (if l5 = l7 then (some (.inr (l7, M)))
  else (p_O_wedding_B117_41 f l1 l2 l3 l4 l5 l6 M))
  else (p_O_wedding_B117_41 f l1 l2 l3 l4 l5 l6 M)
def p_O_wedding_L41 (f : Nat) (l1 : Int) (l2 : Int) (l3 : Int) : Int × Int × Int × oM → Option ((Int × Int × Int × oM) ⊕ (Int × oM))
  | (l4, l5, l6, M) =>
  if l6 < l3 then (lt (M 14 9) fun x2 =>
  (p_C_tick f 14  M).bind fun q3 =>
  if q3.2 41 5 = l1 then (p_O_wedding_B100_41 f l1 l2 l3 x2 l5 l6 x2 q3.2)
  else (if q3.2 41 5 = l2 then (p_O_wedding_B100_41 f l1 l2 l3 l4 x2 l6 x2 q3.2)
  else (p_O_wedding_B100_41 f l1 l2 l3 l4 l5 l6 x2 q3.2)))
  else (some (.inr ((-2), M)))
def p_O_wedding (f : Nat) (l1 : Int) (l2 : Int) (l3 : Int) (M : oM) : Option (Int × oM) :=
  (p_P_hasBoth f l1 l2 M).bind fun q4 =>
  if q4.1 = 0 then (some ((-1), q4.2))
  else ((p_O_areHours f l3 q4.2).bind fun q5 =>
  if q5.1 = 0 then (some ((-1), q5.2))
  else ((p_D_takeFrom f 14 6  q5.2).bind fun q6 =>
  iter (p_O_wedding_L41 f l1 l2 l3) f ((-1), (-1), 0, q6.2)))
def p_O_longest_B33_4 (f : Nat) (l1 : Int) (l2 : Int) (M : oM) : Option ((Int × Int × oM) ⊕ (Int × oM)) :=
  lt (w32 (l2 + 1)) fun x1 =>
  some (.inl (l1, x1, M))
def p_O_longest_L4 (f : Nat) : Int × Int × oM → Option ((Int × Int × oM) ⊕ (Int × oM))
  | (l1, l2, M) =>
  if l2 < 10 then (bnd 10 l2 fun i3 =>
  bnd 10 l1 fun i4 =>
  if M 8 i4 < M 8 i3 then (p_O_longest_B33_4 f l2 l2 M)
  else (p_O_longest_B33_4 f l1 l2 M))
  else (bnd 10 l1 fun i2 =>
  if 0 < M 8 i2 then (some (.inr (l1, M)))
  else (some (.inr ((-2), M))))
def p_O_longest (f : Nat) (M : oM) : Option (Int × oM) :=
  iter (p_O_longest_L4 f) f (0, 1, M)
def p_O_chalk (f : Nat) (l1 : Int) (M : oM) : Option (Int × oM) :=
  if l1 < 0 then (some ((-1), M))
  else (if l1 < M 6 3 then (if l1 < 40 then (bnd 40 l1 fun i1 =>
  some (M 9 i1, M))
  else (some ((-1), M)))
  else (some ((-1), M)))
def p_R_hoursOf_B58_5 (f : Nat) (l1 : Int) (l2 : Int) (l3 : Int) (l4 : Int) (M : oM) : Option ((Int × Int × oM) ⊕ (Int × oM)) :=
  lt (w32 (l4 + 1)) fun x1 =>
  some (.inl (l3, x1, M))
def p_R_hoursOf_L5 (f : Nat) (l1 : Int) (l2 : Int) : Int × Int × oM → Option ((Int × Int × oM) ⊕ (Int × oM))
  | (l3, l4, M) =>
  if l4 < l2 then (if l4 < 8 then (if iand (ishr l1 l4) 1 = 1 then (bnd 8 l4 fun i2 =>
  nz 10 fun z3 =>
  bnd 8 l4 fun i4 =>
  nz 10 fun z5 =>
  (p_P_way f (w32 (Int.tdiv (M 45 i2) z3)) (Int.tmod (M 45 i4) z5) M).bind fun q6 =>
  lt (w32 (l3 + q6.1)) fun x7 =>
  p_R_hoursOf_B58_5 f l1 l2 x7 l4 q6.2)
  else (p_R_hoursOf_B58_5 f l1 l2 l3 l4 M))
  else (some (.inr (l3, M))))
  else (some (.inr (l3, M)))
def p_R_hoursOf (f : Nat) (l1 : Int) (l2 : Int) (M : oM) : Option (Int × oM) :=
  iter (p_R_hoursOf_L5 f l1 l2) f (0, 0, M)
def p_R_setShare_B44_8 (f : Nat) (o1 : Nat) (l2 : Int) (l3 : Int) (l4 : Int) (M : oM) : Option ((Int × oM) ⊕ (Int × oM)) :=
  lt (w32 (l4 + 1)) fun x1 =>
  some (.inl (x1, M))
def p_R_setShare_L8 (f : Nat) (o1 : Nat) (l2 : Int) (l3 : Int) : Int × oM → Option ((Int × oM) ⊕ (Int × oM))
  | (l4, M) =>
  if l4 < l3 then (if l4 < 8 then (if iand (ishr l2 l4) 1 = 1 then (bnd 8 l4 fun i2 =>
  bnd 100 (M 45 i2) fun i3 =>
  bnd 100 (M 45 i2) fun i4 =>
  lt (oU M o1 i4 (w32 ((M o1 i3) + 1))) fun M5 =>
  p_R_setShare_B44_8 f o1 l2 l3 l4 M5)
  else (p_R_setShare_B44_8 f o1 l2 l3 l4 M))
  else (some (.inr (0, M))))
  else (some (.inr (0, M)))
def p_R_setShare (f : Nat) (o1 : Nat) (l2 : Int) (l3 : Int) (M : oM) : Option (Int × oM) :=
  (p_JA_fill f o1 100 0 M).bind fun q6 =>
  iter (p_R_setShare_L8 f o1 l2 l3) f (0, q6.2)
def p_R_sharedHours_B105_16 (f : Nat) (l2 : Int) (l3 : Int) (l4 : Int) (l5 : Int) (M : oM) : Option ((Int × Int × oM) ⊕ (Int × oM)) :=
  lt (w32 (l5 + 1)) fun x1 =>
  some (.inl (l4, x1, M))
def p_R_sharedHours_L16 (f : Nat) (l2 : Int) (l3 : Int) : Int × Int × oM → Option ((Int × Int × oM) ⊕ (Int × oM))
  | (l4, l5, M) =>
  if l5 < ishl 1 l3 then ((p_R_hoursOf f l5 l3 M).bind fun q2 =>
  (p_R_hoursOf f (ixor l5 (-1)) l3 q2.2).bind fun q3 =>
  lt (imax q2.1 q3.1) fun x4 =>
  if x4 < l4 then ((p_R_setShare f 43 l5 l3 q3.2).bind fun q5 =>
  (p_R_setShare f 44 (ixor l5 (-1)) l3 q5.2).bind fun q6 =>
  (p_R_isOneRow f 43 (q6.2 6 4) q6.2).bind fun q7 =>
  if q7.1 = 0 then (p_R_sharedHours_B105_16 f l2 l3 l4 l5 q7.2)
  else ((p_R_isOneRow f 44 l2 q7.2).bind fun q8 =>
  if q8.1 = 0 then (p_R_sharedHours_B105_16 f l2 l3 l4 l5 q8.2)
  else (p_R_sharedHours_B105_16 f l2 l3 x4 l5 q8.2)))
  else (p_R_sharedHours_B105_16 f l2 l3 l4 l5 q3.2))
  else (some (.inr (l4, M)))
def p_R_sharedHours (f : Nat) (l2 : Int) (M : oM) : Option (Int × oM) :=
  (p_D_listCoins f 45 8  M).bind fun q9 =>
  iter (p_R_sharedHours_L16 f l2 q9.1) f (1000000, 0, q9.2)
def p_O_two (f : Nat) (l1 : Int) (M : oM) : Option (Int × oM) :=
  (p_P_has f l1 M).bind fun q1 =>
  if q1.1 = 0 then (some ((-1), q1.2))
  else (if q1.2 6 4 < 0 then (some ((-2), q1.2))
  else ((p_D_owedInAll f 6  q1.2).bind fun q2 =>
  if 8 < q2.1 then (some ((-3), q2.2))
  else ((p_R_sharedHours f l1 q2.2).bind fun q3 =>
  if q3.1 < 1000000 then (some (q3.1, q3.2))
  else (some ((-4), q3.2)))))
def p_O_commonDivisor_L7 (f : Nat) : Int × Int × Int × oM → Option ((Int × Int × Int × oM) ⊕ (Int × oM))
  | (l2, l3, l4, M) =>
  if l4 < 64 then (if l3 = 0 then (some (.inr (l2, M)))
  else (nz l3 fun z1 =>
  lt (Int.tmod l2 z1) fun x2 =>
  lt (w32 (l4 + 1)) fun x3 =>
  some (.inl (l3, x2, x3, M))))
  else (some (.inr (l2, M)))
def p_O_commonDivisor (f : Nat) (l0 : Int) (l1 : Int) (M : oM) : Option (Int × oM) :=
  iter (p_O_commonDivisor_L7 f) f (l0, l1, 0, M)
def p_O_dry_L46 (f : Nat) (l1 : Int) (l2 : Int) (l3 : Int) : Int × Int × Int × oM → Option ((Int × Int × Int × oM) ⊕ (Int × oM))
  | (l4, l5, l6, M) =>
  if l6 < l1 then (lt (w32 (l4 * (w32 (10 - l3)))) fun x4 =>
  lt (w32 (l5 * 10)) fun x5 =>
  lt (w32 (l6 + 1)) fun x6 =>
  some (.inl (x4, x5, x6, M)))
  else ((p_O_commonDivisor f l4 l5 M).bind fun q1 =>
  if 0 < q1.1 then (if l2 = 0 then (nz q1.1 fun z3 =>
  some (.inr (w32 (Int.tdiv l4 z3), q1.2)))
  else (nz q1.1 fun z2 =>
  some (.inr (w32 (Int.tdiv l5 z2), q1.2))))
  else (some (.inr ((-1), q1.2))))
def p_O_dry_B22 (f : Nat) (l1 : Int) (l2 : Int) (M : oM) : Option (Int × oM) :=
  (p_L_rain f (M 6 9) M).bind fun q7 =>
  iter (p_O_dry_L46 f l1 l2 q7.1) f (1, 1, 0, q7.2)
def p_O_dry (f : Nat) (l1 : Int) (l2 : Int) (M : oM) : Option (Int × oM) :=
  if l1 < 1 then (some ((-1), M))
  else (if 9 < l1 then (some ((-1), M))
  else (if l2 = 0 then (p_O_dry_B22 f l1 l2 M)
  else (if l2 = 1 then (p_O_dry_B22 f l1 l2 M)
  else (some ((-1), M)))))
def p_O_seed (f : Nat) (l1 : Int) (M : oM) : Option (Int × oM) :=
  if l1 < 0 then (some (0, M))
  else (if 65535 < l1 then (some (0, M))
  else (lt (oU M 6 11 l1) fun M1 =>
  some (1, M1)))
def p_O_keep (f : Nat) (M : oM) : Option (Int × oM) :=
  (p_D_takeFrom f 10 6  M).bind fun q1 =>
  lt (oU q1.2 0 13 1) fun M2 =>
  (p_D_owedInAll f 6  M2).bind fun q3 =>
  some (q3.1, q3.2)
def p_O_undo (f : Nat) (M : oM) : Option (Int × oM) :=
  if M 0 13 = 0 then (bnd 2 (M 0 13) fun b1 => some (b1, M))
  else ((p_D_takeFrom f 6 10  M).bind fun q2 =>
  bnd 2 (q2.2 0 13) fun b3 => some (b3, q2.2))
def p_O_check_B70_21 (f : Nat) (l2 : Int) (M : oM) : Option ((Int × Int × oM) ⊕ (Int × oM)) :=
  (p_T_clear f  M).bind fun q1 =>
  some (.inr (l2, q1.2))
def p_O_check_B57_21 (f : Nat) (l1 : Int) (l2 : Int) (l3 : Int) (M : oM) : Option ((Int × Int × oM) ⊕ (Int × oM)) :=
  (p_T_step f  M).bind fun q2 =>
  lt (w32 (l3 + 1)) fun x3 =>
  some (.inl (l2, x3, q2.2))
def p_O_check_L21 (f : Nat) (l1 : Int) : Int × Int × oM → Option ((Int × Int × oM) ⊕ (Int × oM))
  | (l2, l3, M) =>
  if l3 < l1 then (if l2 = (-1) then ((p_T_next f  M).bind fun q4 =>
  (p_D_owedBy f 6 l3 q4.2).bind fun q5 =>
  if q4.1 = imin q5.1 255 then (p_O_check_B57_21 f l1 l2 l3 q5.2)
  else (p_O_check_B57_21 f l1 l3 l3 q5.2))
  else (p_O_check_B70_21 f l2 M))
  else (p_O_check_B70_21 f l2 M)
def p_O_check (f : Nat) (l1 : Int) (M : oM) : Option (Int × oM) :=
  (p_T_opens f l1 0 10 M).bind fun q6 =>
  if q6.1 = 0 then (some ((-2), q6.2))
  else (iter (p_O_check_L21 f l1) f ((-1), 0, q6.2))
def p_O_count (f : Nat) (l1 : Int) (M : oM) : Option (Int × oM) :=
  if l1 = 0 then (some (M 3 2, M))
  else (if l1 = 1 then ((p_D_owedInAll f 6  M).bind fun q1 =>
  some (q1.1, q1.2))
  else (if l1 = 2 then (if M 6 4 < 0 then (some ((-2), M))
  else (some (M 6 4, M)))
  else (if l1 = 3 then (if 0 < M 6 7 then (some (M 6 6, M))
  else (some ((-2), M)))
  else (if l1 = 4 then (some (M 6 7, M))
  else (if l1 = 5 then (some (M 6 8, M))
  else (if l1 = 6 then (some (M 6 9, M))
  else (if l1 = 7 then (if M 6 10 = 0 then (some (0, M))
  else (some (1, M)))
  else (if l1 = 8 then (some (M 6 3, M))
  else (if l1 = 9 then (some (M 18 10, M))
  else (if l1 = 10 then ((p_T_size f  M).bind fun q2 =>
  some (q2.1, q2.2))
  else (if l1 = 11 then (some (M 6 11, M))
  else (some ((-1), M)))))))))))))
end
