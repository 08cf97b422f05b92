/-! the law asked: letters, rules, likes, growth, rain -/
def fcV (D X Y : Int → Int) (a b : Int) (j : Int) : Int :=
  if j = 0 then a else if j = 1 then b else if j = 2 then D (10 * a + b) else if j = 3 then oweS D a else if j = 4 then wayS X Y a b else if j = 5 then tch D b else if j = 6 then D 155 else D 156
theorem wayS_congr {X Y X' Y' : Int → Int} {a b : Int} (ha : 0 ≤ a ∧ a < 10) (hb : 0 ≤ b ∧ b < 10) (h : ∀ i : Int, 0 ≤ i → i < 10 → X i = X' i ∧ Y i = Y' i) : wayS X Y a b = wayS X' Y' a b := by
  unfold wayS
  rw [(h a ha.1 ha.2).1, (h a ha.1 ha.2).2, (h b hb.1 hb.2).1, (h b hb.1 hb.2).2]
theorem pplR_spotR {T : Nat} {Mc Mr : oM} (hp : pplR T Mc Mr) : spotOk (Mr 61) ∧ spotOk (Mr 62) := by
  obtain ⟨-, -, -, h4, h5, h6⟩ := hp
  exact ⟨fun i i0 i1 => by rw [(h6 i i0 i1).1]; exact h4 i i0 i1, fun i i0 i1 => by rw [(h6 i i0 i1).2]; exact h5 i i0 i1⟩
theorem j8 {P : Int → Prop} (h0 : P 0) (h1 : P 1) (h2 : P 2) (h3 : P 3) (h4 : P 4) (h5 : P 5) (h6 : P 6) (h7 : P 7) : ∀ j : Int, 0 ≤ j → j < 8 → P j := by
  intro j j0 j1
  have : j = 0 ∨ j = 1 ∨ j = 2 ∨ j = 3 ∨ j = 4 ∨ j = 5 ∨ j = 6 ∨ j = 7 := by omega
  rcases this with rfl | rfl | rfl | rfl | rfl | rfl | rfl | rfl <;> assumption
theorem dC_of {M M' : oM} {o : Nat} {D : Int → Int} (h : dC M o D) (e0 : M' o = M o) (e1 : M' (o + 1) = M (o + 1)) (e2 : M' (o + 2) = M (o + 2)) (e3 : M' (o + 3) = M (o + 3)) : dC M' o D := by
  unfold dC
  rw [e0, e1, e2, e3]; exact h
theorem e_look {f o T : Nat} {h a b : Int} {M : oM} {D : Int → Int} (hf : 1000 < f) (ho : o ≤ 14) (hX : spotOk (M 4)) (hY : spotOk (M 5)) (hc : dC M o D) (hr : rOk T h D) (ha : 0 ≤ a ∧ a < 10) (hb : 0 ≤ b ∧ b < 10) :
    okp (p_L_look f o a b M) (fun q => ∀ j : Int, 0 ≤ j → j < 8 → q.2 25 j = fcV D (M 4) (M 5) a b j) := by
  have hd := dC_dOk hc hr
  unfold p_L_look
  rw [bnd_eq (by omega) (by omega), lt_eq, bnd_eq (by omega) (by omega), lt_eq, e_D_debtOf ha hb]
  simp only [Option.bind_some]
  rw [bnd_eq (by omega) (by omega), lt_eq, oU_row (o' := o + 1) (by omega), oU_row (o' := o + 1) (by omega), e_D_owedBy' (by omega) ha (by rw [oU_row (by omega), oU_row (by omega), oU_row (by omega)]; exact hd)]
  simp only [Option.bind_some]
  rw [bnd_eq (by omega) (by omega), lt_eq, e_P_way (by rw [oU_row (by omega), oU_row (by omega), oU_row (by omega), oU_row (by omega)]; exact hX) (by rw [oU_row (by omega), oU_row (by omega), oU_row (by omega), oU_row (by omega)]; exact hY) ha hb]
  simp only [Option.bind_some]
  rw [bnd_eq (by omega) (by omega), lt_eq, e_D_timesChalked (T := T) (h := h) (D := D) hf ?_ hr]
  · simp only [Option.bind_some]
    rw [bnd_eq (by omega) (by omega), lt_eq, bnd_eq (by omega) (by omega), lt_eq, bnd_eq (by omega) (by omega), lt_eq]
    obtain ⟨c1, c2, c3, c4, c5, c6, c7, c8, c9, c10, -⟩ := hc
    refine j8 ?_ ?_ ?_ ?_ ?_ ?_ ?_ ?_
    · simp (disch := omega) only [oU_i, oU_at]; rfl
    · simp (disch := omega) only [oU_i, oU_at]; rfl
    · simp (disch := omega) only [oU_i, oU_at]; exact c1 _ (by omega) (by omega)
    · simp (disch := omega) only [oU_i, oU_at, oU_row]; exact oweS_congr ha c1
    · simp (disch := omega) only [oU_i, oU_at, oU_row]; rfl
    · simp (disch := omega) only [oU_i, oU_at]; rfl
    · simp (disch := omega) only [oU_i, oU_at, oU_o]; exact c9
    · simp (disch := omega) only [oU_i, oU_at, oU_o]; exact c10
  · exact dC_of hc (by rw [oU_row (by omega), oU_row (by omega), oU_row (by omega), oU_row (by omega), oU_row (by omega)]) (by rw [oU_row (by omega), oU_row (by omega), oU_row (by omega), oU_row (by omega), oU_row (by omega)]) (by rw [oU_row (by omega), oU_row (by omega), oU_row (by omega), oU_row (by omega), oU_row (by omega)]) (by rw [oU_row (by omega), oU_row (by omega), oU_row (by omega), oU_row (by omega), oU_row (by omega)])
theorem e_M_feels {f : Nat} {hour : Int} {M : oM} (hf : 1000 < f) : okp (p_M_feels f hour M) (fun q => ∀ j : Int, 0 ≤ j → j < 8 → q.2 76 j = if j = 6 then hour else if j = 7 then M 58 156 else 0) := by
  unfold p_M_feels
  refine for_ok 8 (fun n s => s.1 = (n : Int) ∧ (∀ i, s.2 58 i = M 58 i) ∧ ∀ i : Int, 0 ≤ i → i < (n : Int) → s.2 76 i = 0) ?_ ?_ f (by omega) ⟨rfl, fun _ => rfl, fun i i0 i1 => by omega⟩
  · intro n ⟨k, M'⟩ hn hI
    have hI' : k = (n : Int) ∧ (∀ i, M' 58 i = M 58 i) ∧ ∀ i : Int, 0 ≤ i → i < (n : Int) → M' 76 i = 0 := hI
    obtain ⟨hk, hI1, hI2⟩ := hI'
    subst hk
    unfold p_M_feels_L2
    simp only []
    simp (disch := omega) only [bnd_eq, nz_eq, lt_eq, if_pos, if_neg, w32_of, if_true, if_false, not_true_eq_false, not_false_eq_true, Option.bind_some, oU_at, oU_o, oU_i, b01_t, b01_f]
    refine ⟨by show (n : Int) + 1 = ((n + 1 : Nat) : Int); omega, fun i => ?_, fun i i0 i1 => ?_⟩
    · show oU M' 76 n 0 58 i = _
      rw [oU_o (by omega)]; exact hI1 i
    · show oU M' 76 n 0 76 i = _
      by_cases hi : i = n
      · subst hi; rw [oU_at]
      · rw [oU_i hi]; exact hI2 i i0 (by omega)
  · intro ⟨k, M'⟩ hI
    have hk : k = ((8 : Nat) : Int) := hI.1
    unfold p_M_feels_L2
    simp only []
    rw [if_neg (by omega)]
    simp (disch := omega) only [bnd_eq, nz_eq, lt_eq, if_pos, if_neg, w32_of, if_true, if_false, not_true_eq_false, not_false_eq_true, Option.bind_some, oU_at, oU_o, oU_i, b01_t, b01_f]
    intro j j0 j1
    show oU (oU M' 76 6 hour) 76 7 (M' 58 156) 76 j = _
    by_cases j7 : j = 7
    · subst j7
      simp (disch := omega) only [bnd_eq, nz_eq, lt_eq, if_pos, if_neg, w32_of, if_true, if_false, not_true_eq_false, not_false_eq_true, Option.bind_some, oU_at, oU_o, oU_i, b01_t, b01_f]
      exact hI.2.1 156
    · by_cases j6 : j = 6
      · subst j6
        simp (disch := omega) only [bnd_eq, nz_eq, lt_eq, if_pos, if_neg, w32_of, if_true, if_false, not_true_eq_false, not_false_eq_true, Option.bind_some, oU_at, oU_o, oU_i, b01_t, b01_f]
      · simp (disch := omega) only [bnd_eq, nz_eq, lt_eq, if_pos, if_neg, w32_of, if_true, if_false, not_true_eq_false, not_false_eq_true, Option.bind_some, oU_at, oU_o, oU_i, b01_t, b01_f]
        exact hI.2.2 j j0 (by show j < ((8 : Nat) : Int); omega)
theorem e_feelsTwo {f T : Nat} {h a b : Int} {M : oM} (hf : 1000 < f) (hX : spotOk (M 61)) (hY : spotOk (M 62)) (hr : rOk T h (M 58)) (ha : 0 ≤ a ∧ a < 10) (hb : 0 ≤ b ∧ b < 10) :
    okp (p_M_feelsTwo f a b M) (fun q => ∀ j : Int, 0 ≤ j → j < 8 → q.2 76 j = fcV (M 58) (M 61) (M 62) a b j) := by
  unfold p_M_feelsTwo
  rw [bnd_eq (by omega) (by omega)]
  obtain ⟨q, eq, hq⟩ := okp_ex (e_M_feels (f := f) (hour := M 58 155) (M := M) hf)
  have fq := fr_M_feels (eqo_rfl _ _) _ eq
  have g58 : q.2 58 = M 58 := eqo_a fq 58 rfl
  have g61 : q.2 61 = M 61 := eqo_a fq 61 rfl
  have g62 : q.2 62 = M 62 := eqo_a fq 62 rfl
  rw [eq]
  simp only [Option.bind_some]
  rw [bnd_eq (by omega) (by omega), lt_eq, bnd_eq (by omega) (by omega), lt_eq, e_M_debtOf ha hb]
  simp only [Option.bind_some]
  rw [bnd_eq (by omega) (by omega), lt_eq, oU_row (o' := 58) (by omega), oU_row (o' := 58) (by omega), g58, e_M_owesAll (by omega) ha (by rw [oU_row (by omega), oU_row (by omega), oU_row (by omega), g58]; exact hr.1)]
  simp only [Option.bind_some]
  rw [bnd_eq (by omega) (by omega), lt_eq, e_M_wayOf (by rw [oU_row (by omega), oU_row (by omega), oU_row (by omega), oU_row (by omega), g61]; exact hX) (by rw [oU_row (by omega), oU_row (by omega), oU_row (by omega), oU_row (by omega), g62]; exact hY) ha hb]
  simp only [Option.bind_some]
  rw [bnd_eq (by omega) (by omega), lt_eq, e_M_chalksOf (T := T) (h := h) hf (by rw [oU_row (by omega), oU_row (by omega), oU_row (by omega), oU_row (by omega), oU_row (by omega), g58]; exact hr)]
  simp only [Option.bind_some]
  rw [bnd_eq (by omega) (by omega), lt_eq]
  refine j8 ?_ ?_ ?_ ?_ ?_ ?_ ?_ ?_
  · simp (disch := omega) only [oU_i, oU_at]; rfl
  · simp (disch := omega) only [oU_i, oU_at]; rfl
  · simp (disch := omega) only [oU_i, oU_at]; rfl
  · simp (disch := omega) only [oU_i, oU_at, oU_row, g58]; rfl
  · simp (disch := omega) only [oU_i, oU_at, oU_row, g61, g62]; rfl
  · simp (disch := omega) only [oU_i, oU_at, oU_row, g58]; rfl
  · simp (disch := omega) only [oU_i]
    rw [hq 6 (by omega) (by omega)]; rfl
  · simp (disch := omega) only [oU_i]
    rw [hq 7 (by omega) (by omega)]; rfl
/-- the letters agree after both have looked -/
theorem look_feels {f o T : Nat} {h a b : Int} {Mc Mr : oM} (hf : 1000 < f) (ho : o ≤ 14) (hp : pplR T Mc Mr) (hd : dR T h o Mc Mr) (ha : 0 ≤ a ∧ a < 10) (hb : 0 ≤ b ∧ b < 10) :
    ∃ q q', p_L_look f o a b Mc = some q ∧ p_M_feelsTwo f a b Mr = some q' ∧ (∀ j : Int, 0 ≤ j → j < 8 → q.2 25 j = q'.2 76 j) ∧ eqo [(25, (-1))] Mc q.2 ∧ eqo [(76, (-1))] Mr q'.2 := by
  obtain ⟨q, e1, h1⟩ := okp_ex (e_look (f := f) hf ho hp.2.2.2.1 hp.2.2.2.2.1 hd.1 hd.2 ha hb)
  obtain ⟨q', e2, h2⟩ := okp_ex (e_feelsTwo (f := f) hf (pplR_spotR hp).1 (pplR_spotR hp).2 hd.2 ha hb)
  refine ⟨q, q', e1, e2, fun j j0 j1 => ?_, fr_L_look (eqo_rfl _ _) _ e1, fr_M_feelsTwo (eqo_rfl _ _) _ e2⟩
  rw [h1 j j0 j1, h2 j j0 j1]
  unfold fcV
  rw [wayS_congr ha hb (fun i i0 i1 => ⟨(hp.2.2.2.2.2 i i0 i1).1.symm, (hp.2.2.2.2.2 i i0 i1).2.symm⟩)]
