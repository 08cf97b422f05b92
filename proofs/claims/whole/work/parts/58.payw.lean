/-! paying at the end of a way: the row's facts but for the coin's own -/
def rOkw (T : Nat) (h : Int) (D : Int → Int) : Prop :=
  (∀ i : Int, 0 ≤ i → i < 100 → 0 ≤ D i ∧ D i ≤ 99) ∧ (∀ a b : Int, 0 ≤ a → a < 10 → 0 ≤ b → b < 10 → 0 < D (10 * a + b) → tld T a ∧ tld T b ∧ a ≠ b) ∧
  (∀ i : Int, 0 ≤ i → i < 10 → 0 ≤ D (100 + i) ∧ D (100 + i) ≤ h ∧ (0 < D (100 + i) → tld T i)) ∧
  (0 ≤ D 150 ∧ D 150 ≤ 40) ∧ (∀ i : Int, 0 ≤ i → i < D 150 → 0 ≤ D (110 + i) ∧ D (110 + i) < 10) ∧
  (0 ≤ D 155 ∧ D 155 ≤ 23) ∧ (0 ≤ D 156 ∧ 24 * D 156 + D 155 ≤ h) ∧ (D 157 = 0 ∨ D 157 = 1) ∧ (0 ≤ D 158 ∧ D 158 ≤ 65535)
theorem rOk_w {T : Nat} {h : Int} {D : Int → Int} (hd : rOk T h D) : rOkw T h D := ⟨hd.1, hd.2.1, hd.2.2.1, hd.2.2.2.1, hd.2.2.2.2.1, hd.2.2.2.2.2.2.2.2.2.1, hd.2.2.2.2.2.2.2.2.2.2.1, hd.2.2.2.2.2.2.2.2.2.2.2.1, hd.2.2.2.2.2.2.2.2.2.2.2.2⟩
theorem rOk_of {T : Nat} {h : Int} {D : Int → Int} (hw : rOkw T h D) (h6 : D 151 = -2 ∨ tld T (D 151)) (h7 : 0 ≤ D 154 ∧ D 154 ≤ 18) (h8 : 0 < D 154 → D 151 = -2 ∧ tld T (D 152) ∧ tld T (D 153) ∧ D 152 ≠ D 153) (h9 : D 154 = 0 → D 153 = -2) : rOk T h D :=
  ⟨hw.1, hw.2.1, hw.2.2.1, hw.2.2.2.1, hw.2.2.2.2.1, h6, h7, h8, h9, hw.2.2.2.2.2⟩
/-- the facts but the coin's, by the places -/
theorem rOkw_congr {T : Nat} {h : Int} {D D' : Int → Int} (hd : rOkw T h D) (he : ∀ i : Int, 0 ≤ i → (i < 151 ∨ 154 < i) → D' i = D i) : rOkw T h D' := by
  obtain ⟨h1, h2, h3, h4, h5, h6⟩ := hd
  unfold rOkw
  rw [he 150 (by omega) (by omega), he 155 (by omega) (by omega), he 156 (by omega) (by omega), he 157 (by omega) (by omega), he 158 (by omega) (by omega)]
  refine ⟨fun i a b => by rw [he i (by omega) (by omega)]; exact h1 i a b, fun a b a0 a1 b0 b1 q => ?_, fun i a b => by rw [he (100 + i) (by omega) (by omega)]; exact h3 i a b, h4, fun i a b => by rw [he (110 + i) (by omega) (by omega)]; exact h5 i a b, h6⟩
  rw [he (10 * a + b) (by omega) (by omega)] at q
  exact h2 a b a0 a1 b0 b1 q
theorem rOkw_debt {T : Nat} {h : Int} {D : Int → Int} {a b n : Int} (hd : rOkw T h D) (ha : 0 ≤ a ∧ a < 10) (hb : 0 ≤ b ∧ b < 10) (hn : 0 ≤ n ∧ n ≤ 99) (ht : 0 < n → tld T a ∧ tld T b ∧ a ≠ b) : rOkw T h (sD D (10 * a + b) n) := by
  obtain ⟨h1, h2, h3, h4, h5, h6⟩ := hd
  unfold rOkw
  simp (disch := omega) only [sD_ne]
  refine ⟨fun i i0 i1 => ?_, fun a' b' a0 a1 b0 b1 q => ?_, fun i i0 i1 => ?_, h4, fun i i0 i1 => ?_, h6⟩
  · by_cases hi : i = 10 * a + b
    · subst hi; rw [sD_at]; exact hn
    · rw [sD_ne hi]; exact h1 i i0 i1
  · by_cases hi : 10 * a' + b' = 10 * a + b
    · have e1 : a' = a := by omega
      have e2 : b' = b := by omega
      subst e1; subst e2
      rw [sD_at] at q; exact ht q
    · rw [sD_ne hi] at q; exact h2 a' b' a0 a1 b0 b1 q
  · rw [sD_ne (by omega)]; exact h3 i i0 i1
  · rw [sD_ne (by omega)]; exact h5 i i0 i1
theorem dC_debtw {M : oM} {o : Nat} {D : Int → Int} {k n : Int} (hc : dC M o D) (hb : D 150 ≤ 40) (hk : 0 ≤ k ∧ k < 100) : dC (oU M (o + 1) k n) o (sD D k n) := by
  obtain ⟨h1, h2, h3, h4⟩ := hc
  unfold dC
  simp (disch := omega) only [sD_ne, oU_o]
  refine ⟨fun i i0 i1 => ?_, fun i i0 i1 => ?_, fun i i0 i1 => ?_, h4⟩
  · by_cases hi : i = k
    · subst hi; rw [sD_at, oU_at]
    · rw [sD_ne hi, oU_i hi]; exact h1 i i0 i1
  · rw [sD_ne (by omega)]; exact h2 i i0 i1
  · rw [sD_ne (by omega)]; exact h3 i i0 i1
theorem giveTo_restsw {f T : Nat} {h p : Int} {o : Nat} {Mc Mr : oM} (hc : dC Mc o (Mr 58)) (hw : rOkw T h (Mr 58)) (hp : tld T p) : ∃ M1 M2, p_D_giveTo f o p Mc = some (0, M1) ∧ p_M_rests f p Mr = some (0, M2) ∧ dR T h o M1 M2 := by
  have hp' := tld_iff.1 hp
  refine ⟨oU (oU (oU (oU Mc o 4 p) o 5 (-1)) o 6 (-1)) o 7 0, oU (oU (oU Mr 58 151 p) 58 153 (-2)) 58 154 0, rfl, ?_, ?_⟩
  · unfold p_M_rests
    simp (disch := omega) only [bnd_eq, nz_eq, lt_eq, if_pos, if_neg, w32_of, if_true, if_false, not_true_eq_false, not_false_eq_true, Option.bind_some, oU_at, oU_o, oU_i, b01_t, b01_f]
  have hD : oU (oU (oU Mr 58 151 p) 58 153 (-2)) 58 154 0 58 = sD (sD (sD (Mr 58) 151 p) 153 (-2)) 154 0 := by rw [oU_sD, oU_sD, oU_sD]
  have hb := hw.2.2.2.1
  obtain ⟨c1, c2, c3, c4, c5, c6, c7, c8, c9⟩ := hc
  unfold dR
  rw [hD]
  refine ⟨⟨?_, ?_, ?_, ?_, ?_, ?_, ?_, ?_, ?_⟩, rOk_of (rOkw_congr hw fun i i0 i1 => ?_) ?_ ?_ ?_ ?_⟩
  · intro i i0 i1
    simp (disch := omega) only [bnd_eq, nz_eq, lt_eq, if_pos, if_neg, w32_of, if_true, if_false, not_true_eq_false, not_false_eq_true, Option.bind_some, oU_at, oU_o, oU_i, b01_t, b01_f, sD_ne]
    exact c1 i i0 i1
  · intro i i0 i1
    simp (disch := omega) only [bnd_eq, nz_eq, lt_eq, if_pos, if_neg, w32_of, if_true, if_false, not_true_eq_false, not_false_eq_true, Option.bind_some, oU_at, oU_o, oU_i, b01_t, b01_f, sD_ne]
    exact c2 i i0 i1
  · intro i i0
    simp (disch := omega) only [bnd_eq, nz_eq, lt_eq, if_pos, if_neg, w32_of, if_true, if_false, not_true_eq_false, not_false_eq_true, Option.bind_some, oU_at, oU_o, oU_i, b01_t, b01_f, sD_ne]
    intro i1
    simp (disch := omega) only [bnd_eq, nz_eq, lt_eq, if_pos, if_neg, w32_of, if_true, if_false, not_true_eq_false, not_false_eq_true, Option.bind_some, oU_at, oU_o, oU_i, b01_t, b01_f, sD_ne]
    exact c3 i i0 i1
  · simp (disch := omega) only [bnd_eq, nz_eq, lt_eq, if_pos, if_neg, w32_of, if_true, if_false, not_true_eq_false, not_false_eq_true, Option.bind_some, oU_at, oU_o, oU_i, b01_t, b01_f, sD_ne]
    exact c4
  · simp (disch := omega) only [bnd_eq, nz_eq, lt_eq, if_pos, if_neg, w32_of, if_true, if_false, not_true_eq_false, not_false_eq_true, Option.bind_some, oU_at, oU_o, oU_i, b01_t, b01_f, sD_ne, sD_at]
    unfold p21; rw [if_neg (by omega)]
  · simp (disch := omega) only [bnd_eq, nz_eq, lt_eq, if_pos, if_neg, w32_of, if_true, if_false, not_true_eq_false, not_false_eq_true, Option.bind_some, oU_at, oU_o, oU_i, b01_t, b01_f, sD_ne, sD_at]
    intro q; omega
  · simp (disch := omega) only [bnd_eq, nz_eq, lt_eq, if_pos, if_neg, w32_of, if_true, if_false, not_true_eq_false, not_false_eq_true, Option.bind_some, oU_at, oU_o, oU_i, b01_t, b01_f, sD_ne, sD_at]
    rfl
  · simp (disch := omega) only [bnd_eq, nz_eq, lt_eq, if_pos, if_neg, w32_of, if_true, if_false, not_true_eq_false, not_false_eq_true, Option.bind_some, oU_at, oU_o, oU_i, b01_t, b01_f, sD_ne, sD_at]
  · simp (disch := omega) only [bnd_eq, nz_eq, lt_eq, if_pos, if_neg, w32_of, if_true, if_false, not_true_eq_false, not_false_eq_true, Option.bind_some, oU_at, oU_o, oU_i, b01_t, b01_f, sD_ne, sD_at]
    exact c9
  · simp (disch := omega) only [bnd_eq, nz_eq, lt_eq, if_pos, if_neg, w32_of, if_true, if_false, not_true_eq_false, not_false_eq_true, Option.bind_some, oU_at, oU_o, oU_i, b01_t, b01_f, sD_ne, sD_at]
  · simp (disch := omega) only [bnd_eq, nz_eq, lt_eq, if_pos, if_neg, w32_of, if_true, if_false, not_true_eq_false, not_false_eq_true, Option.bind_some, oU_at, oU_o, oU_i, b01_t, b01_f, sD_ne, sD_at]
    exact .inr hp
  · simp (disch := omega) only [bnd_eq, nz_eq, lt_eq, if_pos, if_neg, w32_of, if_true, if_false, not_true_eq_false, not_false_eq_true, Option.bind_some, oU_at, oU_o, oU_i, b01_t, b01_f, sD_ne, sD_at]
    omega
  · simp (disch := omega) only [bnd_eq, nz_eq, lt_eq, if_pos, if_neg, w32_of, if_true, if_false, not_true_eq_false, not_false_eq_true, Option.bind_some, oU_at, oU_o, oU_i, b01_t, b01_f, sD_ne, sD_at]
    intro q; omega
  · simp (disch := omega) only [bnd_eq, nz_eq, lt_eq, if_pos, if_neg, w32_of, if_true, if_false, not_true_eq_false, not_false_eq_true, Option.bind_some, oU_at, oU_o, oU_i, b01_t, b01_f, sD_ne, sD_at]
    intro _; trivial
theorem pay_paysw {f T : Nat} {h a b : Int} {o : Nat} {Mc Mr : oM} (hf : 1000 < f) (hc : dC Mc o (Mr 58)) (hr : rOkw T h (Mr 58)) (ha : tld T a) (hb : tld T b) : okp (p_D_pay f o a b Mc) (fun q => okp (p_M_pays f a b Mr) (fun q' => dR T h o q.2 q'.2)) := by
  have ra := tldb_rng ha
  have rb := tldb_rng hb
  have hk := hr.1 (10 * a + b) (by omega) (by omega)
  have hk2 := hr.2.1 a b ra.1 ra.2 rb.1 rb.2
  have ec := hc.1 (10 * a + b) (by omega) (by omega)
  have key : ∀ (M1 : oM), dC M1 o (oU Mr 58 (10 * a + b) (if 0 < Mr 58 (10 * a + b) - 1 then Mr 58 (10 * a + b) - 1 else 0) 58) → rOkw T h (oU Mr 58 (10 * a + b) (if 0 < Mr 58 (10 * a + b) - 1 then Mr 58 (10 * a + b) - 1 else 0) 58) → okp (p_D_pay_B24 f o b M1) (fun q => okp (p_M_pays f a b Mr) (fun q' => dR T h o q.2 q'.2)) := by
    intro M1 h1 h1'
    obtain ⟨N1, N2, e1, e2, h2⟩ := giveTo_restsw (f := f) h1 h1' hb
    have h3 := write_chalks (f := f) hf h2 rb
    unfold p_D_pay_B24
    rw [e1]
    simp only [Option.bind_some]
    refine okp_bind' (okp_mono h3 ?_)
    intro q hq
    unfold p_M_pays
    rw [e_M_debtOf ra rb]
    simp only [Option.bind_some, e_M_max]
    simp (disch := omega) only [bnd_eq, nz_eq, lt_eq, if_pos, if_neg, w32_of, if_true, if_false, not_true_eq_false, not_false_eq_true, Option.bind_some, oU_at, oU_o, oU_i, b01_t, b01_f, Int.zero_add]
    rw [show (if Mr 58 (10 * a + b) - 1 < 0 then (0 : Int) else Mr 58 (10 * a + b) - 1) = (if 0 < Mr 58 (10 * a + b) - 1 then Mr 58 (10 * a + b) - 1 else 0) from by split <;> split <;> omega, e2]
    simp only [Option.bind_some]
    exact okp_bind' (okp_mono hq fun q' hq' => hq')
  unfold p_D_pay
  rw [e_D_debtOf ra rb]
  simp only [Option.bind_some]
  rw [ec]
  by_cases q : 0 < Mr 58 (10 * a + b)
  · simp (disch := omega) only [if_pos, w32_of, bnd_eq, lt_eq]
    rw [show a * 10 + b = 10 * a + b from by omega, ec, w32_of (by omega) (by omega)]
    have e : (if 0 < Mr 58 (10 * a + b) - 1 then Mr 58 (10 * a + b) - 1 else 0) = Mr 58 (10 * a + b) - 1 := by split <;> omega
    refine key _ ?_ ?_
    · rw [e, oU_sD]; exact dC_debtw hc hr.2.2.2.1.2 (by omega)
    · rw [e, oU_sD]; exact rOkw_debt hr ra rb (by omega) (fun _ => hk2 q)
  · simp (disch := omega) only [if_neg]
    have e : (if 0 < Mr 58 (10 * a + b) - 1 then Mr 58 (10 * a + b) - 1 else 0) = Mr 58 (10 * a + b) := by split <;> omega
    have e2 : oU Mr 58 (10 * a + b) (Mr 58 (10 * a + b)) = Mr := by
      funext o' i'
      unfold oU
      split
      · rename_i z; rw [z.1, z.2]
      · rfl
    refine key _ ?_ ?_
    · rw [e, e2]; exact hc
    · rw [e, e2]; exact hr
