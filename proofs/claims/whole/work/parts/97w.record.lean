/-! THE LAW'S LOOP: one record of the script -/
def WG (L : Nat) (xs : Nat → Int) (k : Nat) (y : (Int × oM) ⊕ (Int × oM)) : Prop := ∃ T' M', y = .inl (6 * (k : Int) + 6, M') ∧ Rel T' ((k : Int) + 1) M' M'
theorem W_one {f L k : Nat} {xs : Nat → Int} {l3 : Int} {M : oM} {C R : oM → Option (Int × oM)} (hw : okp (C M) (fun q => okp (R q.2) (fun q' => q.1 = q'.1 ∧ ∃ T', Rel T' ((k : Int) + 1) q'.2 q'.2))) (hl : l3 = 6 * (k : Int)) (hb : l3 ≤ 3072) : okp ((C M).bind fun q => (R q.2).bind fun q' => if q.1 = q'.1 then (p_W_law_B1069_18 f L xs l3 q'.2) else (some (.inr (0, q'.2)))) (WG L xs k) := by
  refine okp_bind' (okp_mono hw fun q hq => okp_bind' (okp_mono hq fun q' hq' => ?_))
  obtain ⟨h1, T', h2⟩ := hq'
  rw [if_pos h1]
  unfold p_W_law_B1069_18
  rw [w32_of (a := l3 + 6) (by omega) (by omega), lt_eq]
  exact ⟨T', q'.2, by rw [hl], h2⟩
theorem W_step {f L k T : Nat} {xs : Nat → Int} {l3 : Int} {M : oM} (hf : 50000 < f) (hL : L ≤ 3072) (hxs : ∀ k, inR (xs k)) (hl : l3 = 6 * (k : Int)) (hk : l3 + 6 ≤ (L : Int)) (h : Rel T (k : Int) M M) : okp (p_W_law_L18 f L xs (l3, M)) (WG L xs k) := by
  have hL' : (L : Int) ≤ 3072 := Int.ofNat_le.mpr hL
  have hk0 : 0 ≤ (k : Int) := Int.natCast_nonneg k
  have hc : (k : Int) ≤ 512 := by omega
  have hf2 : 2000 < f := by omega
  have hf1 : 1000 < f := by omega
  have hf5 : 5000 < f := by omega
  have hb : l3 ≤ 3072 := by omega
  have bj : ∀ j : Int, 0 ≤ j → j ≤ 5 → ∀ F : Int → Option ((Int × oM) ⊕ (Int × oM)), bnd ((L : Nat) : Int) (w32 (l3 + j)) F = F (l3 + j) := fun j j0 j1 F => by
    rw [w32_of (a := l3 + j) (by omega) (by omega), bnd_eq (by omega) (by omega)]
  have b1 := bj 1 (by decide) (by decide)
  have b2 := bj 2 (by decide) (by decide)
  have b3 := bj 3 (by decide) (by decide)
  have b4 := bj 4 (by decide) (by decide)
  have b5 := bj 5 (by decide) (by decide)
  unfold p_W_law_L18
  simp only []
  rw [w32_of (a := (L : Int) - 6) (by omega) (by omega), if_neg (by omega), bnd_eq (by omega) (by omega), lt_eq]
  generalize iand (xs l3.toNat) 63 = x3
  by_cases q0 : x3 = 0
  · rw [if_pos q0]
    simp only [b1, b2, b3]
    exact W_one (C := fun M => p_O_person f (xs (l3 + 1).toNat) (xs (l3 + 2).toNat) (xs (l3 + 3).toNat) M) (R := fun M => p_M_person f (xs (l3 + 1).toNat) (xs (l3 + 2).toNat) (xs (l3 + 3).toNat) M) (wrap (fun M => fr_O_person (eqo_rfl _ M)) (fun M => fr_M_person (eqo_rfl _ M)) (by decide) (by decide) (fun Mc Mr h => call_person  h) h) hl hb
  rw [if_neg q0]
  by_cases q1 : x3 = 1
  · rw [if_pos q1]
    simp only [b1, b2, b3]
    exact W_one (C := fun M => p_O_debt f (xs (l3 + 1).toNat) (xs (l3 + 2).toNat) (xs (l3 + 3).toNat) M) (R := fun M => p_M_debt f (xs (l3 + 1).toNat) (xs (l3 + 2).toNat) (xs (l3 + 3).toNat) M) (wrap (fun M => fr_O_debt (eqo_rfl _ M)) (fun M => fr_M_debt (eqo_rfl _ M)) (by decide) (by decide) (fun Mc Mr h => call_debt  h) h) hl hb
  rw [if_neg q1]
  by_cases q2 : x3 = 2
  · rw [if_pos q2]
    simp only [b1]
    exact W_one (C := fun M => p_O_coin f (xs (l3 + 1).toNat) M) (R := fun M => p_M_coin f (xs (l3 + 1).toNat) M) (wrap (fun M => fr_O_coin (eqo_rfl _ M)) (fun M => fr_M_coin (eqo_rfl _ M)) (by decide) (by decide) (fun Mc Mr h => call_coin  h) h) hl hb
  rw [if_neg q2]
  by_cases q3 : x3 = 3
  · rw [if_pos q3]
    simp only [b1, b2, b3, b4, b5]
    exact W_one (C := fun M => p_O_feed f (xs (l3 + 1).toNat) (xs (l3 + 2).toNat) (xs (l3 + 3).toNat) (xs (l3 + 4).toNat) (xs (l3 + 5).toNat) M) (R := fun M => p_M_feed f (xs (l3 + 1).toNat) (xs (l3 + 2).toNat) (xs (l3 + 3).toNat) (xs (l3 + 4).toNat) (xs (l3 + 5).toNat) M) (wrap (fun M => fr_O_feed (eqo_rfl _ M)) (fun M => fr_M_feed (eqo_rfl _ M)) (by decide) (by decide) (fun Mc Mr h => call_feed hf2 h) h) hl hb
  rw [if_neg q3]
  by_cases q4 : x3 = 4
  · rw [if_pos q4]
    simp only [b1]
    exact W_one (C := fun M => p_O_law f (xs (l3 + 1).toNat) M) (R := fun M => p_M_law f (xs (l3 + 1).toNat) M) (wrap (fun M => fr_O_law (eqo_rfl _ M)) (fun M => fr_M_law (eqo_rfl _ M)) (by decide) (by decide) (fun Mc Mr h => call_law hf2 h) h) hl hb
  rw [if_neg q4]
  by_cases q5 : x3 = 5
  · rw [if_pos q5]
    simp only [b1]
    exact W_one (C := fun M => p_O_debts f (xs (l3 + 1).toNat) M) (R := fun M => p_M_debts f (xs (l3 + 1).toNat) M) (wrap (fun M => fr_O_debts (eqo_rfl _ M)) (fun M => fr_M_debts (eqo_rfl _ M)) (by decide) (by decide) (fun Mc Mr h => call_debts hf2 h) h) hl hb
  rw [if_neg q5]
  by_cases q6 : x3 = 6
  · rw [if_pos q6]
    simp only [b1]
    exact W_one (C := fun M => p_O_hours f (xs (l3 + 1).toNat) M) (R := fun M => p_M_hours f (xs (l3 + 1).toNat) M) (wrap (fun M => fr_O_hours (eqo_rfl _ M)) (fun M => fr_M_hours (eqo_rfl _ M)) (by decide) (by decide) (fun Mc Mr h => call_hours hf2 hc h) h) hl hb
  rw [if_neg q6]
  by_cases q7 : x3 = 7
  · rw [if_pos q7]
    simp only [b1, b2]
    exact W_one (C := fun M => p_O_tried f (xs (l3 + 1).toNat) (xs (l3 + 2).toNat) M) (R := fun M => p_M_tried f (xs (l3 + 1).toNat) (xs (l3 + 2).toNat) M) (wrap (fun M => fr_O_tried (eqo_rfl _ M)) (fun M => fr_M_tried (eqo_rfl _ M)) (by decide) (by decide) (fun Mc Mr h => call_tried hf2 hc (hxs _) h) h) hl hb
  rw [if_neg q7]
  by_cases q8 : x3 = 8
  · rw [if_pos q8]
    simp only [b1, b2]
    exact W_one (C := fun M => p_O_personIs f (xs (l3 + 1).toNat) (xs (l3 + 2).toNat) M) (R := fun M => p_M_personIs f (xs (l3 + 1).toNat) (xs (l3 + 2).toNat) M) (wrap (fun M => fr_O_personIs (eqo_rfl _ M)) (fun M => fr_M_personIs (eqo_rfl _ M)) (by decide) (by decide) (fun Mc Mr h => call_personIs hf1 h) h) hl hb
  rw [if_neg q8]
  by_cases q9 : x3 = 9
  · rw [if_pos q9]
    simp only [b1, b2]
    exact W_one (C := fun M => p_O_owes f (xs (l3 + 1).toNat) (xs (l3 + 2).toNat) M) (R := fun M => p_M_owes f (xs (l3 + 1).toNat) (xs (l3 + 2).toNat) M) (wrap (fun M => fr_O_owes (eqo_rfl _ M)) (fun M => fr_M_owes (eqo_rfl _ M)) (by decide) (by decide) (fun Mc Mr h => call_owes  h) h) hl hb
  rw [if_neg q9]
  by_cases q10 : x3 = 10
  · rw [if_pos q10]
    simp only [b1, b2]
    exact W_one (C := fun M => p_O_likes f (xs (l3 + 1).toNat) (xs (l3 + 2).toNat) M) (R := fun M => p_M_likes f (xs (l3 + 1).toNat) (xs (l3 + 2).toNat) M) (wrap (fun M => fr_O_likes (eqo_rfl _ M)) (fun M => fr_M_likes (eqo_rfl _ M)) (by decide) (by decide) (fun Mc Mr h => call_likes hf1 h) h) hl hb
  rw [if_neg q10]
  by_cases q11 : x3 = 11
  · rw [if_pos q11]
    simp only [b1, b2]
    exact W_one (C := fun M => p_O_route f (xs (l3 + 1).toNat) (xs (l3 + 2).toNat) M) (R := fun M => p_M_route f (xs (l3 + 1).toNat) (xs (l3 + 2).toNat) M) (wrap (fun M => fr_O_route (eqo_rfl _ M)) (fun M => fr_M_route (eqo_rfl _ M)) (by decide) (by decide) (fun Mc Mr h => call_route hf2 h) h) hl hb
  rw [if_neg q11]
  by_cases q12 : x3 = 12
  · rw [if_pos q12]
    simp only [b1]
    exact W_one (C := fun M => p_O_walk f (xs (l3 + 1).toNat) M) (R := fun M => p_M_walk f (xs (l3 + 1).toNat) M) (wrap (fun M => fr_O_walk (eqo_rfl _ M)) (fun M => fr_M_walk (eqo_rfl _ M)) (by decide) (by decide) (fun Mc Mr h => call_walk hf2 h) h) hl hb
  rw [if_neg q12]
  by_cases q13 : x3 = 13
  · rw [if_pos q13]
    simp only [b1]
    exact W_one (C := fun M => p_O_tour f (xs (l3 + 1).toNat) M) (R := fun M => p_M_tour f (xs (l3 + 1).toNat) M) (wrap (fun M => fr_O_tour (eqo_rfl _ M)) (fun M => fr_M_tour (eqo_rfl _ M)) (by decide) (by decide) (fun Mc Mr h => call_tour hf2 h) h) hl hb
  rw [if_neg q13]
  by_cases q14 : x3 = 14
  · rw [if_pos q14]
    simp only [b1]
    exact W_one (C := fun M => p_O_most f (xs (l3 + 1).toNat) M) (R := fun M => p_M_most f (xs (l3 + 1).toNat) M) (wrap (fun M => fr_O_most (eqo_rfl _ M)) (fun M => fr_M_most (eqo_rfl _ M)) (by decide) (by decide) (fun Mc Mr h => call_most hf5 h) h) hl hb
  rw [if_neg q14]
  by_cases q15 : x3 = 15
  · rw [if_pos q15]
    simp only [b1, b2]
    exact W_one (C := fun M => p_O_back f (xs (l3 + 1).toNat) (xs (l3 + 2).toNat) M) (R := fun M => p_M_back f (xs (l3 + 1).toNat) (xs (l3 + 2).toNat) M) (wrap (fun M => fr_O_back (eqo_rfl _ M)) (fun M => fr_M_back (eqo_rfl _ M)) (by decide) (by decide) (fun Mc Mr h => call_back hf2 h) h) hl hb
  rw [if_neg q15]
  by_cases q16 : x3 = 16
  · rw [if_pos q16]
    simp only [b1]
    exact W_one (C := fun M => p_O_even f (xs (l3 + 1).toNat) M) (R := fun M => p_M_even f (xs (l3 + 1).toNat) M) (wrap (fun M => fr_O_even (eqo_rfl _ M)) (fun M => fr_M_even (eqo_rfl _ M)) (by decide) (by decide) (fun Mc Mr h => call_even hf h) h) hl hb
  rw [if_neg q16]
  by_cases q17 : x3 = 17
  · rw [if_pos q17]
    simp only [b1]
    exact W_one (C := fun M => p_O_turned f (xs (l3 + 1).toNat) M) (R := fun M => p_M_turned f (xs (l3 + 1).toNat) M) (wrap (fun M => fr_O_turned (eqo_rfl _ M)) (fun M => fr_M_turned (eqo_rfl _ M)) (by decide) (by decide) (fun Mc Mr h => call_turned hf5 h) h) hl hb
  rw [if_neg q17]
  by_cases q18 : x3 = 18
  · rw [if_pos q18]
    simp only [b1]
    exact W_one (C := fun M => p_O_setOff f (xs (l3 + 1).toNat) M) (R := fun M => p_M_setOff f (xs (l3 + 1).toNat) M) (wrap (fun M => fr_O_setOff (eqo_rfl _ M)) (fun M => fr_M_setOff (eqo_rfl _ M)) (by decide) (by decide) (fun Mc Mr h => call_setOff hf1 h) h) hl hb
  rw [if_neg q18]
  by_cases q19 : x3 = 19
  · rw [if_pos q19]
    exact W_one (C := fun M => p_O_fewest f  M) (R := fun M => p_M_fewest f  M) (wrap (fun M => fr_O_fewest (eqo_rfl _ M)) (fun M => fr_M_fewest (eqo_rfl _ M)) (by decide) (by decide) (fun Mc Mr h => call_fewest hf2 h) h) hl hb
  rw [if_neg q19]
  by_cases q20 : x3 = 20
  · rw [if_pos q20]
    simp only [b1]
    exact W_one (C := fun M => p_O_rings f (xs (l3 + 1).toNat) M) (R := fun M => p_M_rings f (xs (l3 + 1).toNat) M) (wrap (fun M => fr_O_rings (eqo_rfl _ M)) (fun M => fr_M_rings (eqo_rfl _ M)) (by decide) (by decide) (fun Mc Mr h => call_rings hf2 h) h) hl hb
  rw [if_neg q20]
  by_cases q21 : x3 = 21
  · rw [if_pos q21]
    exact W_one (C := fun M => p_O_off f  M) (R := fun M => p_M_off f  M) (wrap (fun M => fr_O_off (eqo_rfl _ M)) (fun M => fr_M_off (eqo_rfl _ M)) (by decide) (by decide) (fun Mc Mr h => call_off hf2 h) h) hl hb
  rw [if_neg q21]
  by_cases q22 : x3 = 22
  · rw [if_pos q22]
    simp only [b1, b2]
    exact W_one (C := fun M => p_O_when f (xs (l3 + 1).toNat) (xs (l3 + 2).toNat) M) (R := fun M => p_M_when f (xs (l3 + 1).toNat) (xs (l3 + 2).toNat) M) (wrap (fun M => fr_O_when (eqo_rfl _ M)) (fun M => fr_M_when (eqo_rfl _ M)) (by decide) (by decide) (fun Mc Mr h => call_when hf2 hc h) h) hl hb
  rw [if_neg q22]
  by_cases q23 : x3 = 23
  · rw [if_pos q23]
    simp only [b1, b2, b3]
    exact W_one (C := fun M => p_O_wedding f (xs (l3 + 1).toNat) (xs (l3 + 2).toNat) (xs (l3 + 3).toNat) M) (R := fun M => p_M_wedding f (xs (l3 + 1).toNat) (xs (l3 + 2).toNat) (xs (l3 + 3).toNat) M) (wrap (fun M => fr_O_wedding (eqo_rfl _ M)) (fun M => fr_M_wedding (eqo_rfl _ M)) (by decide) (by decide) (fun Mc Mr h => call_wedding hf2 hc h) h) hl hb
  rw [if_neg q23]
  by_cases q24 : x3 = 24
  · rw [if_pos q24]
    exact W_one (C := fun M => p_O_longest f  M) (R := fun M => p_M_longest f  M) (wrap (fun M => fr_O_longest (eqo_rfl _ M)) (fun M => fr_M_longest (eqo_rfl _ M)) (by decide) (by decide) (fun Mc Mr h => call_longest hf2 h) h) hl hb
  rw [if_neg q24]
  by_cases q25 : x3 = 25
  · rw [if_pos q25]
    simp only [b1]
    exact W_one (C := fun M => p_O_chalk f (xs (l3 + 1).toNat) M) (R := fun M => p_M_chalk f (xs (l3 + 1).toNat) M) (wrap (fun M => fr_O_chalk (eqo_rfl _ M)) (fun M => fr_M_chalk (eqo_rfl _ M)) (by decide) (by decide) (fun Mc Mr h => call_chalk  h) h) hl hb
  rw [if_neg q25]
  by_cases q26 : x3 = 26
  · rw [if_pos q26]
    simp only [b1]
    exact W_one (C := fun M => p_O_two f (xs (l3 + 1).toNat) M) (R := fun M => p_M_two f (xs (l3 + 1).toNat) M) (wrap (fun M => fr_O_two (eqo_rfl _ M)) (fun M => fr_M_two (eqo_rfl _ M)) (by decide) (by decide) (fun Mc Mr h => call_two hf2 h) h) hl hb
  rw [if_neg q26]
  by_cases q27 : x3 = 27
  · rw [if_pos q27]
    simp only [b1, b2]
    exact W_one (C := fun M => p_O_dry f (xs (l3 + 1).toNat) (xs (l3 + 2).toNat) M) (R := fun M => p_M_dry f (xs (l3 + 1).toNat) (xs (l3 + 2).toNat) M) (wrap (fun M => fr_O_dry (eqo_rfl _ M)) (fun M => fr_M_dry (eqo_rfl _ M)) (by decide) (by decide) (fun Mc Mr h => call_dry hf2 h) h) hl hb
  rw [if_neg q27]
  by_cases q28 : x3 = 28
  · rw [if_pos q28]
    simp only [b1]
    exact W_one (C := fun M => p_O_seed f (xs (l3 + 1).toNat) M) (R := fun M => p_M_seed f (xs (l3 + 1).toNat) M) (wrap (fun M => fr_O_seed (eqo_rfl _ M)) (fun M => fr_M_seed (eqo_rfl _ M)) (by decide) (by decide) (fun Mc Mr h => call_seed  h) h) hl hb
  rw [if_neg q28]
  by_cases q29 : x3 = 29
  · rw [if_pos q29]
    exact W_one (C := fun M => p_O_keep f  M) (R := fun M => p_M_keep f  M) (wrap (fun M => fr_O_keep (eqo_rfl _ M)) (fun M => fr_M_keep (eqo_rfl _ M)) (by decide) (by decide) (fun Mc Mr h => call_keep hf1 h) h) hl hb
  rw [if_neg q29]
  by_cases q30 : x3 = 30
  · rw [if_pos q30]
    exact W_one (C := fun M => p_O_undo f  M) (R := fun M => p_M_undo f  M) (wrap (fun M => fr_O_undo (eqo_rfl _ M)) (fun M => fr_M_undo (eqo_rfl _ M)) (by decide) (by decide) (fun Mc Mr h => call_undo hf1 h) h) hl hb
  rw [if_neg q30]
  by_cases q31 : x3 = 31
  · rw [if_pos q31]
    simp only [b1]
    exact W_one (C := fun M => p_O_check f (xs (l3 + 1).toNat) M) (R := fun M => p_M_check f (xs (l3 + 1).toNat) M) (wrap (fun M => fr_O_check (eqo_rfl _ M)) (fun M => fr_M_check (eqo_rfl _ M)) (by decide) (by decide) (fun Mc Mr h => call_check hf2 h) h) hl hb
  rw [if_neg q31]
  by_cases q32 : x3 = 32
  · rw [if_pos q32]
    simp only [b1]
    exact W_one (C := fun M => p_O_count f (xs (l3 + 1).toNat) M) (R := fun M => p_M_count f (xs (l3 + 1).toNat) M) (wrap (fun M => fr_O_count (eqo_rfl _ M)) (fun M => fr_M_count (eqo_rfl _ M)) (by decide) (by decide) (fun Mc Mr h => call_count hf1 h) h) hl hb
  rw [if_neg q32]
  unfold p_W_law_B1069_18
  rw [w32_of (a := l3 + 6) (by omega) (by omega), lt_eq]
  exact ⟨T, M, by rw [hl], Rel_mono h (by omega)⟩
