/-! paying; a duchy copied, on both sides -/
theorem pay_pays {f T : Nat} {h a b : Int} {o : Nat} {Mc Mr : oM} (hf : 1000 < f) (hd : dR T h o Mc Mr) (ha : tld T a) (hb : tld T b) : okp (p_D_pay f o a b Mc) (fun q => okp (p_M_pays f a b Mr) (fun q' => dR T h o q.2 q'.2)) := by
  have ra := tldb_rng ha
  have rb := tldb_rng hb
  obtain ⟨hc, hr⟩ := hd
  have hk := hr.1 (10 * a + b) (by omega) (by omega)
  have hk2 := hr.2.1 a b ra.1 ra.2 rb.1 rb.2
  have ec := hc.1 (10 * a + b) (by omega) (by omega)
  have key : ∀ (M1 : oM), dR T h o M1 (oU Mr 58 (10 * a + b) (if 0 < Mr 58 (10 * a + b) - 1 then Mr 58 (10 * a + b) - 1 else 0)) → okp (p_D_pay_B24 f o b M1) (fun q => okp (p_M_pays f a b Mr) (fun q' => dR T h o q.2 q'.2)) := by
    intro M1 h1
    obtain ⟨N1, N2, e1, e2, h2, -⟩ := giveTo_rests (f := f) h1 hb
    have h3 := write_chalks (f := f) hf h2 rb
    unfold p_D_pay_B24
    rw [e1]
    simp only [Option.bind_some]
    refine okp_bind' (okp_mono h3 ?_)
    intro q hq
    unfold p_M_pays
    rw [e_M_debtOf ra rb]
    simp only [Option.bind_some, e_M_max]
    simp (disch := omega) only [bnd_eq, nz_eq, lt_eq, if_pos, if_neg, w32_of, if_true, if_false, not_true_eq_false, not_false_eq_true, Option.bind_some, oU_at, oU_o, oU_i, b01_t, b01_f, Int.zero_add]
    rw [show (if Mr 58 (10 * a + b) - 1 < 0 then (0 : Int) else Mr 58 (10 * a + b) - 1) = (if 0 < Mr 58 (10 * a + b) - 1 then Mr 58 (10 * a + b) - 1 else 0) from by split <;> split <;> omega, e2]
    simp only [Option.bind_some]
    exact okp_bind' (okp_mono hq fun q' hq' => hq')
  unfold p_D_pay
  rw [e_D_debtOf ra rb]
  simp only [Option.bind_some]
  rw [ec]
  by_cases q : 0 < Mr 58 (10 * a + b)
  · simp (disch := omega) only [if_pos, w32_of, bnd_eq, lt_eq]
    rw [show a * 10 + b = 10 * a + b from by omega, ec, w32_of (by omega) (by omega)]
    refine key _ ?_
    have e : (if 0 < Mr 58 (10 * a + b) - 1 then Mr 58 (10 * a + b) - 1 else 0) = Mr 58 (10 * a + b) - 1 := by split <;> omega
    rw [e]
    refine ⟨?_, ?_⟩
    · rw [oU_sD]; exact dC_debt hc hr (by omega)
    · rw [oU_sD]; exact rOk_debt hr ra rb (by omega) (fun _ => hk2 q)
  · simp (disch := omega) only [if_neg]
    refine key _ ?_
    have e : (if 0 < Mr 58 (10 * a + b) - 1 then Mr 58 (10 * a + b) - 1 else 0) = Mr 58 (10 * a + b) := by split <;> omega
    rw [e]
    have e2 : oU Mr 58 (10 * a + b) (Mr 58 (10 * a + b)) = Mr := by
      funext o' i'
      unfold oU
      split
      · rename_i z; rw [z.1, z.2]
      · rfl
    rw [e2]
    exact ⟨hc, hr⟩
theorem e_D_takeFrom {f o0 o1 T : Nat} {h : Int} {M : oM} {D : Int → Int} (ho : o0 + 3 < o1 ∨ o1 + 3 < o0) (hc : dC M o1 D) (hr : rOk T h D) : okp (p_D_takeFrom f o0 o1 M) (fun q => dC q.2 o0 D ∧ ∀ i : Int, 0 ≤ i → i < 10 → q.2 (o0 + 2) i = M (o1 + 2) i) := by
  obtain ⟨c1, c2, c3, c4, c5, c6, c7, c8, c9, c10, c11, c12⟩ := hc
  have h4 := hr.2.2.2.1
  have h12 := hr.2.2.2.2.2.2.2.2.2.2.2.1
  unfold p_D_takeFrom
  simp (disch := omega) only [cpg_eq, lt_eq, oU_o, oU_i, acopy_o]
  rw [bnd_eq (by omega) (by omega)]
  refine ⟨⟨?_, ?_, ?_, ?_, ?_, ?_, ?_, ?_, ?_, ?_, ?_, ?_⟩, ?_⟩
  · intro i i0 i1
    simp (disch := omega) only [oU_o, acopy_o, acopy_in]
    rw [show 0 + (i - 0) = i from by omega]; exact c1 i i0 i1
  · intro i i0 i1
    simp (disch := omega) only [oU_o, acopy_o, acopy_in]
    rw [show 0 + (i - 0) = i from by omega]; exact c2 i i0 i1
  · intro i i0 i1
    simp (disch := omega) only [oU_o, acopy_o, acopy_in]
    rw [show 0 + (i - 0) = i from by omega]; exact c3 i i0 i1
  · simp (disch := omega) only [oU_i, oU_at]; exact c4
  · simp (disch := omega) only [oU_i, oU_at]; exact c5
  · simp (disch := omega) only [oU_i, oU_at]; exact c6
  · simp (disch := omega) only [oU_i, oU_at]; exact c7
  · simp (disch := omega) only [oU_i, oU_at]; exact c8
  · simp (disch := omega) only [oU_i, oU_at]; exact c9
  · simp (disch := omega) only [oU_i, oU_at]; exact c10
  · simp (disch := omega) only [oU_i, oU_at]; exact c11
  · simp (disch := omega) only [oU_at]; exact c12
  · intro i i0 i1
    simp (disch := omega) only [oU_o, acopy_o, acopy_in]
    rw [show 0 + (i - 0) = i from by omega]
theorem e_M_copies {f a b : Nat} {M : oM} (hf : 1000 < f) (hab : a ≠ b) : okp (p_M_copies f a b M) (fun q => ∀ i : Int, 0 ≤ i → i < 159 → q.2 b i = M a i) := by
  unfold p_M_copies
  refine for_ok 159 (fun n s => s.1 = (n : Int) ∧ (∀ i, s.2 a i = M a i) ∧ ∀ i : Int, 0 ≤ i → i < (n : Int) → s.2 b i = M a i) ?_ ?_ f (by omega) ⟨rfl, fun _ => rfl, fun i i0 i1 => by omega⟩
  · intro n s hn hI
    obtain ⟨k, M'⟩ := s
    have hI' : k = (n : Int) ∧ (∀ i, M' a i = M a i) ∧ ∀ i : Int, 0 ≤ i → i < (n : Int) → M' b i = M a i := hI
    obtain ⟨hk, hI1, hI2⟩ := hI'
    subst hk
    unfold p_M_copies_L2
    simp only []
    simp (disch := omega) only [bnd_eq, nz_eq, lt_eq, if_pos, if_neg, w32_of, if_true, if_false, not_true_eq_false, not_false_eq_true, Option.bind_some, oU_at, oU_o, oU_i, b01_t, b01_f]
    refine ⟨by show (n : Int) + 1 = ((n + 1 : Nat) : Int); omega, fun i => ?_, fun i i0 i1 => ?_⟩
    · show oU M' b n (M' a n) a i = _
      rw [oU_o hab]; exact hI1 i
    · show oU M' b n (M' a n) b i = _
      by_cases hi : i = n
      · subst hi; rw [oU_at]; exact hI1 _
      · rw [oU_i hi]; exact hI2 i i0 (by omega)
  · intro s hI
    obtain ⟨k, M'⟩ := s
    have hk : k = ((159 : Nat) : Int) := hI.1
    unfold p_M_copies_L2
    simp only []
    rw [if_neg (by omega)]
    exact hI.2.2
theorem call_keep {f T : Nat} {c : Int} {Mc Mr : oM} (hf : 1000 < f) (h : Rel T c Mc Mr) : Same f c (p_O_keep f Mc) (p_M_keep f Mr) := by
  obtain ⟨hp, hd, ho, hk, ht, hl, hz⟩ := id h
  obtain ⟨a, ea, ha, -⟩ := okp_ex (e_D_takeFrom (f := f) (o0 := 10) (o1 := 6) (by omega) hd ho)
  have fa := fr_D_takeFrom (eqo_rfl _ _) _ ea
  obtain ⟨b, eb, hb⟩ := okp_ex (e_M_copies (f := f) (a := 58) (b := 60) (M := oU Mr 57 61 1) hf (by omega))
  have fb := fr_M_copies (eqo_rfl _ _) _ eb
  have hd7 : ∀ i : Int, 0 ≤ i → i < 100 → oU a.2 0 13 1 (6 + 1) i = Mr 58 i := fun i i0 i1 => by
    rw [oU_o (by omega), fa (6 + 1) i rfl]; exact hd.1 i i0 i1
  have hb58 : ∀ i, b.2 58 i = Mr 58 i := fun i => by rw [fb 58 i rfl, oU_o (by omega)]
  have e1 : p_O_keep f Mc = some (allS (Mr 58), oU a.2 0 13 1) := by
    unfold p_O_keep
    rw [ea]
    simp only [Option.bind_some, lt_eq]
    rw [e_D_owedInAll (by omega) (fun i i0 i1 => by rw [hd7 i i0 i1]; exact ho.1 i i0 i1)]
    simp only [Option.bind_some]
    rw [allS_congr hd7]
  have e2 : p_M_keep f Mr = some (allS (Mr 58), b.2) := by
    unfold p_M_keep
    simp only [lt_eq]
    rw [eb]
    simp only [Option.bind_some]
    rw [e_M_owedInAll (by omega) (fun i i0 i1 => by rw [hb58 i]; exact ho.1 i i0 i1)]
    simp only [Option.bind_some]
    rw [allS_congr (fun i _ _ => hb58 i)]
  have g1 := fr_O_keep (eqo_rfl _ _) _ e1
  have g2 := fr_M_keep (eqo_rfl _ _) _ e2
  refine same_upd e1 e2 ⟨T, pplR_eqo hp g1 g2 rfl, dC_congr (dC_eqo hd g1 rfl) ho (fun i _ _ => hb58 i), rOk_mono (rOk_congr ho (fun i _ _ => hb58 i)) (by omega), ⟨.inr oU_at, ?_, fun _ => ⟨?_, ?_⟩⟩, tapR_eqo ht g1 g2 rfl, lawR_eqo hl g1 g2 rfl, (g1 56 0 rfl).trans hz⟩
  · rw [fb 57 61 rfl]; simp (disch := omega) only [bnd_eq, nz_eq, lt_eq, if_pos, if_neg, w32_of, if_true, if_false, not_true_eq_false, not_false_eq_true, Option.bind_some, oU_at, oU_o, oU_i, b01_t, b01_f]
  · refine dC_congr (D := Mr 58) ?_ ho (fun i i0 i1 => by rw [hb i i0 i1, oU_o (by omega)])
    exact dC_eqo ha (eqo_oU (ws := [(0, 13)]) (.head _) (eqo_rfl _ _)) rfl
  · exact rOk_mono (rOk_congr ho (fun i i0 i1 => by rw [hb i i0 i1, oU_o (by omega)])) (by omega)
theorem call_undo {f T : Nat} {c : Int} {Mc Mr : oM} (hf : 1000 < f) (h : Rel T c Mc Mr) : Same f c (p_O_undo f Mc) (p_M_undo f Mr) := by
  obtain ⟨hp, hd, ho, hk, ht, hl, hz⟩ := id h
  rcases hk.1 with q | q
  · refine same_some (r := 0) h ?_ ?_
    · unfold p_O_undo
      simp (disch := omega) only [bnd_eq, nz_eq, lt_eq, if_pos, if_neg, w32_of, if_true, if_false, not_true_eq_false, not_false_eq_true, Option.bind_some, oU_at, oU_o, oU_i, b01_t, b01_f, q]
    · unfold p_M_undo
      simp (disch := omega) only [bnd_eq, nz_eq, lt_eq, if_pos, if_neg, w32_of, if_true, if_false, not_true_eq_false, not_false_eq_true, Option.bind_some, oU_at, oU_o, oU_i, b01_t, b01_f, hk.2.1, q]
  · obtain ⟨k1, k2⟩ := hk.2.2 q
    obtain ⟨a, ea, ha, -⟩ := okp_ex (e_D_takeFrom (f := f) (o0 := 6) (o1 := 10) (by omega) k1 k2)
    have fa := fr_D_takeFrom (eqo_rfl _ _) _ ea
    obtain ⟨b, eb, hb⟩ := okp_ex (e_M_copies (f := f) (a := 60) (b := 58) (M := Mr) hf (by omega))
    have fb := fr_M_copies (eqo_rfl _ _) _ eb
    have e1 : p_O_undo f Mc = some (1, a.2) := by
      unfold p_O_undo
      simp (disch := omega) only [q, if_neg]
      rw [ea]
      simp only [Option.bind_some]
      rw [fa 0 13 rfl, q]
      simp (disch := omega) only [bnd_eq, nz_eq, lt_eq, if_pos, if_neg, w32_of, if_true, if_false, not_true_eq_false, not_false_eq_true, Option.bind_some, oU_at, oU_o, oU_i, b01_t, b01_f]
    have e2 : p_M_undo f Mr = some (1, b.2) := by
      unfold p_M_undo
      simp (disch := omega) only [hk.2.1, q, if_neg]
      rw [eb]
      simp only [Option.bind_some]
    have g1 := fr_O_undo (eqo_rfl _ _) _ e1
    have g2 := fr_M_undo (eqo_rfl _ _) _ e2
    refine same_upd e1 e2 ⟨T, Rel_duchy h g1 g2 rfl (dC_congr ha k2 hb) (rOk_mono (rOk_congr k2 hb) (by omega))⟩
