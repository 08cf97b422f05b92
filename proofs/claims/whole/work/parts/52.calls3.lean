/-! chalk, personIs, setOff, count, keep, undo, longest -/
def tch (D : Int → Int) (p : Int) : Int := sumN (fun k => if D (110 + (k : Int)) = p then 1 else 0) (D 150).toNat
theorem tch_bd {T : Nat} {h : Int} {D : Int → Int} {p : Int} (hd : rOk T h D) : 0 ≤ tch D p ∧ tch D p ≤ 40 := by
  have h4 := hd.2.2.2.1
  have := sumN_bd (g := fun k => if D (110 + (k : Int)) = p then 1 else 0) (b := 1) (D 150).toNat (fun k _ => by split <;> omega)
  unfold tch
  omega
theorem e_D_timesChalked {f o T : Nat} {h p : Int} {M : oM} {D : Int → Int} (hf : 1000 < f) (hc : dC M o D) (hd : rOk T h D) : p_D_timesChalked f o p M = some (tch D p, M) := by
  have h4 := hd.2.2.2.1
  obtain ⟨c1, c2, c3, c4, -⟩ := hc
  unfold p_D_timesChalked tch
  refine iter_up (D 150).toNat (fun i => (sumN (fun k => if D (110 + (k : Int)) = p then 1 else 0) i, (i : Int), M)) _ ?_ ?_ f (by omega)
  · intro i hi
    have hb := sumN_bd (g := fun k => if D (110 + (k : Int)) = p then 1 else 0) (b := 1) i (fun k _ => by split <;> omega)
    show p_D_timesChalked_L4 f o p (_, _, M) = some (.inl (sumN (fun k => if D (110 + (k : Int)) = p then 1 else 0) i + _, _, M))
    unfold p_D_timesChalked_L4 p_D_timesChalked_B31_4
    simp only []
    rw [c4, if_pos (by omega), if_pos (by omega), bnd_eq (by omega) (by omega), c3 i (by omega) (by omega)]
    by_cases q : D (110 + (i : Int)) = p
    · simp (disch := omega) only [bnd_eq, nz_eq, lt_eq, if_pos, if_neg, w32_of, if_true, if_false, not_true_eq_false, not_false_eq_true, Option.bind_some, oU_at, oU_o, oU_i, b01_t, b01_f, q]
      rfl
    · simp (disch := omega) only [bnd_eq, nz_eq, lt_eq, if_pos, if_neg, w32_of, if_true, if_false, not_true_eq_false, not_false_eq_true, Option.bind_some, oU_at, oU_o, oU_i, b01_t, b01_f, q, Int.add_zero]
      rfl
  · show p_D_timesChalked_L4 f o p (_, _, M) = _
    unfold p_D_timesChalked_L4
    simp only []
    rw [c4, if_neg (by omega)]
theorem e_M_chalksOf {f T : Nat} {h p : Int} {M : oM} (hf : 1000 < f) (hd : rOk T h (M 58)) : p_M_chalksOf f p M = some (tch (M 58) p, M) := by
  have h4 := hd.2.2.2.1
  unfold p_M_chalksOf tch
  refine iter_up (M 58 150).toNat (fun i => (sumN (fun k => if M 58 (110 + (k : Int)) = p then 1 else 0) i, (i : Int), M)) _ ?_ ?_ f (by omega)
  · intro i hi
    have hb := sumN_bd (g := fun k => if M 58 (110 + (k : Int)) = p then 1 else 0) (b := 1) i (fun k _ => by split <;> omega)
    show p_M_chalksOf_L4 f p (_, _, M) = some (.inl (sumN (fun k => if M 58 (110 + (k : Int)) = p then 1 else 0) i + _, _, M))
    unfold p_M_chalksOf_L4 p_M_chalksOf_B35_4
    simp only []
    rw [bnd_eq (by omega) (by omega), if_pos (by omega), w32_of (by omega) (by omega), bnd_eq (by omega) (by omega)]
    by_cases q : M 58 (110 + (i : Int)) = p
    · simp (disch := omega) only [bnd_eq, nz_eq, lt_eq, if_pos, if_neg, w32_of, if_true, if_false, not_true_eq_false, not_false_eq_true, Option.bind_some, oU_at, oU_o, oU_i, b01_t, b01_f, q]
      rfl
    · rw [if_neg q, if_neg q]
      simp (disch := omega) only [bnd_eq, nz_eq, lt_eq, if_pos, if_neg, w32_of, if_true, if_false, not_true_eq_false, not_false_eq_true, Option.bind_some, oU_at, oU_o, oU_i, b01_t, b01_f]
      rfl
  · show p_M_chalksOf_L4 f p (_, _, M) = _
    unfold p_M_chalksOf_L4
    simp only []
    rw [bnd_eq (by omega) (by omega), if_neg (by omega)]
/-- sums by the places alone -/
theorem oweS_congr {d d' : Int → Int} {a : Int} (ha : 0 ≤ a ∧ a < 10) (h : ∀ i : Int, 0 ≤ i → i < 100 → d i = d' i) : oweS d a = oweS d' a := by
  unfold oweS
  exact sumN_congr 10 fun k hk => h _ (by omega) (by omega)
theorem getS_congr {d d' : Int → Int} {a : Int} (ha : 0 ≤ a ∧ a < 10) (h : ∀ i : Int, 0 ≤ i → i < 100 → d i = d' i) : getS d a = getS d' a := by
  unfold getS
  exact sumN_congr 10 fun k hk => h _ (by omega) (by omega)
theorem allS_congr {d d' : Int → Int} (h : ∀ i : Int, 0 ≤ i → i < 100 → d i = d' i) : allS d = allS d' := by
  unfold allS
  exact sumN_congr 10 fun k hk => oweS_congr ⟨by omega, by omega⟩ h
theorem dC_dOk {M : oM} {o T : Nat} {h : Int} {D : Int → Int} (hc : dC M o D) (hd : rOk T h D) : dOk (M (o + 1)) := fun i i0 i1 => by rw [hc.1 i i0 i1]; exact hd.1 i i0 i1
theorem rOk_dOk {T : Nat} {h : Int} {D : Int → Int} (hd : rOk T h D) : dOk D := hd.1
theorem call_setOff {f T : Nat} {c p : Int} {Mc Mr : oM} (hf : 1000 < f) (h : Rel T c Mc Mr) : Same f c (p_O_setOff f p Mc) (p_M_setOff f p Mr) := by
  obtain ⟨hp, hd, ho, -⟩ := id h
  unfold p_O_setOff p_M_setOff
  rw [e_P_has hp.2.1 hp.1, e_M_isPerson hp.2.2.1 hp.1]
  cases hb : tldb T p
  · refine same_some (r := -1000000) h ?_ ?_
    · simp (disch := omega) only [bnd_eq, nz_eq, lt_eq, if_pos, if_neg, w32_of, if_true, if_false, not_true_eq_false, not_false_eq_true, Option.bind_some, oU_at, oU_o, oU_i, b01_t, b01_f]
    · simp (disch := omega) only [bnd_eq, nz_eq, lt_eq, if_pos, if_neg, w32_of, if_true, if_false, not_true_eq_false, not_false_eq_true, Option.bind_some, oU_at, oU_o, oU_i, b01_t, b01_f]
  · have hr := tldb_rng hb
    refine same_some (r := w32 (getS (Mr 58) p - oweS (Mr 58) p)) h ?_ ?_
    · simp (disch := omega) only [Option.bind_some, b01_t, if_neg]
      rw [e_D_owedTo (by omega) hr (dC_dOk hd ho)]
      simp only [Option.bind_some]
      rw [e_D_owedBy' (by omega) hr (dC_dOk hd ho)]
      simp only [Option.bind_some]
      rw [getS_congr (d := Mc 7) hr hd.1, oweS_congr (d := Mc (6 + 1)) hr hd.1]
    · unfold p_M_setOffOf
      simp (disch := omega) only [Option.bind_some, b01_t, if_neg]
      rw [e_M_getsAll (by omega) hr (rOk_dOk ho)]
      simp only [Option.bind_some]
      rw [e_M_owesAll (by omega) hr (rOk_dOk ho)]
      simp only [Option.bind_some]
theorem call_personIs {f T : Nat} {c p what : Int} {Mc Mr : oM} (hf : 1000 < f) (h : Rel T c Mc Mr) : Same f c (p_O_personIs f p what Mc) (p_M_personIs f p what Mr) := by
  obtain ⟨hp, hd, ho, -⟩ := id h
  unfold p_O_personIs p_M_personIs
  rw [e_P_has hp.2.1 hp.1, e_M_isPerson hp.2.2.1 hp.1]
  cases hb : tldb T p
  · refine same_some (r := -1) h ?_ ?_
    · simp (disch := omega) only [bnd_eq, nz_eq, lt_eq, if_pos, if_neg, w32_of, if_true, if_false, not_true_eq_false, not_false_eq_true, Option.bind_some, oU_at, oU_o, oU_i, b01_t, b01_f]
    · simp (disch := omega) only [bnd_eq, nz_eq, lt_eq, if_pos, if_neg, w32_of, if_true, if_false, not_true_eq_false, not_false_eq_true, Option.bind_some, oU_at, oU_o, oU_i, b01_t, b01_f]
  · have hr := tldb_rng hb
    simp (disch := omega) only [Option.bind_some, b01_t, if_neg]
    by_cases w0 : what = 0
    · refine same_some (r := Mc 4 p) h ?_ ?_
      · simp (disch := omega) only [bnd_eq, nz_eq, lt_eq, if_pos, if_neg, w32_of, if_true, if_false, not_true_eq_false, not_false_eq_true, Option.bind_some, oU_at, oU_o, oU_i, b01_t, b01_f]
      · simp (disch := omega) only [bnd_eq, nz_eq, lt_eq, if_pos, if_neg, w32_of, if_true, if_false, not_true_eq_false, not_false_eq_true, Option.bind_some, oU_at, oU_o, oU_i, b01_t, b01_f, (hp.2.2.2.2.2 p hr.1 hr.2).1]
    by_cases w1 : what = 1
    · refine same_some (r := Mc 5 p) h ?_ ?_
      · simp (disch := omega) only [bnd_eq, nz_eq, lt_eq, if_pos, if_neg, w32_of, if_true, if_false, not_true_eq_false, not_false_eq_true, Option.bind_some, oU_at, oU_o, oU_i, b01_t, b01_f]
      · simp (disch := omega) only [bnd_eq, nz_eq, lt_eq, if_pos, if_neg, w32_of, if_true, if_false, not_true_eq_false, not_false_eq_true, Option.bind_some, oU_at, oU_o, oU_i, b01_t, b01_f, (hp.2.2.2.2.2 p hr.1 hr.2).2]
    by_cases w2 : what = 2
    · refine same_some (r := oweS (Mr 58) p) h ?_ ?_
      · simp (disch := omega) only [bnd_eq, nz_eq, lt_eq, if_pos, if_neg, w32_of, if_true, if_false, not_true_eq_false, not_false_eq_true, Option.bind_some, oU_at, oU_o, oU_i, b01_t, b01_f, e_D_owedBy' (f := f) (by omega) hr (dC_dOk hd ho), oweS_congr (d := Mc (6 + 1)) hr hd.1]
      · simp (disch := omega) only [bnd_eq, nz_eq, lt_eq, if_pos, if_neg, w32_of, if_true, if_false, not_true_eq_false, not_false_eq_true, Option.bind_some, oU_at, oU_o, oU_i, b01_t, b01_f, e_M_owesAll (f := f) (by omega) hr (rOk_dOk ho)]
    by_cases w3 : what = 3
    · refine same_some (r := getS (Mr 58) p) h ?_ ?_
      · simp (disch := omega) only [bnd_eq, nz_eq, lt_eq, if_pos, if_neg, w32_of, if_true, if_false, not_true_eq_false, not_false_eq_true, Option.bind_some, oU_at, oU_o, oU_i, b01_t, b01_f, e_D_owedTo (f := f) (by omega) hr (dC_dOk (o := 6) hd ho), getS_congr (d := Mc 7) hr hd.1]
      · simp (disch := omega) only [bnd_eq, nz_eq, lt_eq, if_pos, if_neg, w32_of, if_true, if_false, not_true_eq_false, not_false_eq_true, Option.bind_some, oU_at, oU_o, oU_i, b01_t, b01_f, e_M_getsAll (f := f) (by omega) hr (rOk_dOk ho)]
    by_cases w4 : what = 4
    · refine same_some (r := Mr 58 (100 + p)) h ?_ ?_
      · simp (disch := omega) only [bnd_eq, nz_eq, lt_eq, if_pos, if_neg, w32_of, if_true, if_false, not_true_eq_false, not_false_eq_true, Option.bind_some, oU_at, oU_o, oU_i, b01_t, b01_f]
        rw [show Mc 8 p = Mr 58 (100 + p) from hd.2.1 p hr.1 hr.2]
      · simp (disch := omega) only [bnd_eq, nz_eq, lt_eq, if_pos, if_neg, w32_of, if_true, if_false, not_true_eq_false, not_false_eq_true, Option.bind_some, oU_at, oU_o, oU_i, b01_t, b01_f]
    by_cases w5 : what = 5
    · refine same_some (r := tch (Mr 58) p) h ?_ ?_
      · simp (disch := omega) only [bnd_eq, nz_eq, lt_eq, if_pos, if_neg, w32_of, if_true, if_false, not_true_eq_false, not_false_eq_true, Option.bind_some, oU_at, oU_o, oU_i, b01_t, b01_f, e_D_timesChalked (f := f) hf hd ho]
      · simp (disch := omega) only [bnd_eq, nz_eq, lt_eq, if_pos, if_neg, w32_of, if_true, if_false, not_true_eq_false, not_false_eq_true, Option.bind_some, oU_at, oU_o, oU_i, b01_t, b01_f, e_M_chalksOf (f := f) hf ho]
    refine same_some (r := -1) h ?_ ?_
    · simp (disch := omega) only [bnd_eq, nz_eq, lt_eq, if_pos, if_neg, w32_of, if_true, if_false, not_true_eq_false, not_false_eq_true, Option.bind_some, oU_at, oU_o, oU_i, b01_t, b01_f]
    · simp (disch := omega) only [bnd_eq, nz_eq, lt_eq, if_pos, if_neg, w32_of, if_true, if_false, not_true_eq_false, not_false_eq_true, Option.bind_some, oU_at, oU_o, oU_i, b01_t, b01_f]
theorem call_chalk {f T : Nat} {c k : Int} {Mc Mr : oM} (h : Rel T c Mc Mr) : Same f c (p_O_chalk f k Mc) (p_M_chalk f k Mr) := by
  obtain ⟨hp, hd, ho, -⟩ := id h
  have h4 := ho.2.2.2.1
  have c4 := hd.2.2.2.1
  unfold p_O_chalk p_M_chalk
  simp only [e_M_in]
  by_cases q : 0 ≤ k ∧ k < Mr 58 150
  · refine same_some (r := Mr 58 (110 + k)) h ?_ ?_
    · simp (disch := omega) only [bnd_eq, nz_eq, lt_eq, if_pos, if_neg, w32_of, if_true, if_false, not_true_eq_false, not_false_eq_true, Option.bind_some, oU_at, oU_o, oU_i, b01_t, b01_f, c4]
      rw [show Mc 9 k = Mr 58 (110 + k) from hd.2.2.1 k q.1 q.2]
    · simp (disch := omega) only [bnd_eq, nz_eq, lt_eq, if_pos, if_neg, w32_of, if_true, if_false, not_true_eq_false, not_false_eq_true, Option.bind_some, oU_at, oU_o, oU_i, b01_t, b01_f, in_t (a := 0) (x := k) (b := Mr 58 150 - 1) ⟨q.1, by omega⟩]
  · refine same_some (r := -1) h ?_ ?_
    · by_cases q0 : k < 0
      · simp (disch := omega) only [bnd_eq, nz_eq, lt_eq, if_pos, if_neg, w32_of, if_true, if_false, not_true_eq_false, not_false_eq_true, Option.bind_some, oU_at, oU_o, oU_i, b01_t, b01_f]
      · simp (disch := omega) only [bnd_eq, nz_eq, lt_eq, if_pos, if_neg, w32_of, if_true, if_false, not_true_eq_false, not_false_eq_true, Option.bind_some, oU_at, oU_o, oU_i, b01_t, b01_f, c4]
    · simp (disch := omega) only [bnd_eq, nz_eq, lt_eq, if_pos, if_neg, w32_of, if_true, if_false, not_true_eq_false, not_false_eq_true, Option.bind_some, oU_at, oU_o, oU_i, b01_t, b01_f, in_f (a := 0) (x := k) (b := Mr 58 150 - 1) (fun z => q ⟨z.1, by omega⟩)]
theorem p21_neg {a : Int} (h : a = -2 ∨ 0 ≤ a) : (p21 a < 0 → a = -2) ∧ (¬ p21 a < 0 → p21 a = a) := by
  unfold p21
  rcases h with rfl | h
  · simp
  · rw [if_neg (by omega)]; exact ⟨fun z => by omega, fun _ => rfl⟩
theorem rOk_holder {T : Nat} {h : Int} {D : Int → Int} (hd : rOk T h D) : D 151 = -2 ∨ (0 ≤ D 151 ∧ D 151 < 10) := hd.2.2.2.2.2.1.elim .inl (fun q => .inr ⟨(tld_iff.1 q).1, (tld_iff.1 q).2.1⟩)
theorem call_count {f T : Nat} {c what : Int} {Mc Mr : oM} (hf : 1000 < f) (h : Rel T c Mc Mr) : Same f c (p_O_count f what Mc) (p_M_count f what Mr) := by
  obtain ⟨hp, hd, ho, hk, ht, hl, hz⟩ := id h
  have hh := rOk_holder ho
  unfold p_O_count p_M_count
  by_cases w0 : what = 0
  · refine same_some (r := (T : Int)) h ?_ ?_
    · simp (disch := omega) only [bnd_eq, nz_eq, lt_eq, if_pos, if_neg, w32_of, if_true, if_false, not_true_eq_false, not_false_eq_true, Option.bind_some, oU_at, oU_o, oU_i, b01_t, b01_f, hp.2.1]
    · simp (disch := omega) only [bnd_eq, nz_eq, lt_eq, if_pos, if_neg, w32_of, if_true, if_false, not_true_eq_false, not_false_eq_true, Option.bind_some, oU_at, oU_o, oU_i, b01_t, b01_f, hp.2.2.1]
  by_cases w1 : what = 1
  · refine same_some (r := allS (Mr 58)) h ?_ ?_
    · simp (disch := omega) only [bnd_eq, nz_eq, lt_eq, if_pos, if_neg, w32_of, if_true, if_false, not_true_eq_false, not_false_eq_true, Option.bind_some, oU_at, oU_o, oU_i, b01_t, b01_f, e_D_owedInAll (f := f) (by omega) (dC_dOk hd ho), allS_congr (d := Mc (6 + 1)) hd.1]
    · simp (disch := omega) only [bnd_eq, nz_eq, lt_eq, if_pos, if_neg, w32_of, if_true, if_false, not_true_eq_false, not_false_eq_true, Option.bind_some, oU_at, oU_o, oU_i, b01_t, b01_f, e_M_owedInAll (f := f) (by omega) (rOk_dOk ho)]
  obtain ⟨c1, c2, c3, c4, c5, c6, c7, c8, c9, c10, c11, c12⟩ := hd
  obtain ⟨h1, h2, h3, h4, h5, h6, h7, h8, h9, h10, h11, h12, h13⟩ := ho
  by_cases w2 : what = 2
  · refine same_some (r := Mr 58 151) h ?_ ?_
    · by_cases q : Mc 6 4 < 0
      · simp (disch := omega) only [bnd_eq, nz_eq, lt_eq, if_pos, if_neg, w32_of, if_true, if_false, not_true_eq_false, not_false_eq_true, Option.bind_some, oU_at, oU_o, oU_i, b01_t, b01_f]
        rw [c5] at q
        rw [(p21_neg (hh.elim .inl (fun z => .inr z.1))).1 q]
      · simp (disch := omega) only [bnd_eq, nz_eq, lt_eq, if_pos, if_neg, w32_of, if_true, if_false, not_true_eq_false, not_false_eq_true, Option.bind_some, oU_at, oU_o, oU_i, b01_t, b01_f]
        rw [c5] at q ⊢
        rw [(p21_neg (hh.elim .inl (fun z => .inr z.1))).2 q]
    · simp (disch := omega) only [bnd_eq, nz_eq, lt_eq, if_pos, if_neg, w32_of, if_true, if_false, not_true_eq_false, not_false_eq_true, Option.bind_some, oU_at, oU_o, oU_i, b01_t, b01_f]
  by_cases w3 : what = 3
  · refine same_some (r := Mr 58 153) h ?_ ?_
    · by_cases q : 0 < Mc 6 7
      · have q' := h8 (by rw [← c8]; exact q)
        have := tld_iff.1 q'.2.2.1
        simp (disch := omega) only [bnd_eq, nz_eq, lt_eq, if_pos, if_neg, w32_of, if_true, if_false, not_true_eq_false, not_false_eq_true, Option.bind_some, oU_at, oU_o, oU_i, b01_t, b01_f, c7]
        unfold p21; rw [if_neg (by omega)]
      · simp (disch := omega) only [bnd_eq, nz_eq, lt_eq, if_pos, if_neg, w32_of, if_true, if_false, not_true_eq_false, not_false_eq_true, Option.bind_some, oU_at, oU_o, oU_i, b01_t, b01_f]
        rw [h9 (by omega)]
    · simp (disch := omega) only [bnd_eq, nz_eq, lt_eq, if_pos, if_neg, w32_of, if_true, if_false, not_true_eq_false, not_false_eq_true, Option.bind_some, oU_at, oU_o, oU_i, b01_t, b01_f]
  by_cases w4 : what = 4
  · refine same_some (r := Mr 58 154) h ?_ ?_
    · simp (disch := omega) only [bnd_eq, nz_eq, lt_eq, if_pos, if_neg, w32_of, if_true, if_false, not_true_eq_false, not_false_eq_true, Option.bind_some, oU_at, oU_o, oU_i, b01_t, b01_f, c8]
    · simp (disch := omega) only [bnd_eq, nz_eq, lt_eq, if_pos, if_neg, w32_of, if_true, if_false, not_true_eq_false, not_false_eq_true, Option.bind_some, oU_at, oU_o, oU_i, b01_t, b01_f]
  by_cases w5 : what = 5
  · refine same_some (r := Mr 58 155) h ?_ ?_
    · simp (disch := omega) only [bnd_eq, nz_eq, lt_eq, if_pos, if_neg, w32_of, if_true, if_false, not_true_eq_false, not_false_eq_true, Option.bind_some, oU_at, oU_o, oU_i, b01_t, b01_f, c9]
    · simp (disch := omega) only [bnd_eq, nz_eq, lt_eq, if_pos, if_neg, w32_of, if_true, if_false, not_true_eq_false, not_false_eq_true, Option.bind_some, oU_at, oU_o, oU_i, b01_t, b01_f]
  by_cases w6 : what = 6
  · refine same_some (r := Mr 58 156) h ?_ ?_
    · simp (disch := omega) only [bnd_eq, nz_eq, lt_eq, if_pos, if_neg, w32_of, if_true, if_false, not_true_eq_false, not_false_eq_true, Option.bind_some, oU_at, oU_o, oU_i, b01_t, b01_f, c10]
    · simp (disch := omega) only [bnd_eq, nz_eq, lt_eq, if_pos, if_neg, w32_of, if_true, if_false, not_true_eq_false, not_false_eq_true, Option.bind_some, oU_at, oU_o, oU_i, b01_t, b01_f]
  by_cases w7 : what = 7
  · refine same_some (r := Mr 58 157) h ?_ ?_
    · rcases h12 with q | q
      · simp (disch := omega) only [bnd_eq, nz_eq, lt_eq, if_pos, if_neg, w32_of, if_true, if_false, not_true_eq_false, not_false_eq_true, Option.bind_some, oU_at, oU_o, oU_i, b01_t, b01_f, c11, q]
      · simp (disch := omega) only [bnd_eq, nz_eq, lt_eq, if_pos, if_neg, w32_of, if_true, if_false, not_true_eq_false, not_false_eq_true, Option.bind_some, oU_at, oU_o, oU_i, b01_t, b01_f, c11, q]
    · simp (disch := omega) only [bnd_eq, nz_eq, lt_eq, if_pos, if_neg, w32_of, if_true, if_false, not_true_eq_false, not_false_eq_true, Option.bind_some, oU_at, oU_o, oU_i, b01_t, b01_f]
  by_cases w8 : what = 8
  · refine same_some (r := Mr 58 150) h ?_ ?_
    · simp (disch := omega) only [bnd_eq, nz_eq, lt_eq, if_pos, if_neg, w32_of, if_true, if_false, not_true_eq_false, not_false_eq_true, Option.bind_some, oU_at, oU_o, oU_i, b01_t, b01_f, c4]
    · simp (disch := omega) only [bnd_eq, nz_eq, lt_eq, if_pos, if_neg, w32_of, if_true, if_false, not_true_eq_false, not_false_eq_true, Option.bind_some, oU_at, oU_o, oU_i, b01_t, b01_f]
  by_cases w9 : what = 9
  · refine same_some (r := Mc 18 10) h ?_ ?_
    · simp (disch := omega) only [bnd_eq, nz_eq, lt_eq, if_pos, if_neg, w32_of, if_true, if_false, not_true_eq_false, not_false_eq_true, Option.bind_some, oU_at, oU_o, oU_i, b01_t, b01_f]
    · simp (disch := omega) only [bnd_eq, nz_eq, lt_eq, if_pos, if_neg, w32_of, if_true, if_false, not_true_eq_false, not_false_eq_true, Option.bind_some, oU_at, oU_o, oU_i, b01_t, b01_f, hl.1]
  by_cases w10 : what = 10
  · refine same_some (r := Mc 1 1) h ?_ ?_
    · unfold p_T_size
      simp (disch := omega) only [bnd_eq, nz_eq, lt_eq, if_pos, if_neg, w32_of, if_true, if_false, not_true_eq_false, not_false_eq_true, Option.bind_some, oU_at, oU_o, oU_i, b01_t, b01_f]
    · simp (disch := omega) only [bnd_eq, nz_eq, lt_eq, if_pos, if_neg, w32_of, if_true, if_false, not_true_eq_false, not_false_eq_true, Option.bind_some, oU_at, oU_o, oU_i, b01_t, b01_f, ht.2.1]
  by_cases w11 : what = 11
  · refine same_some (r := Mr 58 158) h ?_ ?_
    · simp (disch := omega) only [bnd_eq, nz_eq, lt_eq, if_pos, if_neg, w32_of, if_true, if_false, not_true_eq_false, not_false_eq_true, Option.bind_some, oU_at, oU_o, oU_i, b01_t, b01_f, c12]
    · simp (disch := omega) only [bnd_eq, nz_eq, lt_eq, if_pos, if_neg, w32_of, if_true, if_false, not_true_eq_false, not_false_eq_true, Option.bind_some, oU_at, oU_o, oU_i, b01_t, b01_f]
  refine same_some (r := -1) h ?_ ?_
  · simp (disch := omega) only [bnd_eq, nz_eq, lt_eq, if_pos, if_neg, w32_of, if_true, if_false, not_true_eq_false, not_false_eq_true, Option.bind_some, oU_at, oU_o, oU_i, b01_t, b01_f]
  · simp (disch := omega) only [bnd_eq, nz_eq, lt_eq, if_pos, if_neg, w32_of, if_true, if_false, not_true_eq_false, not_false_eq_true, Option.bind_some, oU_at, oU_o, oU_i, b01_t, b01_f]
