/-! chalking, paying, copies; keep, undo, longest -/
theorem rOk_chalk {T : Nat} {h p : Int} {D D' : Int → Int} (hp : 0 ≤ p ∧ p < 10) (hd : rOk T h D) (gx : ∀ i : Int, (i < 110 ∨ 149 < i) → D' i = D i) (hc : ∀ i : Int, 0 ≤ i → i < 40 → 0 ≤ D' (110 + i) ∧ D' (110 + i) < 10) : rOk T h D' := by
  obtain ⟨h1, h2, h3, h4, h5, h6⟩ := hd
  refine ⟨fun i i0 i1 => by rw [gx i (by omega)]; exact h1 i i0 i1, fun a b a0 a1 b0 b1 => by rw [gx _ (by omega)]; exact h2 a b a0 a1 b0 b1, fun i i0 i1 => by rw [gx _ (by omega)]; exact h3 i i0 i1, by rw [gx _ (by omega)]; exact h4, fun i i0 i1 => hc i i0 (by rw [gx _ (by omega)] at i1; omega), ?_⟩
  rw [gx 151 (by omega), gx 152 (by omega), gx 153 (by omega), gx 154 (by omega), gx 155 (by omega), gx 156 (by omega), gx 157 (by omega), gx 158 (by omega)]
  exact h6
/-- the relation of a duchy by its parts that a chalking touches -/
theorem write_chalks {f T : Nat} {h p : Int} {o : Nat} {Mc Mr : oM} (hf : 1000 < f) (hd : dR T h o Mc Mr) (hp : 0 ≤ p ∧ p < 10) : okp (p_D_write f o p Mc) (fun q => okp (p_M_chalks f p Mr) (fun q' => dR T h o q.2 q'.2)) := by
  obtain ⟨⟨c1, c2, c3, c4, c5⟩, h1, h2, h3, h4, h5, h6⟩ := hd
  by_cases q : Mr 58 150 < 40
  · have e1 : p_D_write f o p Mc = some (0, oU (oU Mc (o + 3) (Mr 58 150) p) o 3 (Mr 58 150 + 1)) := by
      unfold p_D_write p_D_write_B30
      simp (disch := omega) only [bnd_eq, nz_eq, lt_eq, if_pos, if_neg, w32_of, if_true, if_false, not_true_eq_false, not_false_eq_true, Option.bind_some, oU_at, oU_o, oU_i, b01_t, b01_f, c4]
    have e2 : p_M_chalks f p Mr = some (0, oU (oU Mr 58 (110 + Mr 58 150) p) 58 150 (Mr 58 150 + 1)) := by
      unfold p_M_chalks
      simp (disch := omega) only [bnd_eq, nz_eq, lt_eq, if_pos, if_neg, w32_of, if_true, if_false, not_true_eq_false, not_false_eq_true, Option.bind_some, oU_at, oU_o, oU_i, b01_t, b01_f]
    refine okp_eq e1 (okp_eq e2 ⟨⟨?_, ?_, ?_, ?_, ?_⟩, ?_, ?_, ?_, ?_, ?_, ?_⟩)
    · intro i i0 i1
      simp (disch := omega) only [bnd_eq, nz_eq, lt_eq, if_pos, if_neg, w32_of, if_true, if_false, not_true_eq_false, not_false_eq_true, Option.bind_some, oU_at, oU_o, oU_i, b01_t, b01_f]
      exact c1 i i0 i1
    · intro i i0 i1
      simp (disch := omega) only [bnd_eq, nz_eq, lt_eq, if_pos, if_neg, w32_of, if_true, if_false, not_true_eq_false, not_false_eq_true, Option.bind_some, oU_at, oU_o, oU_i, b01_t, b01_f]
      exact c2 i i0 i1
    · intro i i0
      simp (disch := omega) only [bnd_eq, nz_eq, lt_eq, if_pos, if_neg, w32_of, if_true, if_false, not_true_eq_false, not_false_eq_true, Option.bind_some, oU_at, oU_o, oU_i, b01_t, b01_f]
      intro i1
      by_cases hi : i = Mr 58 150
      · subst hi
        simp (disch := omega) only [bnd_eq, nz_eq, lt_eq, if_pos, if_neg, w32_of, if_true, if_false, not_true_eq_false, not_false_eq_true, Option.bind_some, oU_at, oU_o, oU_i, b01_t, b01_f]
      · simp (disch := omega) only [bnd_eq, nz_eq, lt_eq, if_pos, if_neg, w32_of, if_true, if_false, not_true_eq_false, not_false_eq_true, Option.bind_some, oU_at, oU_o, oU_i, b01_t, b01_f]
        exact c3 i i0 (by omega)
    · simp (disch := omega) only [bnd_eq, nz_eq, lt_eq, if_pos, if_neg, w32_of, if_true, if_false, not_true_eq_false, not_false_eq_true, Option.bind_some, oU_at, oU_o, oU_i, b01_t, b01_f]
    · simp (disch := omega) only [bnd_eq, nz_eq, lt_eq, if_pos, if_neg, w32_of, if_true, if_false, not_true_eq_false, not_false_eq_true, Option.bind_some, oU_at, oU_o, oU_i, b01_t, b01_f]
      exact c5
    · intro i i0 i1
      simp (disch := omega) only [bnd_eq, nz_eq, lt_eq, if_pos, if_neg, w32_of, if_true, if_false, not_true_eq_false, not_false_eq_true, Option.bind_some, oU_at, oU_o, oU_i, b01_t, b01_f]
      exact h1 i i0 i1
    · intro a b a0 a1 b0 b1
      simp (disch := omega) only [bnd_eq, nz_eq, lt_eq, if_pos, if_neg, w32_of, if_true, if_false, not_true_eq_false, not_false_eq_true, Option.bind_some, oU_at, oU_o, oU_i, b01_t, b01_f]
      exact h2 a b a0 a1 b0 b1
    · intro i i0 i1
      simp (disch := omega) only [bnd_eq, nz_eq, lt_eq, if_pos, if_neg, w32_of, if_true, if_false, not_true_eq_false, not_false_eq_true, Option.bind_some, oU_at, oU_o, oU_i, b01_t, b01_f]
      exact h3 i i0 i1
    · simp (disch := omega) only [bnd_eq, nz_eq, lt_eq, if_pos, if_neg, w32_of, if_true, if_false, not_true_eq_false, not_false_eq_true, Option.bind_some, oU_at, oU_o, oU_i, b01_t, b01_f]
      omega
    · intro i i0
      simp (disch := omega) only [bnd_eq, nz_eq, lt_eq, if_pos, if_neg, w32_of, if_true, if_false, not_true_eq_false, not_false_eq_true, Option.bind_some, oU_at, oU_o, oU_i, b01_t, b01_f]
      intro i1
      by_cases hi : i = Mr 58 150
      · subst hi
        simp (disch := omega) only [bnd_eq, nz_eq, lt_eq, if_pos, if_neg, w32_of, if_true, if_false, not_true_eq_false, not_false_eq_true, Option.bind_some, oU_at, oU_o, oU_i, b01_t, b01_f]
        exact hp
      · simp (disch := omega) only [bnd_eq, nz_eq, lt_eq, if_pos, if_neg, w32_of, if_true, if_false, not_true_eq_false, not_false_eq_true, Option.bind_some, oU_at, oU_o, oU_i, b01_t, b01_f]
        exact h5 i i0 (by omega)
    · simp (disch := omega) only [bnd_eq, nz_eq, lt_eq, if_pos, if_neg, w32_of, if_true, if_false, not_true_eq_false, not_false_eq_true, Option.bind_some, oU_at, oU_o, oU_i, b01_t, b01_f]
      exact h6
  · have q40 : Mr 58 150 = 40 := by omega
    have e1 : p_D_write f o p Mc = some (0, oU (oU (oU (acopy Mc (o + 3) 1 (o + 3) 0 39) o 3 39) (o + 3) 39 p) o 3 40) := by
      unfold p_D_write p_D_write_B30
      simp (disch := omega) only [if_neg, c4, cpg_eq]
      simp (disch := omega) only [bnd_eq, nz_eq, lt_eq, if_pos, if_neg, w32_of, if_true, if_false, not_true_eq_false, not_false_eq_true, Option.bind_some, oU_at, oU_o, oU_i, b01_t, b01_f]
      rfl
    have e2 : okp (p_M_chalks f p Mr) (fun q => (∀ o i, o ≠ 58 → q.2 o i = Mr o i) ∧ ∀ i, q.2 58 i = if i = 149 then p else if 110 ≤ i ∧ i < 149 then Mr 58 (i + 1) else Mr 58 i) := by
      unfold p_M_chalks
      simp (disch := omega) only [bnd_eq, if_pos]
      refine for_ok 39 (fun n s => s.1 = (n : Int) + 1 ∧ (∀ o i, o ≠ 58 → s.2 o i = Mr o i) ∧ ∀ i, s.2 58 i = if 110 ≤ i ∧ i < 110 + (n : Int) then Mr 58 (i + 1) else Mr 58 i) ?_ ?_ f (by omega) ?_
      · intro n s hn hI
        obtain ⟨k, M⟩ := s
        obtain ⟨rfl, hI1, hI2⟩ := hI
        simp only at hI1 hI2
        unfold p_M_chalks_L15
        simp only []
        simp (disch := omega) only [bnd_eq, nz_eq, lt_eq, if_pos, if_neg, w32_of, if_true, if_false, not_true_eq_false, not_false_eq_true, Option.bind_some, oU_at, oU_o, oU_i, b01_t, b01_f]
        refine ⟨by show (n : Int) + 1 + 1 = ((n + 1 : Nat) : Int) + 1; omega, fun o i ho => ?_, fun i => ?_⟩
        · simp (disch := omega) only [bnd_eq, nz_eq, lt_eq, if_pos, if_neg, w32_of, if_true, if_false, not_true_eq_false, not_false_eq_true, Option.bind_some, oU_at, oU_o, oU_i, b01_t, b01_f]
          exact hI1 o i ho
        · by_cases hi : i = 110 + (n : Int)
          · rw [if_pos (by omega)]
            subst hi
            show oU M 58 (110 + ((n : Int) + 1) - 1) (M 58 (110 + ((n : Int) + 1))) 58 (110 + (n : Int)) = _
            rw [show (110 : Int) + ((n : Int) + 1) - 1 = 110 + n from by omega, oU_at, hI2, if_neg (by omega)]
            congr 1
          · simp (disch := omega) only [bnd_eq, nz_eq, lt_eq, if_pos, if_neg, w32_of, if_true, if_false, not_true_eq_false, not_false_eq_true, Option.bind_some, oU_at, oU_o, oU_i, b01_t, b01_f]
            rw [hI2]
            by_cases hi2 : 110 ≤ i ∧ i < 110 + (n : Int)
            · rw [if_pos hi2, if_pos (by omega)]
            · rw [if_neg hi2, if_neg (by omega)]
      · intro s hI
        obtain ⟨k, M⟩ := s
        obtain ⟨rfl, hI1, hI2⟩ := hI
        simp only at hI1 hI2
        unfold p_M_chalks_L15
        simp only []
        rw [if_neg (by omega)]
        simp (disch := omega) only [bnd_eq, nz_eq, lt_eq, if_pos, if_neg, w32_of, if_true, if_false, not_true_eq_false, not_false_eq_true, Option.bind_some, oU_at, oU_o, oU_i, b01_t, b01_f]
        refine ⟨fun o i ho => ?_, fun i => ?_⟩
        · simp (disch := omega) only [bnd_eq, nz_eq, lt_eq, if_pos, if_neg, w32_of, if_true, if_false, not_true_eq_false, not_false_eq_true, Option.bind_some, oU_at, oU_o, oU_i, b01_t, b01_f]
          exact hI1 o i ho
        · by_cases i1 : i = 150
          · subst i1
            simp (disch := omega) only [bnd_eq, nz_eq, lt_eq, if_pos, if_neg, w32_of, if_true, if_false, not_true_eq_false, not_false_eq_true, Option.bind_some, oU_at, oU_o, oU_i, b01_t, b01_f]
            omega
          · by_cases i2 : i = 149
            · subst i2
              simp (disch := omega) only [bnd_eq, nz_eq, lt_eq, if_pos, if_neg, w32_of, if_true, if_false, not_true_eq_false, not_false_eq_true, Option.bind_some, oU_at, oU_o, oU_i, b01_t, b01_f, Int.reduceAdd, Int.reduceSub, Int.reduceMul]
            · simp (disch := omega) only [bnd_eq, nz_eq, lt_eq, if_pos, if_neg, w32_of, if_true, if_false, not_true_eq_false, not_false_eq_true, Option.bind_some, oU_at, oU_o, oU_i, b01_t, b01_f, Int.reduceAdd, Int.reduceSub, Int.reduceMul, hI2]
              by_cases i3 : 110 ≤ i ∧ i < 149
              · rw [if_pos (by omega), if_pos i3]
              · rw [if_neg (by omega), if_neg i3]
      · refine ⟨rfl, fun _ _ _ => rfl, fun i => ?_⟩
        rw [if_neg (by omega)]
    refine okp_eq e1 (okp_mono e2 ?_)
    intro q' ⟨g1, g2⟩
    have g150 : q'.2 58 150 = 40 := by rw [g2, if_neg (by omega), if_neg (by omega)]; exact q40
    have gx : ∀ i : Int, (i < 110 ∨ 149 < i) → q'.2 58 i = Mr 58 i := fun i hi => by rw [g2, if_neg (by omega), if_neg (by omega)]
    refine ⟨⟨?_, ?_, ?_, ?_, ?_⟩, rOk_chalk (p := p) hp ⟨h1, h2, h3, h4, h5, h6⟩ gx ?_⟩
    · intro i i0 i1
      simp (disch := omega) only [bnd_eq, nz_eq, lt_eq, if_pos, if_neg, w32_of, if_true, if_false, not_true_eq_false, not_false_eq_true, Option.bind_some, oU_at, oU_o, oU_i, b01_t, b01_f, acopy_o]
      rw [gx i (by omega)]; exact c1 i i0 i1
    · intro i i0 i1
      simp (disch := omega) only [bnd_eq, nz_eq, lt_eq, if_pos, if_neg, w32_of, if_true, if_false, not_true_eq_false, not_false_eq_true, Option.bind_some, oU_at, oU_o, oU_i, b01_t, b01_f, acopy_o]
      rw [gx (100 + i) (by omega)]; exact c2 i i0 i1
    · intro i i0 i1
      rw [g150] at i1
      rw [g2]
      by_cases hi : i = 39
      · subst hi
        simp (disch := omega) only [bnd_eq, nz_eq, lt_eq, if_pos, if_neg, w32_of, if_true, if_false, not_true_eq_false, not_false_eq_true, Option.bind_some, oU_at, oU_o, oU_i, b01_t, b01_f]
      · simp (disch := omega) only [bnd_eq, nz_eq, lt_eq, if_pos, if_neg, w32_of, if_true, if_false, not_true_eq_false, not_false_eq_true, Option.bind_some, oU_at, oU_o, oU_i, b01_t, b01_f, acopy_in]
        rw [show 1 + (i - 0) = i + 1 from by omega, c3 (i + 1) (by omega) (by omega)]
        congr 1; omega
    · simp (disch := omega) only [bnd_eq, nz_eq, lt_eq, if_pos, if_neg, w32_of, if_true, if_false, not_true_eq_false, not_false_eq_true, Option.bind_some, oU_at, oU_o, oU_i, b01_t, b01_f]
      exact g150.symm
    · rw [gx 151 (by omega), gx 152 (by omega), gx 153 (by omega), gx 154 (by omega), gx 155 (by omega), gx 156 (by omega), gx 157 (by omega), gx 158 (by omega)]
      simp (disch := omega) only [bnd_eq, nz_eq, lt_eq, if_pos, if_neg, w32_of, if_true, if_false, not_true_eq_false, not_false_eq_true, Option.bind_some, oU_at, oU_o, oU_i, b01_t, b01_f, acopy_o]
      exact c5
    · intro i i0 i1
      rw [g2]
      by_cases hi : i = 39
      · subst hi
        simp (disch := omega) only [bnd_eq, nz_eq, lt_eq, if_pos, if_neg, w32_of, if_true, if_false, not_true_eq_false, not_false_eq_true, Option.bind_some, oU_at, oU_o, oU_i, b01_t, b01_f]
        exact hp
      · rw [if_neg (by omega), if_pos (by omega)]
        have := h5 (i + 1) (by omega) (by omega)
        rw [show 110 + i + 1 = 110 + (i + 1) from by omega]; exact this
