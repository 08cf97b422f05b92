/-! DEBTS: the call -/
def relKt (w1 w2 : List (Nat × Int)) : Bool :=
  (outw w1 3 2 && (outa w1 4 && (outa w1 5 && (outw w2 57 5 && (outa w2 61 && outa w2 62))))) &&
  ((outw w1 0 13 && (outa w1 10 && (outa w1 11 && (outa w1 12 && (outa w1 13 && (outw w2 57 61 && outa w2 60)))))) &&
  ((outw w1 18 10 && (outa w1 19 && (outa w1 20 && (outa w1 21 && (outa w1 22 && (outa w1 23 && (outa w1 24 && (outw w2 57 16 && (outa w2 70 && (outa w2 71 && (outa w2 72 && (outa w2 73 && outa w2 74)))))))))))) && outw w1 56 0))
theorem Rel_tape0d {T : Nat} {c : Int} {Mc Mr Mc' Mr' : oM} {w1 w2 : List (Nat × Int)} (h : Rel T c Mc Mr) (e1 : eqo w1 Mc Mc') (e2 : eqo w2 Mr Mr') (k : relKt w1 w2 = true) (hd : dC Mc' 6 (Mr' 58)) (ho : rOk T (240 * (c + 1)) (Mr' 58)) (t1 : Mc' 1 1 = 0) (t2 : Mr' 57 7 = 0) : Rel T (c + 1) Mc' Mr' := by
  unfold relKt at k
  obtain ⟨k1, k⟩ := (Bool.and_eq_true _ _).mp k
  obtain ⟨k3, k⟩ := (Bool.and_eq_true _ _).mp k
  obtain ⟨k5, k6⟩ := (Bool.and_eq_true _ _).mp k
  obtain ⟨h1, h2, h3, h4, h5, h6, h7⟩ := h
  exact ⟨pplR_eqo h1 e1 e2 k1, hd, ho, keptR_mono (keptR_eqo h4 e1 e2 k3) (by omega), ⟨by omega, by omega, fun i i0 i1 => by omega⟩, lawR_eqo h6 e1 e2 k5, by rw [e1 56 0 k6]; exact h7⟩
theorem zero77 {f : Nat} {M : oM} (hf : 2000 < f) : ∃ N : oM, iter (p_M_debts_L38 f) f (0, M) = some N ∧ (∀ i : Int, 0 ≤ i → i < 100 → N 77 i = 0) ∧ eqo [(77, (-1))] M N := by
  have h : okp (iter (p_M_debts_L38 f) f (0, M)) (fun N => (∀ i : Int, 0 ≤ i → i < 100 → N 77 i = 0) ∧ eqo [(77, (-1))] M N) := by
    refine for_ok 100 (fun n s => s.1 = (n : Int) ∧ eqo [(77, (-1))] M s.2 ∧ ∀ i : Int, 0 ≤ i → i < (n : Int) → s.2 77 i = 0) ?_ ?_ f (by omega) ⟨rfl, eqo_rfl _ _, fun i i0 i1 => by omega⟩
    · intro n ⟨k, M'⟩ hn hI
      have hI' : k = (n : Int) ∧ eqo [(77, (-1))] M M' ∧ ∀ i : Int, 0 ≤ i → i < (n : Int) → M' 77 i = 0 := hI
      obtain ⟨hk, hI1, hI2⟩ := hI'
      subst hk
      unfold p_M_debts_L38
      simp only []
      rw [if_pos (by omega), bnd_eq (by omega) (by omega), lt_eq, lt_eq, w32_of (by omega) (by omega)]
      refine ⟨by show (n : Int) + 1 = ((n + 1 : Nat) : Int); omega, eqo_oUa (.head _) hI1, fun i i0 i1 => ?_⟩
      show oU M' 77 n 0 77 i = _
      by_cases hi : i = n
      · subst hi; rw [oU_at]
      · rw [oU_i hi]; exact hI2 i i0 (by omega)
    · intro ⟨k, M'⟩ hI
      have hk : k = ((100 : Nat) : Int) := hI.1
      unfold p_M_debts_L38
      simp only []
      rw [if_neg (by omega)]
      exact ⟨hI.2.2, hI.2.1⟩
  obtain ⟨N, eN, h1⟩ := okp_ex h
  exact ⟨N, eN, h1⟩
theorem copy58 {f : Nat} {M : oM} (hf : 2000 < f) (hd : dOk (M 77)) : ∃ N : oM, iter (p_M_debts_L118 f) f (0, M) = some (allS (N 58), N) ∧ (∀ i : Int, 0 ≤ i → i < 100 → N 58 i = M 77 i) ∧ (∀ i : Int, (i < 0 ∨ 100 ≤ i) → N 58 i = M 58 i) ∧ eqo [(58, (-1))] M N := by
  have h : okp (iter (p_M_debts_L118 f) f (0, M)) (fun q => q.1 = allS (q.2 58) ∧ (∀ i : Int, 0 ≤ i → i < 100 → q.2 58 i = M 77 i) ∧ (∀ i : Int, (i < 0 ∨ 100 ≤ i) → q.2 58 i = M 58 i) ∧ eqo [(58, (-1))] M q.2) := by
    refine for_ok 100 (fun n s => s.1 = (n : Int) ∧ eqo [(58, (-1))] M s.2 ∧ (∀ i : Int, 0 ≤ i → i < (n : Int) → s.2 58 i = M 77 i) ∧ ∀ i : Int, (i < 0 ∨ 100 ≤ i) → s.2 58 i = M 58 i) ?_ ?_ f (by omega) ⟨rfl, eqo_rfl _ _, fun i i0 i1 => by omega, fun i _ => rfl⟩
    · intro n ⟨k, M'⟩ hn hI
      have hI' : k = (n : Int) ∧ eqo [(58, (-1))] M M' ∧ (∀ i : Int, 0 ≤ i → i < (n : Int) → M' 58 i = M 77 i) ∧ ∀ i : Int, (i < 0 ∨ 100 ≤ i) → M' 58 i = M 58 i := hI
      obtain ⟨hk, hI1, hI2, hI3⟩ := hI'
      subst hk
      unfold p_M_debts_L118
      simp only []
      rw [if_pos (by omega), bnd_eq (by omega) (by omega), w32_of (a := 0 + (n : Int)) (by omega) (by omega), bnd_eq (by omega) (by omega), lt_eq, lt_eq, w32_of (by omega) (by omega)]
      refine ⟨by show (n : Int) + 1 = ((n + 1 : Nat) : Int); omega, eqo_oUa (.head _) hI1, fun i i0 i1 => ?_, fun i i0 => ?_⟩
      · show oU M' 58 (0 + (n : Int)) (M' 77 n) 58 i = _
        by_cases hi : i = n
        · subst hi; rw [show (0 : Int) + (n : Int) = n from Int.zero_add _, oU_at]; exact congrFun (eqo_a hI1 77 rfl) _
        · rw [oU_i (by omega)]; exact hI2 i i0 (by omega)
      · show oU M' 58 (0 + (n : Int)) (M' 77 n) 58 i = _
        rw [oU_i (by omega)]; exact hI3 i i0
    · intro ⟨k, M'⟩ hI
      have hI' : k = ((100 : Nat) : Int) ∧ eqo [(58, (-1))] M M' ∧ (∀ i : Int, 0 ≤ i → i < ((100 : Nat) : Int) → M' 58 i = M 77 i) ∧ ∀ i : Int, (i < 0 ∨ 100 ≤ i) → M' 58 i = M 58 i := hI
      obtain ⟨hk, hI1, hI2, hI3⟩ := hI'
      subst hk
      have hd' : dOk (M' 58) := fun i i0 i1 => by rw [hI2 i i0 i1]; exact hd i i0 i1
      unfold p_M_debts_L118
      simp only []
      rw [if_neg (by omega), e_M_owedInAll (by omega) hd', Option.bind_some]
      exact ⟨rfl, fun i i0 i1 => hI2 i i0 i1, hI3, hI1⟩
  obtain ⟨q, eq, h1, h2⟩ := okp_ex h
  exact ⟨q.2, by rw [eq, ← h1], h2⟩
theorem rOk_newdebts {T : Nat} {h : Int} {D D' : Int → Int} (hd : rOk T h D) (h1 : ∀ i : Int, 0 ≤ i → i < 100 → 0 ≤ D' i ∧ D' i ≤ 99) (h2 : ∀ a b : Int, 0 ≤ a → a < 10 → 0 ≤ b → b < 10 → 0 < D' (10 * a + b) → tld T a ∧ tld T b ∧ a ≠ b) (he : ∀ i : Int, (i < 0 ∨ 100 ≤ i) → D' i = D i) : rOk T h D' := by
  obtain ⟨g1, g2, g3, g4, g5, g6, g7, g8, g9, g10, g11, g12, g13⟩ := hd
  unfold rOk
  rw [he 150 (by omega), he 151 (by omega), he 152 (by omega), he 153 (by omega), he 154 (by omega), he 155 (by omega), he 156 (by omega), he 157 (by omega), he 158 (by omega)]
  refine ⟨h1, h2, fun i i0 i1 => ?_, g4, fun i i0 i1 => ?_, g6, g7, g8, g9, g10, g11, g12, g13⟩
  · rw [he (100 + i) (by omega)]; exact g3 i i0 i1
  · rw [he (110 + i) (by omega)]; exact g5 i i0 i1
theorem dC_newdebts {M M' : oM} {D D' : Int → Int} (hc : dC M 6 D) (h1 : ∀ i : Int, 0 ≤ i → i < 100 → M' 7 i = D' i) (he : ∀ i : Int, (i < 0 ∨ 100 ≤ i) → D' i = D i) (e6 : M' 6 = M 6) (e8 : M' 8 = M 8) (e9 : M' 9 = M 9) : dC M' 6 D' := by
  obtain ⟨g1, g2, g3, g4⟩ := hc
  unfold dC
  rw [he 150 (by omega), he 151 (by omega), he 152 (by omega), he 153 (by omega), he 154 (by omega), he 155 (by omega), he 156 (by omega), he 157 (by omega), he 158 (by omega), e6]
  refine ⟨h1, fun i i0 i1 => ?_, fun i i0 i1 => ?_, g4⟩
  · rw [he (100 + i) (by omega), show M' (6 + 2) = M 8 from e8]; exact g2 i i0 i1
  · rw [he (110 + i) (by omega), show M' (6 + 3) = M 9 from e9]; exact g3 i i0 i1
theorem call_debts {f T : Nat} {c n : Int} {Mc Mr : oM} (hf : 2000 < f) (h : Rel T c Mc Mr) : Same f c (p_O_debts f n Mc) (p_M_debts f n Mr) := by
  obtain ⟨hp, hd, ho, hk, ht, hlaw, h56⟩ := id h
  by_cases hn : 1 ≤ n ∧ n ≤ 160 ∧ n ≤ Mc 1 1
  · obtain ⟨N0, a1, a2, a3⟩ := e_T_opens (f := f) (hi := 160) ht (by decide) hn
    obtain ⟨q0, b1, b2⟩ := okp_ex (e_fill (f := f) (o := 38) (n := 100) (v := 0) (M := N0) (by decide) hf)
    have b3 := fr_JA_fill (eqo_rfl _ _) _ b1
    generalize hM1 : oU (oU (oU Mr 57 8 0) 57 9 n) 57 31 0 = M1
    obtain ⟨M2, c1, c2, c3⟩ := zero77 (f := f) (M := M1) hf
    have t7 : Mr 57 7 = Mc 1 1 := ht.2.1
    have rC : rdC (Mc 2) n q0.2 0 := by
      obtain ⟨x1, x2, x3, x4, x5, x6⟩ := a2
      have e1 : q0.2 1 = N0 1 := eqo_a b3 1 rfl
      have e2 : q0.2 2 = N0 2 := eqo_a b3 2 rfl
      unfold rdC
      rw [e1, e2]
      exact ⟨x1, x2, x3, x4, x5, x6⟩
    have rM : rdM (Mc 2) n M2 0 := by
      have e63 : M2 63 = Mr 63 := (eqo_a c3 63 rfl).trans (by rw [← hM1, oU_row (by decide), oU_row (by decide), oU_row (by decide)])
      refine ⟨⟨by omega, by omega⟩, fun i i0 i1 => ?_, ?_, ?_, by decide, by decide⟩
      · rw [e63]
        have := ht.2.2 i i0 (by omega)
        exact ⟨this.2, this.1⟩
      · rw [eqo_f c3 57 9 rfl, ← hM1, oU_i (by decide), oU_at]
      · rw [eqo_f c3 57 8 rfl, ← hM1, oU_i (by decide), oU_i (by decide), oU_at]
    have hR : dbR T (Mc 2) n q0.2 M2 0 0 q0.2 M2 := by
      refine ⟨rC, rM, by omega, ⟨fun i i0 i1 => ?_, fun a b a0 a1 b0 b1 hpos => ?_⟩, ?_, eqo_rfl _ _, eqo_rfl _ _⟩
      · rw [b2 i i0 i1, c2 i i0 i1]; decide
      · rw [b2 _ (by omega) (by omega)] at hpos; exact absurd hpos (by decide)
      · rw [eqo_f c3 57 31 rfl, ← hM1, oU_at]
    have hT1 : q0.2 3 2 = T := (eqo_f b3 3 2 rfl).trans ((eqo_f a3 3 2 rfl).trans hp.2.1)
    have hT2 : M2 57 5 = T := (eqo_f c3 57 5 rfl).trans (by rw [← hM1, oU_i (by decide), oU_i (by decide), oU_i (by decide)]; exact hp.2.2.1)
    obtain ⟨q, d1, d2⟩ := okp_ex (lines_ok (F := f) hf hT1 hT2 hp.1 30 f f 0 0 q0.2 M2 (by decide) (by decide) (by omega) (by omega) hR)
    obtain ⟨q', d3, d4⟩ := okp_ex d2
    have eC : p_O_debts f n Mc = ((some q).bind fun q2 => (p_T_clear f q2.2).bind fun q3 => if q2.1 = 0 then (cpg 100 100 0 0 100 fun _ => lt (acopy q3.2 38 0 7 0 100) fun M4 => (p_D_owedInAll f 6 M4).bind fun q5 => some (q5.1, q5.2)) else (some (q2.1, q3.2))) := by
      unfold p_O_debts p_DR_read
      rw [a1, Option.bind_some, if_neg (show ¬ ((1 : Int), N0).fst = 0 from n10), show p_JA_fill f 38 100 0 ((1 : Int), N0).snd = some q0 from b1, Option.bind_some, d1]
    have eM : p_M_debts f n Mr = p_M_debts_X62 f q' := by
      unfold p_M_debts
      rw [e_M_in, in_t (show 1 ≤ n ∧ n ≤ 160 by omega), Option.bind_some, if_neg (show ¬ (b01 true, Mr).fst = 0 from n10), if_neg (show ¬ (b01 true, Mr).snd 57 7 < n from by show ¬ Mr 57 7 < n; omega), lt_eq, lt_eq, lt_eq, show oU (oU (oU (b01 true, Mr).snd 57 8 0) 57 9 n) 57 31 0 = M1 from hM1, c1, Option.bind_some]
      unfold p_M_debts_X38
      simp only []
      have e := d3
      rw [Option.bind_eq_some_iff] at e
      obtain ⟨z, z1, z2⟩ := e
      rw [z1, Option.bind_some, z2, Option.bind_some]
    obtain ⟨x, N⟩ := q
    obtain ⟨x', M⟩ := q'
    rcases d4 with ⟨y1, y2, y3, y4, y5⟩ | ⟨y1, y2, p, line, hR2⟩
    · simp only at y1 y2 y3 y4 y5
      have eC2 : p_O_debts f n Mc = some (x, oU N 1 1 0) := by
        rw [eC, Option.bind_some]
        unfold p_T_clear
        rw [lt_eq, Option.bind_some, if_neg (show ¬ (x, N).fst = 0 from y1)]
      have eM2 : p_M_debts f n Mr = some (x, oU M 57 7 0) := by
        rw [eM]
        unfold p_M_debts_X62
        simp only []
        rw [lt_eq, if_pos y2, oU_i (by decide), y3]
      have g1 := fr_O_debts (eqo_rfl _ _) _ eC2
      have f58 : (oU M 57 7 0) 58 = Mr 58 := by
        rw [oU_row (by decide), eqo_a y5 58 rfl, eqo_a c3 58 rfl, ← hM1, oU_row (by decide), oU_row (by decide), oU_row (by decide)]
      have f7 : (oU N 1 1 0) 7 = Mc 7 := by
        rw [oU_row (by decide), eqo_a y4 7 rfl, eqo_a b3 7 rfl, eqo_a a3 7 rfl]
      have g2 := fr_M_debts (eqo_rfl _ _) _ eM2
      refine same_upd eC2 eM2 ⟨T, Rel_tape0d h g1 g2 rfl ?_ ?_ (oU_at (M := N)) (oU_at (M := M))⟩
      · rw [f58]
        refine dC_newdebts (D := Mr 58) hd (fun i i0 i1 => by rw [f7]; exact hd.1 i i0 i1) (fun i _ => rfl) ?_ (eqo_a g1 8 rfl) (eqo_a g1 9 rfl)
        exact eqo_a g1 6 rfl
      · rw [f58]; exact rOk_mono ho (by omega)
    · simp only at y1 y2 hR2
      obtain ⟨u1, u2, u3, u4, u5, u6, u7⟩ := hR2
      have hdk : dOk (M 77) := fun i i0 i1 => by have := u4.1 i i0 i1; rw [← this.1]; exact this.2
      obtain ⟨M3, m1, m2, m3, m4⟩ := copy58 (f := f) (M := oU M 57 7 0) hf (by rw [oU_row (by decide)]; exact hdk)
      have e77 : (oU M 57 7 0) 77 = M 77 := oU_row (by decide)
      rw [e77] at m2
      have e58 : (oU M 57 7 0) 58 = Mr 58 := by
        rw [oU_row (by decide), eqo_a u7 58 rfl, eqo_a c3 58 rfl, ← hM1, oU_row (by decide), oU_row (by decide), oU_row (by decide)]
      rw [e58] at m3
      have h38 : ∀ i : Int, 0 ≤ i → i < 100 → acopy (oU N 1 1 0) 38 0 7 0 100 7 i = M3 58 i := fun i i0 i1 => by
        rw [acopy_in i0 (by omega), oU_o (by decide), m2 i i0 i1, ← (u4.1 i i0 i1).1]
        congr 1; omega
      have hd4 : dOk (acopy (oU N 1 1 0) 38 0 7 0 100 (6 + 1)) := fun i i0 i1 => by
        rw [show acopy (oU N 1 1 0) 38 0 7 0 100 (6 + 1) i = M3 58 i from h38 i i0 i1, m2 i i0 i1]; exact hdk i i0 i1
      have ea : allS (acopy (oU N 1 1 0) 38 0 7 0 100 (6 + 1)) = allS (M3 58) := allS_congr fun i i0 i1 => h38 i i0 i1
      have eC2 : p_O_debts f n Mc = some (allS (M3 58), acopy (oU N 1 1 0) 38 0 7 0 100) := by
        rw [eC, Option.bind_some]
        unfold p_T_clear
        rw [lt_eq, Option.bind_some, if_pos (show (x, N).fst = 0 from y1), cpg_eq (by decide), lt_eq, show p_D_owedInAll f 6 (acopy ((0 : Int), oU (x, N).snd 1 1 0).snd 38 0 7 0 100) = some (allS (acopy (oU N 1 1 0) 38 0 7 0 100 (6 + 1)), acopy (oU N 1 1 0) 38 0 7 0 100) from e_D_owedInAll (by omega) hd4, Option.bind_some, ea]
      have eM2 : p_M_debts f n Mr = some (allS (M3 58), M3) := by
        rw [eM]
        unfold p_M_debts_X62
        simp only []
        rw [lt_eq, if_neg (by rw [y2]; exact n10), m1]
      have g1 := fr_O_debts (eqo_rfl _ _) _ eC2
      have g2 := fr_M_debts (eqo_rfl _ _) _ eM2
      refine same_upd eC2 eM2 ⟨T, Rel_tape0d h g1 g2 rfl ?_ ?_ ?_ ?_⟩
      · exact dC_newdebts hd h38 m3 (eqo_a g1 6 rfl) (eqo_a g1 8 rfl) (eqo_a g1 9 rfl)
      · refine rOk_mono (rOk_newdebts ho (fun i i0 i1 => by rw [m2 i i0 i1]; exact hdk i i0 i1) (fun a b a0 a1 b0 b1 hpos => ?_) m3) (by omega)
        rw [m2 _ (by omega) (by omega), ← (u4.1 _ (by omega) (by omega)).1] at hpos
        exact u4.2 a b a0 a1 b0 b1 hpos
      · rw [acopy_o (by decide), oU_at]
      · rw [eqo_f m4 57 7 rfl, oU_at]
  · refine same_some (r := -1) h ?_ ?_
    · unfold p_O_debts
      rw [e_T_opens_no hn, Option.bind_some, if_pos (show ((0 : Int), Mc).fst = 0 from rfl)]
    · unfold p_M_debts
      rw [e_M_in, Option.bind_some]
      by_cases z : 1 ≤ n ∧ n ≤ 160
      · have := ht.2.1
        rw [in_t z, if_neg (show ¬ (b01 true, Mr).fst = 0 from n10), if_pos (show (b01 true, Mr).snd 57 7 < n from by show Mr 57 7 < n; omega)]
      · rw [in_f z, if_pos (show (b01 false, Mr).fst = 0 from rfl)]
