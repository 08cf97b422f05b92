/-! one sets out; an hour goes by -/
def nxQ (T : Nat) (o : Nat) (p : Int) (Mc Mr : oM) (q q' : Int × oM) : Prop :=
  ∃ N, eqo [(25, (-1)), (26, (-1))] Mc N ∧ eqo [(75, (-1)), (76, (-1))] Mr q'.2 ∧ ((q'.1 = -2 ∧ q.2 = N) ∨ ((0 ≤ q'.1 ∧ q'.1 < 10) ∧ 0 < Mr 58 (10 * p + q'.1) ∧ q.2 = oU (oU (oU (oU N o 5 (N o 4)) o 6 q'.1) o 7 (wayS (Mc 4) (Mc 5) p q'.1)) o 4 (-1)))
theorem next_paid {f o T : Nat} {h p : Int} {Mc Mr : oM} (hf : 2000 < f) (ho : o ≤ 14 ∧ 6 ≤ o) (hR : tkR T h o Mc Mr) (hp0 : 0 ≤ p ∧ p < 10) :
    okp (iter (p_C_setOut_L39 f o p) f (-1, 0, 0, Mc)) (fun q => okp (p_M_nextPaid f p Mr) (fun q' => nxQ T o p Mc Mr q q')) := by
  obtain ⟨hp, hl, hd⟩ := id hR
  unfold p_M_nextPaid
  refine for2_ok 10 (fun n s s' => s.2.2.1 = (n : Int) ∧ s'.2.2.1 = (n : Int) ∧ s.2.1 = s'.2.1 ∧ 0 ≤ s.2.1 ∧ ((s'.1 = -2 ∧ s.1 = -1) ∨ ((0 ≤ s'.1 ∧ s'.1 < 10) ∧ s.1 = s'.1 ∧ 0 < Mr 58 (10 * p + s'.1))) ∧ eqo [(25, (-1)), (26, (-1))] Mc s.2.2.2 ∧ eqo [(75, (-1)), (76, (-1))] Mr s'.2.2.2) ?_ ?_ f f (by omega) (by omega) ⟨rfl, rfl, rfl, by show (0 : Int) ≤ 0; omega, .inl ⟨rfl, rfl⟩, eqo_rfl _ _, eqo_rfl _ _⟩
  · intro n ⟨b1, m1, t1, M⟩ ⟨b2, m2, t2, M'⟩ hn hI
    obtain ⟨i1, i2, i3, i4, i5, e1, e2⟩ := hI
    simp only at i1 i2 i3 i4 i5 e1 e2
    subst i1; subst i2; subst i3
    have e58 : M' 58 = Mr 58 := eqo_a e2 58 rfl
    have hp' : pplR T M M' := pplR_eqo hp e1 e2 rfl
    have hl' : lawR M M' := lawR_eqo hl e1 e2 rfl
    have hd' : dR T h o M M' := by
      refine ⟨?_, by rw [e58]; exact hd.2⟩
      rw [e58]
      exact dC_of hd.1 (eqo_a e1 o (grow_o (by omega))) (eqo_a e1 (o + 1) (grow_o (by omega))) (eqo_a e1 (o + 2) (grow_o (by omega))) (eqo_a e1 (o + 3) (grow_o (by omega)))
    have rb : 0 ≤ (n : Int) ∧ (n : Int) < 10 := by omega
    have hk := hd'.2.1 (10 * p + n) (by omega) (by omega)
    have ht := hd'.2.2.1 p n hp0.1 hp0.2 rb.1 rb.2
    unfold p_C_setOut_L39 p_M_nextPaid_L8 p_C_setOut_B71_39 p_C_setOut_B87_39 p_M_nextPaid_B61_8
    simp only []
    rw [if_pos rb.2, e_D_debtOf hp0 rb, hd'.1.1 _ (by omega) (by omega), if_pos rb.2, e_M_isPerson hp'.2.2.1 hp'.1]
    simp only [Option.bind_some, lt_eq, w32_of (a := (n : Int) + 1) (by omega) (by omega)]
    by_cases q : 0 < M' 58 (10 * p + n)
    · rw [if_pos q, (show tldb T (n : Int) = true from (ht q).2.1), b01_t, if_neg (by omega), e_M_debtOf hp0 rb]
      simp only [Option.bind_some]
      rw [if_neg (by omega)]
      obtain ⟨a, ea, ha⟩ := okp_ex (liking_likes (f := f) (by omega) ho.1 hp' hl' hd' hp0 rb)
      obtain ⟨a', ea', h1, h2⟩ := okp_ex ha
      have g1 := fr_L_liking (eqo_rfl _ _) _ ea
      have g2 := fr_M_likesBy (eqo_rfl _ _) _ ea'
      rw [ea, ea']
      simp only [Option.bind_some]
      rw [h1]
      by_cases z : m1 < a'.1
      · rw [if_pos z, if_pos z]
        refine ⟨by show (n : Int) + 1 = ((n + 1 : Nat) : Int); omega, by show (n : Int) + 1 = ((n + 1 : Nat) : Int); omega, rfl, by show 0 ≤ a'.1; omega, .inr ⟨rb, rfl, by show 0 < Mr 58 (10 * p + n); rw [← e58]; exact q⟩, eqo_self e1 g1, eqo_self e2 g2⟩
      · rw [if_neg z, if_neg z]
        exact ⟨by show (n : Int) + 1 = ((n + 1 : Nat) : Int); omega, by show (n : Int) + 1 = ((n + 1 : Nat) : Int); omega, rfl, i4, i5, eqo_self e1 g1, eqo_self e2 g2⟩
    · rw [if_neg q]
      rw [if_neg (by omega)]
      have fin : psum2 (fun s s' => s.2.2.1 = ((n + 1 : Nat) : Int) ∧ s'.2.2.1 = ((n + 1 : Nat) : Int) ∧ s.2.1 = s'.2.1 ∧ 0 ≤ s.2.1 ∧ ((s'.1 = -2 ∧ s.1 = -1) ∨ ((0 ≤ s'.1 ∧ s'.1 < 10) ∧ s.1 = s'.1 ∧ 0 < Mr 58 (10 * p + s'.1))) ∧ eqo [(25, (-1)), (26, (-1))] Mc s.2.2.2 ∧ eqo [(75, (-1)), (76, (-1))] Mr s'.2.2.2) (nxQ T o p Mc Mr) (.inl (b1, m1, (n : Int) + 1, M)) (.inl (b2, m1, (n : Int) + 1, M')) :=
        ⟨by show (n : Int) + 1 = ((n + 1 : Nat) : Int); omega, by show (n : Int) + 1 = ((n + 1 : Nat) : Int); omega, rfl, i4, i5, e1, e2⟩
      cases htl : tldb T (n : Int) with
      | false => rw [b01_f, if_pos rfl]; exact fin
      | true =>
        rw [b01_t, if_neg (by omega), e_M_debtOf hp0 rb]
        simp only [Option.bind_some]
        rw [if_pos (by omega)]
        exact fin
  · intro ⟨b1, m1, t1, M⟩ ⟨b2, m2, t2, M'⟩ hI
    obtain ⟨i1, i2, i3, i4, i5, e1, e2⟩ := hI
    simp only at i1 i2 i3 i4 i5 e1 e2
    unfold p_C_setOut_L39 p_M_nextPaid_L8
    simp only []
    rw [if_neg (by omega), if_neg (c := t2 < 10) (by omega)]
    rcases i5 with ⟨z1, z2⟩ | ⟨z1, z2, z3⟩
    · rw [if_pos (by omega)]
      exact ⟨M, e1, e2, .inl ⟨z1, rfl⟩⟩
    · rw [if_neg (by omega), e_P_way (by rw [eqo_a e1 4 rfl]; exact hp.2.2.2.1) (by rw [eqo_a e1 5 rfl]; exact hp.2.2.2.2.1) hp0 (by omega)]
      simp only [Option.bind_some, p_D_sendTo, lt_eq]
      refine ⟨M, e1, e2, .inr ⟨z1, z3, ?_⟩⟩
      rw [eqo_a e1 4 rfl, eqo_a e1 5 rfl, z2]
/-- the coin sets out, in the relation -/
theorem sets_out {T : Nat} {h p b : Int} {o : Nat} {N M : oM} (ho : o ≤ 14 ∧ 6 ≤ o) (hR : tkR T h o N M) (hh : M 58 151 = p) (hp0 : 0 ≤ p ∧ p < 10) (hb : 0 ≤ b ∧ b < 10) (hk : 0 < M 58 (10 * p + b)) {w : Int} (hw : w = wayS (N 4) (N 5) p b) :
    tkR T h o (oU (oU (oU (oU N o 5 (N o 4)) o 6 b) o 7 w) o 4 (-1)) (oU (oU (oU (oU M 58 151 (-2)) 58 152 p) 58 153 b) 58 154 w) := by
  obtain ⟨hp, hl, hd⟩ := id hR
  have ht := hd.2.2.1 p b hp0.1 hp0.2 hb.1 hb.2 hk
  have wb := wayS_bd hp.2.2.2.1 hp.2.2.2.2.1 hp0 hb
  rw [← hw] at wb
  have hh0 := rOk_holder hd.2
  refine tk_field (w := [(58, (-1))]) hp hl ho (eqo_oUa (.head _) (eqo_oUa (.head _) (eqo_oUa (.head _) (eqo_oUa (.head _) (eqo_rfl _ _))))) (eqo_oUa (.head _) (eqo_oUa (.head _) (eqo_oUa (.head _) (eqo_oUa (.head _) (eqo_rfl _ _))))) rfl ⟨?_, ?_⟩
  · obtain ⟨g1, g2, g3, g4, g5, g6, g7, g8, g9⟩ := hd.1
    have hb4 := hd.2.2.2.2.1
    unfold dC
    rw [oU_sD, oU_sD, oU_sD, oU_sD]
    simp (disch := omega) only [sD_ne, sD_at, oU_o, oU_at, oU_i]
    refine ⟨fun i i0 i1 => ?_, fun i i0 i1 => ?_, fun i i0 i1 => ?_, g4, rfl, fun _ => ?_, ?_, trivial, g9⟩
    · simp (disch := omega) only [sD_ne]; exact g1 i i0 i1
    · simp (disch := omega) only [sD_ne]; exact g2 i i0 i1
    · simp (disch := omega) only [sD_ne]; exact g3 i i0 i1
    · rw [g5, hh]; unfold p21; rw [if_neg (by omega)]
    · unfold p21; rw [if_neg (by omega)]
  · refine rOk_of (rOkw_congr (rOk_w hd.2) fun i i0 i1 => ?_) ?_ ?_ ?_ ?_
    · rw [oU_sD, oU_sD, oU_sD, oU_sD]
      simp (disch := omega) only [sD_ne]
    · rw [oU_sD, oU_sD, oU_sD, oU_sD]
      simp (disch := omega) only [sD_ne, sD_at]
      exact .inl trivial
    · rw [oU_sD, oU_sD, oU_sD, oU_sD]
      simp (disch := omega) only [sD_ne, sD_at]
      omega
    · rw [oU_sD, oU_sD, oU_sD, oU_sD]
      simp (disch := omega) only [sD_ne, sD_at]
      exact fun _ => ⟨trivial, ht⟩
    · rw [oU_sD, oU_sD, oU_sD, oU_sD]
      simp (disch := omega) only [sD_at]
      intro z; omega
/-- one holds the coin an hour -/
theorem holds_hour {f o T : Nat} {h p : Int} {P : Prop} {Mc Mr : oM} (hf : 2000 < f) (hh0 : h ≤ 1000000) (ho : o ≤ 14 ∧ 6 ≤ o) (hR : tkR T h o Mc Mr) (hc : cnt P Mc Mr) (hh : Mr 58 151 = p) (hp0 : 0 ≤ p ∧ p < 10) :
    okp (p_C_setOut f o (oU Mc (o + 2) p (w32 (Mc (o + 2) p + 1)))) (fun q => okp (p_M_holds f p Mr) (fun q' => tkR T (h + 1) o q.2 q'.2 ∧ cnt P q.2 q'.2)) := by
  obtain ⟨hp, hl, hd⟩ := id hR
  have htp : tld T p := by
    have h6 := hd.2.2.2.2.2.2.1
    rcases h6 with z | z
    · omega
    · rw [hh] at z; exact z
  have hheld := hd.2.2.2.1 p hp0.1 hp0.2
  have eh := hd.1.2.1 p hp0.1 hp0.2
  have wv : w32 (Mr 58 (100 + p) + 1) = Mr 58 (100 + p) + 1 := w32_of (by omega) (by omega)
  rw [eh, wv]
  have hR1 : tkR T (h + 1) o (oU Mc (o + 2) p (Mr 58 (100 + p) + 1)) (oU Mr 58 (100 + p) (Mr 58 (100 + p) + 1)) := by
    refine tk_field (w := [(58, (-1))]) hp hl ho (eqo_oUa (.tail _ (.tail _ (.head _))) (eqo_rfl _ _)) (eqo_oUa (.head _) (eqo_rfl _ _)) rfl ⟨?_, ?_⟩
    · obtain ⟨g1, g2, g3, g4⟩ := hd.1
      have hb4 := hd.2.2.2.2.1
      unfold dC
      rw [oU_sD]
      simp (disch := omega) only [sD_ne, sD_at, oU_o]
      refine ⟨fun i i0 i1 => ?_, fun i i0 i1 => ?_, fun i i0 i1 => ?_, g4⟩
      · simp (disch := omega) only [sD_ne]; exact g1 i i0 i1
      · by_cases hi : i = p
        · subst hi; rw [sD_at, oU_at]
        · rw [sD_ne (by omega), oU_i hi]; exact g2 i i0 i1
      · simp (disch := omega) only [sD_ne]; exact g3 i i0 i1
    · obtain ⟨h1, h2, h3, h4, h5, h6, h7, h8, h9, h10, h11, h12, h13⟩ := hd.2
      rw [oU_sD]
      unfold rOk
      simp (disch := omega) only [sD_ne, sD_at]
      refine ⟨fun i i0 i1 => ?_, fun a b a0 a1 b0 b1 => ?_, fun i i0 i1 => ?_, h4, fun i i0 i1 => ?_, h6, h7, h8, h9, h10, ⟨h11.1, by omega⟩, h12, h13⟩
      · rw [sD_ne (by omega)]; exact h1 i i0 i1
      · rw [sD_ne (by omega)]; exact h2 a b a0 a1 b0 b1
      · by_cases hi : i = p
        · subst hi
          rw [sD_at]
          exact ⟨by omega, by omega, fun _ => htp⟩
        · rw [sD_ne (by omega)]
          exact ⟨(h3 i i0 i1).1, by have := (h3 i i0 i1).2.1; omega, (h3 i i0 i1).2.2⟩
      · rw [sD_ne (by omega)]; exact h5 i i0 i1
  have hc1 : cnt P (oU Mc (o + 2) p (Mr 58 (100 + p) + 1)) (oU Mr 58 (100 + p) (Mr 58 (100 + p) + 1)) := by
    intro hP
    simp (disch := omega) only [oU_o]
    exact hc hP
  have hh1 : oU Mr 58 (100 + p) (Mr 58 (100 + p) + 1) 58 151 = p := by rw [oU_i (by omega)]; exact hh
  have href : p_M_holds f p Mr = (p_M_in f (oU Mr 58 (100 + p) (Mr 58 (100 + p) + 1) 58 155) 6 19 (oU Mr 58 (100 + p) (Mr 58 (100 + p) + 1))).bind fun q5 => if q5.1 = 0 then (some (0, q5.2)) else (bnd 159 157 fun i6 => if q5.2 58 i6 = 1 then (some (0, q5.2)) else ((p_M_nextPaid f p q5.2).bind fun q7 => if q7.1 < 0 then (some (0, q7.2)) else ((p_M_setsOut f p q7.1 q7.2).bind fun q8 => some (0, q8.2)))) := by
    unfold p_M_holds
    rw [w32_of (a := 100 + p) (by omega) (by omega), bnd_eq (by omega) (by omega), bnd_eq (by omega) (by omega), wv, lt_eq, bnd_eq (by omega) (by omega)]
  rw [href]
  clear href
  generalize oU Mc (o + 2) p (Mr 58 (100 + p) + 1) = N1 at *
  generalize oU Mr 58 (100 + p) (Mr 58 (100 + p) + 1) = M1 at *
  obtain ⟨hp1, hl1, hd1⟩ := id hR1
  have r12 := hd1.2.2.2.2.2.2.2.2.2.2.2.2.1
  have c8 := hd1.1.2.2.2.2.2.2.2.2.1
  have c10 := hd1.1.2.2.2.2.2.2.2.2.2.2.1
  rw [e_M_in]
  simp only [Option.bind_some]
  unfold p_C_setOut
  rw [c8, c10]
  by_cases hin : 6 ≤ M1 58 155 ∧ M1 58 155 ≤ 19
  · rw [in_t hin, b01_t, if_neg (c := (1 : Int) = 0) (by omega), bnd_eq (by omega) (by omega)]
    rcases r12 with z | z
    · rw [if_pos z, if_neg (by omega), if_neg (by omega), if_neg (c := M1 58 157 = 1) (by omega), lt_eq]
      have hN4 : N1 o 4 = p := by
        have := hd1.1.2.2.2.2.1
        rw [hh1] at this
        rw [this]; unfold p21; rw [if_neg (by omega)]
      rw [hN4]
      refine okp_mono (next_paid (f := f) hf ho hR1 hp0) ?_
      intro q hq
      refine okp_bind' (okp_mono hq ?_)
      intro q' ⟨N, e1, e2, hcase⟩
      have e58 : q'.2 58 = M1 58 := eqo_a e2 58 rfl
      have hp2 : pplR T N q'.2 := pplR_eqo hp1 e1 e2 rfl
      have hl2 : lawR N q'.2 := lawR_eqo hl1 e1 e2 rfl
      have hd2 : dR T (h + 1) o N q'.2 := by
        refine ⟨?_, by rw [e58]; exact hd1.2⟩
        rw [e58]
        exact dC_of hd1.1 (eqo_a e1 o (grow_o (by omega))) (eqo_a e1 (o + 1) (grow_o (by omega))) (eqo_a e1 (o + 2) (grow_o (by omega))) (eqo_a e1 (o + 3) (grow_o (by omega)))
      have hc2 : cnt P N q'.2 := by
        intro hP
        rw [e1 41 2 rfl, e1 41 3 rfl, e1 41 4 rfl, e2 57 32 rfl, e2 57 33 rfl, e2 57 34 rfl]
        exact hc1 hP
      rcases hcase with ⟨z1, z2⟩ | ⟨z1, z2, z3⟩
      · rw [if_pos (by omega), z2]
        exact ⟨⟨hp2, hl2, hd2⟩, hc2⟩
      · rw [if_neg (by omega)]
        have ws : wayS (q'.2 61) (q'.2 62) p q'.1 = wayS (N1 4) (N1 5) p q'.1 := by
          rw [eqo_a e2 61 rfl, eqo_a e2 62 rfl]
          exact wayS_congr hp0 z1 (fun i i0 i1 => hp1.2.2.2.2.2 i i0 i1)
        have sx := pplR_spotR hp2
        unfold p_M_setsOut
        rw [bnd_eq (by omega) (by omega), lt_eq, bnd_eq (by omega) (by omega), lt_eq, bnd_eq (by omega) (by omega), lt_eq, e_M_wayOf (by rw [oU_row (by omega), oU_row (by omega), oU_row (by omega)]; exact sx.1) (by rw [oU_row (by omega), oU_row (by omega), oU_row (by omega)]; exact sx.2) hp0 z1]
        simp only [Option.bind_some]
        rw [bnd_eq (by omega) (by omega), lt_eq, oU_row (o' := 61) (by omega), oU_row (o' := 61) (by omega), oU_row (o' := 61) (by omega), oU_row (o' := 62) (by omega), oU_row (o' := 62) (by omega), oU_row (o' := 62) (by omega), ws]
        rw [z3]
        refine ⟨sets_out ho ⟨hp2, hl2, hd2⟩ (by rw [e58]; exact hh1) hp0 z1 (by rw [e58]; exact z2) (by rw [eqo_a e1 4 rfl, eqo_a e1 5 rfl]), ?_⟩
        intro hP
        simp (disch := omega) only [oU_o]
        exact hc2 hP
    · rw [if_neg (by omega), if_pos z]
      exact ⟨hR1, hc1⟩
  · rw [in_f hin, b01_f, if_pos (c := (0 : Int) = 0) rfl]
    rcases r12 with z | z
    · rw [if_pos z]
      by_cases z6 : M1 58 155 < 6
      · rw [if_pos z6]; exact ⟨hR1, hc1⟩
      · rw [if_neg z6, if_pos (by omega)]; exact ⟨hR1, hc1⟩
    · rw [if_neg (by omega)]
      exact ⟨hR1, hc1⟩
