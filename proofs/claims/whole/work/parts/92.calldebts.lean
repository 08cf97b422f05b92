/-! DEBTS: a line, all lines, the call -/
theorem n10 : ¬ (1 : Int) = 0 := by decide
theorem dbR_step {T : Nat} {b : Int → Int} {n p line v : Int} {N0 M0 N M N' : oM} (hR : dbR T b n N0 M0 p line N M) (hp : p < n) (e2 : rdC b n N' (p + 1)) (e3 : eqo [(1, 3), (1, 4)] N N') : dbR T b n N0 M0 (p + 1) line N' (oU M 57 8 (p + 1)) ∧ dbR T b n N0 M0 (p + 1) line N' (oU (oU M 57 11 v) 57 8 (p + 1)) := by
  obtain ⟨r1, r2, r3, r4, r5, r6, r7⟩ := hR
  have hn := r1.1
  have key : ∀ M' : oM, rdM b n M' p → M' 77 = M 77 → M' 57 31 = line → eqo wdM M0 M' → dbR T b n N0 M0 (p + 1) line N' (oU M' 57 8 (p + 1)) := by
    intro M' k1 k2 k3 k4
    refine ⟨e2, rdM_next k1 (by omega), by omega, ⟨fun i i0 i1 => ?_, fun x y x0 x1 y0 y1 hp => ?_⟩, (oU_i (by decide)).trans k3, eqo_tr (subw_cons (.head _) (subw_cons (.tail _ (.head _)) subw_nil)) r6 e3, eqo_oU (.head _) k4⟩
    · rw [eqo_a e3 38 rfl, oU_o (by decide), k2]; exact r4.1 i i0 i1
    · rw [eqo_a e3 38 rfl] at hp; exact r4.2 x y x0 x1 y0 y1 hp
  exact ⟨key M r2 rfl r5 r7, key (oU M 57 11 v) (rdM_57 r2 (by decide) (by decide)) (oU_row (by decide)) ((oU_i (by decide)).trans r5) (eqo_oU (.tail _ (.tail _ (.head _))) r7)⟩
theorem ft_no {T : Nat} {b : Int → Int} {n p line x x' : Int} {N0 M0 N M M' : oM} (hR : dbR T b n N0 M0 p line N M) (hx : x ≠ 0) (hx' : x' = x) (e : eqo wdM M0 M') : ftQ wdC wdM N0 M0 (lnP T b n N0 M0 (line + 1)) (x, N) (0, oU M' 57 10 x') := .inl ⟨hx, rfl, at_snd.trans hx', hR.2.2.2.2.2.1, eqo_oU (.tail _ (.head _)) e⟩
theorem line_ok {f T : Nat} {b : Int → Int} {n p line : Int} {N0 M0 N M : oM} (hf : 2000 < f) (hT : N0 3 2 = T) (hTr : M0 57 5 = T) (hT' : T < 1024) (hl : 0 ≤ line ∧ line ≤ 30) (hR : dbR T b n N0 M0 p line N M) :
    okp (p_DR_readLine f line N) (fun q => okp (p_M_readsLine f M) (fun q' => ftQ wdC wdM N0 M0 (lnP T b n N0 M0 (line + 1)) q q')) := by
  obtain ⟨r1, r2, r3, r4, r5, r6, r7⟩ := id hR
  have hch := rdC_ch r1
  have hbd := chT_bd r1
  have hT1 : N 3 2 = T := (eqo_f r6 3 2 rfl).trans hT
  have hT2 : M 57 5 = T := (eqo_f r7 57 5 rfl).trans hTr
  have hp1000 := hch.2.2.2.1
  unfold p_DR_readLine p_M_readsLine
  rw [e_T_nextOne hch.1 hbd, Option.bind_some, e_readsPerson (first := 1) r2 hT2 hT' r5 hbd, Option.bind_some]
  generalize hc1 : chT b n p = c1 at *
  by_cases q1 : 97 ≤ c1 ∧ c1 ≤ 106
  · have hpn : p < n := chT_in (b := b) (p := p) (by omega)
    rw [if_pos q1, if_pos q1, if_neg (show ¬ (c1 - 97, N).fst < 0 from by show ¬ c1 - 97 < 0; omega)]
    by_cases q30 : line = 30
    · rw [if_pos (show (1 : Int) ≠ 0 ∧ line = 30 from ⟨by decide, q30⟩), if_neg (show ¬ line < 30 by omega), show p_T_fault f 4 (c1 - 97, N).snd = some (-1000 * 4 - p, N) from e_T_fault hch.2.1 (by decide) hp1000, Option.bind_some, if_pos (show ((0 : Int), oU M 57 10 (-4000 - p)).fst = 0 from rfl)]
      exact ft_no hR (by omega) (by omega) r7
    · rw [if_neg (show ¬ ((1 : Int) ≠ 0 ∧ line = 30) from fun z => q30 z.2), if_pos (show line < 30 by omega), show p_P_has f (c1 - 97, N).fst (c1 - 97, N).snd = some (b01 (tldb T (c1 - 97)), N) from e_P_has hT1 hT', Option.bind_some]
      cases ht1 : tldb T (c1 - 97)
      · rw [if_pos (show (b01 false, N).fst = 0 from rfl), show p_T_fault f 7 (b01 false, N).snd = some (-1000 * 7 - p, N) from e_T_fault hch.2.1 (by decide) hp1000, Option.bind_some, if_neg (show ¬ (false = true) by decide), if_pos (show ((0 : Int), oU (oU M 57 11 (c1 - 97)) 57 10 (-7000 - p)).fst = 0 from rfl)]
        exact ft_no hR (by omega) (by omega) (eqo_oU (.tail _ (.tail _ (.head _))) r7)
      · obtain ⟨N1, a1, a2, a3⟩ := e_T_step1 (f := f) r1 hpn
        have hR1 := (dbR_step (v := c1 - 97) hR hpn a2 a3).2
        have e11 : oU (oU M 57 11 (c1 - 97)) 57 8 (p + 1) 57 11 = c1 - 97 := by rw [oU_i (by decide), oU_at]
        rw [if_neg (show ¬ (b01 true, N).fst = 0 from n10), show p_T_step f (b01 true, N).snd = some (0, N1) from a1, Option.bind_some, if_pos rfl, if_neg (show ¬ ((1 : Int), oU (oU M 57 11 (c1 - 97)) 57 8 (p + 1)).fst = 0 from n10), show ((1 : Int), oU (oU M 57 11 (c1 - 97)) 57 8 (p + 1)).snd 57 11 = c1 - 97 from e11, lt_eq]
        generalize oU (oU M 57 11 (c1 - 97)) 57 8 (p + 1) = M1 at *
        obtain ⟨u1, u2, u3, u4, u5, u6, u7⟩ := id hR1
        have hch1 := rdC_ch u1
        unfold p_T_next
        rw [Option.bind_some, show p_M_takes f 62 ((1 : Int), M1).snd = _ from e_takes u2, Option.bind_some, show ((0 : Int), N1).snd 1 4 = chT b n (p + 1) from hch1.1]
        by_cases q2 : chT b n (p + 1) = 62
        · have hpn1 : p + 1 < n := chT_in (b := b) (p := p + 1) (by omega)
          obtain ⟨N2, b1, b2, b3⟩ := e_T_step1 (f := f) u1 hpn1
          have hR2 := (dbR_step (v := 0) hR1 hpn1 b2 b3).1
          rw [show p + 1 + 1 = p + 2 from by omega] at hR2 b2
          rw [if_pos (show (chT b n (p + 1), ((0 : Int), N1).snd).fst = 62 from q2), if_pos q2, show p_T_step f (chT b n (p + 1), ((0 : Int), N1).snd).snd = some (0, N2) from b1, Option.bind_some, if_neg (show ¬ ((1 : Int), oU M1 57 8 (p + 1 + 1)).fst = 0 from n10), show oU M1 57 8 (p + 1 + 1) = oU M1 57 8 (p + 2) from by rw [show p + 1 + 1 = p + 2 from by omega]]
          generalize oU M1 57 8 (p + 2) = M2 at *
          obtain ⟨v1, v2, v3, v4, v5, v6, v7⟩ := id hR2
          have hch2 := rdC_ch v1
          have hbd2 := chT_bd v1
          have hT12 : N2 3 2 = T := (eqo_f v6 3 2 rfl).trans hT
          have hT22 : M2 57 5 = T := (eqo_f v7 57 5 rfl).trans hTr
          have hp2 := hch2.2.2.2.1
          rw [show p_T_nextOne f ((0 : Int), N2).snd = _ from e_T_nextOne hch2.1 hbd2, Option.bind_some, show p_M_readsPerson f 0 ((1 : Int), M2).snd = _ from e_readsPerson (first := 0) v2 hT22 hT' v5 hbd2, Option.bind_some]
          generalize hc2 : chT b n (p + 2) = c2 at *
          by_cases q3 : 97 ≤ c2 ∧ c2 ≤ 106
          · have hpn2 : p + 2 < n := chT_in (b := b) (p := p + 2) (by omega)
            rw [if_pos q3, if_pos q3, if_neg (show ¬ (c2 - 97, N2).fst < 0 from by show ¬ c2 - 97 < 0; omega), if_neg (show ¬ ((0 : Int) ≠ 0 ∧ line = 30) from fun z => z.1 rfl), show p_P_has f (c2 - 97, N2).fst (c2 - 97, N2).snd = some (b01 (tldb T (c2 - 97)), N2) from e_P_has hT12 hT', Option.bind_some]
            cases ht2 : tldb T (c2 - 97)
            · rw [if_pos (show (b01 false, N2).fst = 0 from rfl), show p_T_fault f 7 (b01 false, N2).snd = some (-1000 * 7 - (p + 2), N2) from e_T_fault hch2.2.1 (by decide) hp2, Option.bind_some, if_neg (show ¬ (false = true) by decide), if_pos (show ((0 : Int), oU (oU M2 57 11 (c2 - 97)) 57 10 (-7000 - (p + 2))).fst = 0 from rfl)]
              exact ft_no hR2 (by omega) (by omega) (eqo_oU (.tail _ (.tail _ (.head _))) v7)
            · obtain ⟨N3, d1, d2, d3⟩ := e_T_step1 (f := f) v1 hpn2
              have hR3 := (dbR_step (v := c2 - 97) hR2 hpn2 d2 d3).2
              have e11' : oU (oU M2 57 11 (c2 - 97)) 57 8 (p + 2 + 1) 57 11 = c2 - 97 := by rw [oU_i (by decide), oU_at]
              have e8' : oU (oU M2 57 11 (c2 - 97)) 57 8 (p + 2 + 1) 57 8 = p + 2 + 1 := oU_at
              have f3 : eqo wdM M0 (oU (oU M2 57 11 (c2 - 97)) 57 8 (p + 2 + 1)) := hR3.2.2.2.2.2.2
              rw [if_neg (show ¬ (b01 true, N2).fst = 0 from n10), if_pos rfl, if_neg (show ¬ ((1 : Int), oU (oU M2 57 11 (c2 - 97)) 57 8 (p + 2 + 1)).fst = 0 from n10), show ((1 : Int), oU (oU M2 57 11 (c2 - 97)) 57 8 (p + 2 + 1)).snd 57 11 = c2 - 97 from e11', lt_eq]
              by_cases q4 : c2 - 97 = c1 - 97
              · rw [if_pos (show (c2 - 97, N2).fst = (c1 - 97, N).fst from q4), show p_T_fault f 6 (b01 true, N2).snd = some (-1000 * 6 - (p + 2), N2) from e_T_fault hch2.2.1 (by decide) hp2, Option.bind_some, if_pos q4.symm, show ((1 : Int), oU (oU M2 57 11 (c2 - 97)) 57 8 (p + 2 + 1)).snd 57 8 = p + 2 + 1 from e8', w32_of (a := p + 2 + 1 - 1) (by omega) (by omega), e_wrongB (by decide) (by omega)]
                exact ft_no hR2 (by omega) (by omega) f3
              · rw [if_neg (show ¬ (c2 - 97, N2).fst = (c1 - 97, N).fst from q4), show p_T_step f (b01 true, N2).snd = some (0, N3) from d1, Option.bind_some, if_neg (show ¬ c1 - 97 = c2 - 97 from fun z => q4 z.symm), show ((1 : Int), oU (oU M2 57 11 (c2 - 97)) 57 8 (p + 2 + 1)).snd 57 8 = p + 2 + 1 from e8', lt_eq]
                generalize oU (oU M2 57 11 (c2 - 97)) 57 8 (p + 2 + 1) = M3 at *
                have hch3 := rdC_ch hR3.1
                have hh3 := e_M_here (f := f) hR3.2.1
                have wi : w32 (w32 ((c1 - 97, N).fst * 10) + (c2 - 97, N2).fst) = 10 * (c1 - 97) + (c2 - 97) := by
                  show w32 (w32 ((c1 - 97) * 10) + (c2 - 97)) = _
                  rw [w32_of (a := (c1 - 97) * 10) (by omega) (by omega), w32_of (by omega) (by omega)]; omega
                have hmany : ∀ m : Int, m = (if 48 ≤ chT b n (p + 2 + 1) ∧ chT b n (p + 2 + 1) ≤ 57 then 0 else 1) → okp (p_DR_readMany_B23 f (10 * (c1 - 97) + (c2 - 97)) (p + 2 + 1) m N3) (fun y => okp (p_M_readsLine_B74 f (c1 - 97) (c2 - 97) (p + 2 + 1) m M3) (fun y' => ftQ wdC wdM N0 M0 (lnP T b n N0 M0 (line + 1)) y y')) := fun m hm => many_ok hf (by omega) (by omega) ⟨ht1, ht2, fun z => q4 z.symm⟩ (by omega) hR3 hm
                rw [wi]
                unfold p_DR_readMany p_T_place
                rw [Option.bind_some, show ((0 : Int), N3).snd 1 3 = p + 2 + 1 from hch3.2.1, show p_T_nextIsDigit f (p + 2 + 1, ((0 : Int), N3).snd).snd = _ from e_T_digit hch3.1, Option.bind_some, show p_M_isDigit f ((1 : Int), M3).snd = _ from e_M_digit hh3, Option.bind_some]
                by_cases q5 : 48 ≤ chT b n (p + 2 + 1) ∧ chT b n (p + 2 + 1) ≤ 57
                · rw [if_pos q5, if_neg (show ¬ ((1 : Int), N3).fst = 0 from n10), if_neg (show ¬ ((1 : Int), M3).fst = 0 from n10)]
                  refine okp_bind' (okp_mono (hmany 0 (if_pos q5).symm) fun y hy => ?_)
                  exact hy
                · rw [if_neg q5, if_pos (show ((0 : Int), N3).fst = 0 from rfl), if_pos (show ((0 : Int), M3).fst = 0 from rfl)]
                  refine okp_bind' (okp_mono (hmany 1 (if_neg q5).symm) fun y hy => ?_)
                  exact hy
          · rw [if_neg q3, if_neg q3, if_pos (show ((-1 : Int), N2).fst < 0 from by show (-1 : Int) < 0; decide), show p_T_fault f 1 ((-1 : Int), N2).snd = some (-1000 * 1 - (p + 2), N2) from e_T_fault hch2.2.1 (by decide) hp2, Option.bind_some, if_pos (show ((0 : Int), oU M2 57 10 (-1000 - (p + 2))).fst = 0 from rfl)]
            exact ft_no hR2 (by omega) (by omega) v7
        · rw [if_neg (show ¬ (chT b n (p + 1), ((0 : Int), N1).snd).fst = 62 from q2), if_neg q2, show p_T_fault f 1 (chT b n (p + 1), ((0 : Int), N1).snd).snd = some (-1000 * 1 - (p + 1), N1) from e_T_fault hch1.2.1 (by decide) hch1.2.2.2.1, Option.bind_some, if_pos (show ((0 : Int), oU M1 57 10 (-1000 - (p + 1))).fst = 0 from rfl)]
          exact ft_no hR1 (by omega) (by omega) u7
  · rw [if_neg q1, if_neg q1, if_pos (show ((-1 : Int), N).fst < 0 from by show (-1 : Int) < 0; decide), show p_T_fault f 1 ((-1 : Int), N).snd = some (-1000 * 1 - p, N) from e_T_fault hch.2.1 (by decide) hp1000, Option.bind_some, if_pos (show ((0 : Int), oU M 57 10 (-1000 - p)).fst = 0 from rfl)]
    exact ft_no hR (by omega) (by omega) r7
/-! all lines -/
def dlQ (T : Nat) (b : Int → Int) (n : Int) (N0 M0 : oM) (q q' : Int × oM) : Prop := (q.1 ≠ 0 ∧ q'.1 = 0 ∧ q'.2 57 10 = q.1 ∧ eqo wdC N0 q.2 ∧ eqo wdM M0 q'.2) ∨ (q.1 = 0 ∧ q'.1 = 1 ∧ ∃ p line, dbR T b n N0 M0 p line q.2 q'.2)
theorem iter_succ {S R : Type} {step : S → Option (S ⊕ R)} {f : Nat} {s : S} : iter step (f + 1) s = (step s).bind fun y => match y with | .inl s' => iter step f s' | .inr r => some r := rfl
theorem dl_ft {F : Nat} {line : Int} {N : oM} {q : Int × oM} (hl : line ≤ 30) (e : p_DR_readLine F line N = some q) (h : q.1 ≠ 0) : p_DR_read_L10 F (line, N) = some (.inr q) := by
  unfold p_DR_read_L10
  simp only []
  rw [if_neg (by omega), e, Option.bind_some, if_neg h]
theorem dl_end {F : Nat} {line p n : Int} {N N1 : oM} (hl : line ≤ 30) (e : p_DR_readLine F line N = some (0, N1)) (h3 : N1 1 3 = p) (h2 : N1 1 2 = n) (hp : ¬ p < n) : p_DR_read_L10 F (line, N) = some (.inr (0, N1)) := by
  unfold p_DR_read_L10 p_T_ended
  simp only []
  rw [if_neg (by omega), e, Option.bind_some, if_pos (show ((0 : Int), N1).fst = 0 from rfl), show ((0 : Int), N1).snd 1 3 = p from h3, show ((0 : Int), N1).snd 1 2 = n from h2, if_neg hp, Option.bind_some, if_neg (show ¬ ((1 : Int), ((0 : Int), N1).snd).fst = 0 from n10)]
theorem dl_go {F : Nat} {line p n : Int} {N N1 N2 : oM} (hl : line < 30) (h0 : 0 ≤ line) (e : p_DR_readLine F line N = some (0, N1)) (h3 : N1 1 3 = p) (h2 : N1 1 2 = n) (hp : p < n) (h4 : N1 1 4 = 59) (es : p_T_step F N1 = some (0, N2)) : p_DR_read_L10 F (line, N) = some (.inl (line + 1, N2)) := by
  unfold p_DR_read_L10 p_T_ended p_T_next
  simp only []
  rw [if_neg (by omega), e, Option.bind_some, if_pos (show ((0 : Int), N1).fst = 0 from rfl), show ((0 : Int), N1).snd 1 3 = p from h3, show ((0 : Int), N1).snd 1 2 = n from h2, if_pos hp, Option.bind_some, if_pos (show ((0 : Int), ((0 : Int), N1).snd).fst = 0 from rfl), Option.bind_some, if_pos (show (((0 : Int), ((0 : Int), N1).snd).snd 1 4, ((0 : Int), ((0 : Int), N1).snd).snd).fst = 59 from h4), show p_T_step F (((0 : Int), ((0 : Int), N1).snd).snd 1 4, ((0 : Int), ((0 : Int), N1).snd).snd).snd = some (0, N2) from es, Option.bind_some, lt_eq, w32_of (by omega) (by omega)]
theorem dl_bad {F : Nat} {line p n c : Int} {N N1 : oM} (hl : line ≤ 30) (e : p_DR_readLine F line N = some (0, N1)) (h3 : N1 1 3 = p) (h2 : N1 1 2 = n) (hp : p < n) (h4 : N1 1 4 = c) (hc : c ≠ 59) (hp0 : 0 ≤ p ∧ p ≤ 1000) : p_DR_read_L10 F (line, N) = some (.inr (-1000 * 1 - p, N1)) := by
  unfold p_DR_read_L10 p_T_ended p_T_next
  simp only []
  rw [if_neg (by omega), e, Option.bind_some, if_pos (show ((0 : Int), N1).fst = 0 from rfl), show ((0 : Int), N1).snd 1 3 = p from h3, show ((0 : Int), N1).snd 1 2 = n from h2, if_pos hp, Option.bind_some, if_pos (show ((0 : Int), ((0 : Int), N1).snd).fst = 0 from rfl), Option.bind_some, if_neg (show ¬ (((0 : Int), ((0 : Int), N1).snd).snd 1 4, ((0 : Int), ((0 : Int), N1).snd).snd).fst = 59 from fun z => hc (h4.symm.trans z)), show p_T_fault F 1 (((0 : Int), ((0 : Int), N1).snd).snd 1 4, ((0 : Int), ((0 : Int), N1).snd).snd).snd = some (-1000 * 1 - p, N1) from e_T_fault h3 (by decide) hp0, Option.bind_some]
theorem ml_no {F : Nat} {M : oM} : p_M_debts_L62 F (0, M) = some (.inr (0, M)) := by
  unfold p_M_debts_L62
  simp only []
  rw [if_pos trivial]
theorem ml_end {F : Nat} {p n : Int} {M : oM} (h8 : M 57 8 = p) (h9 : M 57 9 = n) (hp : ¬ p < n) : p_M_debts_L62 F (1, M) = some (.inr (1, M)) := by
  unfold p_M_debts_L62
  simp only []
  rw [if_neg n10, h8, h9, if_neg hp]
theorem ml_bad {F : Nat} {p n : Int} {M M2 : oM} (h8 : M 57 8 = p) (h9 : M 57 9 = n) (hp : p < n) (e : p_M_takes F 59 M = some (0, M2)) : p_M_debts_L62 F (1, M) = some (.inl (0, M2)) := by
  unfold p_M_debts_L62 p_M_debts_B97_62 p_M_debts_B98_62
  simp only []
  rw [if_neg n10, h8, h9, if_pos hp, e, Option.bind_some, if_pos (show ((0 : Int), M2).fst = 0 from rfl)]
theorem ml_go {F : Nat} {p n : Int} {M M2 : oM} {z : Int × oM} (h8 : M 57 8 = p) (h9 : M 57 9 = n) (hp : p < n) (e : p_M_takes F 59 M = some (1, M2)) (ez : p_M_readsLine F M2 = some z) (hz : z.1 = 0 ∨ z.1 = 1) : p_M_debts_L62 F (1, M) = some (.inl z) := by
  unfold p_M_debts_L62 p_M_debts_B97_62 p_M_debts_B98_62
  simp only []
  rw [if_neg n10, h8, h9, if_pos hp, e, Option.bind_some, if_neg (show ¬ ((1 : Int), M2).fst = 0 from n10), show p_M_readsLine F ((1 : Int), M2).snd = some z from ez, Option.bind_some]
  rcases hz with w | w
  · rw [if_pos w, ← w]
  · rw [if_neg (by rw [w]; exact n10), ← w]
theorem lines_ok {F T : Nat} {b : Int → Int} {n : Int} {N0 M0 : oM} (hF : 2000 < F) (hT : N0 3 2 = T) (hTr : M0 57 5 = T) (hT' : T < 1024) : ∀ (m f f' : Nat) (line p : Int) (N M : oM), 0 ≤ line → line + (m : Int) = 30 → m < f → m + 1 < f' → dbR T b n N0 M0 p line N M →
    okp (iter (p_DR_read_L10 F) f (line, N)) (fun q => okp ((p_M_readsLine F M).bind fun q9 => iter (p_M_debts_L62 F) f' (q9.1, q9.2)) (fun q' => dlQ T b n N0 M0 q q')) := by
  intro m
  induction m with
  | zero =>
    intro f f' line p N M h0 h30 hf hf' hR
    obtain ⟨f, rfl⟩ : ∃ g, f = g + 1 := ⟨f - 1, by omega⟩
    obtain ⟨f', rfl⟩ : ∃ g, f' = g + 1 := ⟨f' - 1, by omega⟩
    obtain ⟨q, e1, h1⟩ := okp_ex (line_ok hF hT hTr hT' ⟨h0, by omega⟩ hR)
    obtain ⟨q', e2, h2⟩ := okp_ex h1
    rcases h2 with ⟨a1, a2, a3, a4, a5⟩ | ⟨a1, a2, a3, -⟩
    · rw [iter_inr (dl_ft (by omega) e1 a1), e2, Option.bind_some, a2, iter_inr ml_no]
      exact .inl ⟨a1, rfl, a3, a4, a5⟩
    · omega
  | succ m ih =>
    intro f f' line p N M h0 h30 hf hf' hR
    obtain ⟨f, rfl⟩ : ∃ g, f = g + 1 := ⟨f - 1, by omega⟩
    obtain ⟨f', rfl⟩ : ∃ g, f' = g + 1 := ⟨f' - 1, by omega⟩
    obtain ⟨q, e1, h1⟩ := okp_ex (line_ok hF hT hTr hT' ⟨h0, by omega⟩ hR)
    obtain ⟨q', e2, h2⟩ := okp_ex h1
    rw [e2, Option.bind_some]
    rcases h2 with ⟨a1, a2, a3, a4, a5⟩ | ⟨a1, a2, a3, p1, hR1⟩
    · rw [iter_inr (dl_ft (by omega) e1 a1), a2, iter_inr ml_no]
      exact .inl ⟨a1, rfl, a3, a4, a5⟩
    · obtain ⟨x, N1⟩ := q
      obtain ⟨x', M1⟩ := q'
      simp only at a1 a2 hR1
      subst a1 a2
      obtain ⟨u1, u2, u3, u4, u5, u6, u7⟩ := id hR1
      have hch := rdC_ch u1
      have ht := e_takes (f := F) (k := 59) u2
      by_cases hpn : p1 < n
      · by_cases q59 : chT b n p1 = 59
        · rw [if_pos q59] at ht
          obtain ⟨N2, b1, b2, b3⟩ := e_T_step1 (f := F) u1 hpn
          have hR2 := (dbR_step (v := 0) hR1 hpn b2 b3).1
          obtain ⟨q2, d1, d2⟩ := okp_ex (ih f f' (line + 1) (p1 + 1) N2 (oU M1 57 8 (p1 + 1)) (by omega) (by omega) (by omega) (by omega) hR2)
          obtain ⟨q2', d3, d4⟩ := okp_ex d2
          obtain ⟨y, y1, y2⟩ := okp_ex (line_ok hF hT hTr hT' (line := line + 1) ⟨by omega, by omega⟩ hR2)
          obtain ⟨z, z1, z2⟩ := okp_ex y2
          rw [z1, Option.bind_some] at d3
          have hz : z.1 = 0 ∨ z.1 = 1 := by
            rcases z2 with w | w
            · exact .inl w.2.1
            · exact .inr w.2.1
          rw [iter_inl (dl_go (by omega) h0 e1 hch.2.1 hch.2.2.1 hpn (hch.1.trans q59) b1), d1]
          show okp (iter (p_M_debts_L62 F) (f' + 1) (1, M1)) _
          rw [iter_inl (ml_go u2.2.2.2.1 u2.2.2.1 hpn ht z1 hz), d3]
          exact d4
        · rw [if_neg q59] at ht
          obtain ⟨g', rfl⟩ : ∃ g, f' = g + 1 := ⟨f' - 1, by omega⟩
          rw [iter_inr (dl_bad (by omega) e1 hch.2.1 hch.2.2.1 hpn hch.1 q59 hch.2.2.2.1)]
          show okp (iter (p_M_debts_L62 F) (g' + 1 + 1) (1, M1)) _
          rw [iter_inl (ml_bad u2.2.2.2.1 u2.2.2.1 hpn ht), iter_inr ml_no]
          exact .inl ⟨by show -1000 * 1 - p1 ≠ 0; have := hch.2.2.2.1; omega, rfl, by show oU M1 57 10 (-1000 - p1) 57 10 = -1000 * 1 - p1; rw [oU_at]; omega, u6, eqo_oU (.tail _ (.head _)) u7⟩
      · rw [iter_inr (dl_end (by omega) e1 hch.2.1 hch.2.2.1 hpn)]
        show okp (iter (p_M_debts_L62 F) (f' + 1) (1, M1)) _
        rw [iter_inr (ml_end u2.2.2.2.1 u2.2.2.1 hpn)]
        exact .inr ⟨rfl, rfl, p1, line + 1, hR1⟩
