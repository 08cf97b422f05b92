/-! THE LAW: a factor by both -/
def nhQ (f : Nat) (b : Int → Int) (n : Int) (N0 M0 : oM) (base e op : Int) (σ : List Bool) (rec : Int → oM → Option (Int × oM)) : Prop := ∀ (p1 z1 w1 : Int) (N1 M1 : oM), nuR b n N0 M0 p1 z1 e w1 (op + 1) N1 M1 → base ≤ w1 → bsOk M1 base w1 → botT M1 w1 → okp (rec (op + 1) N1) (numQ f b n N0 M0 base p1 z1 e w1 (op + 1) σ N1 M1)
theorem e_next {f : Nat} {b : Int → Int} {n p : Int} {N : oM} (h : rdC b n N p) : p_T_next f N = some (chT b n p, N) := by
  unfold p_T_next
  rw [(rdC_ch h).1]
theorem ext_left {z z' : Int} {σ σ' : List Bool} {N M N1 M1 N' M' : oM} (h : ext z z' σ σ' N1 M1 N' M') (h1 : N1 28 = N 28) (h2 : N1 29 = N 29) (h3 : M1 64 = M 64) : ext z z' σ σ' N M N' M' := by
  unfold ext oldE at h ⊢
  rw [h1, h2, h3] at h
  exact h
theorem putN_28 {N : oM} {z x y : Int} : (putN N z x y) 28 = (oU N 28 z x) 28 := by unfold putN; rw [oU_row (by decide), oU_row (by decide)]
/-- a step put, then the text's next -/
theorem nu_putstep {f : Nat} {b : Int → Int} {n p z e w op x y c : Int} {N0 M0 N M : oM} (h : nuR b n N0 M0 p z e w op N M) (hp : p < n) : ∃ N', p_T_step f (putN N z x y) = some (0, N') ∧ nuR b n N0 M0 (p + 1) (z + 1) e w op N' (oU (putM M z c y) 57 8 (p + 1)) ∧ N' 28 = (putN N z x y) 28 ∧ N' 29 = (putN N z x y) 29 := by
  obtain ⟨h1, h2, h3, h4, h5, h6, h7, h8⟩ := h
  obtain ⟨N', a1, a2, a3⟩ := e_T_step1 (f := f) (rdC_put (z := z) (x := x) (y := y) h1) hp
  refine ⟨N', a1, ⟨a2, rdM_next (rdM_put h2) (by omega), ⟨by omega, h3.2⟩, ⟨(eqo_f a3 27 9 rfl).trans oU_at, ?_, by omega, by omega, by omega⟩, ⟨?_, by omega, by omega⟩, ⟨?_, h6.2⟩, ?_, ?_⟩, eqo_a a3 28 rfl, eqo_a a3 29 rfl⟩
  · rw [oU_i (by decide)]; exact oU_at
  · unfold putM; rw [oU_i (by decide), oU_i (by decide), oU_o (by decide)]; exact h5.1
  · unfold putM; rw [oU_i (by decide), oU_i (by decide), oU_o (by decide)]; exact h6.1
  · exact eqo_tr (subw_cons (.head _) (subw_cons (.tail _ (.head _)) subw_nil)) (eqo_oU (.tail _ (.tail _ (.head _))) (eqo_oUa (.tail _ (.tail _ (.tail _ (.tail _ (.head _))))) (eqo_oUa (.tail _ (.tail _ (.tail _ (.head _)))) h7))) a3
  · exact eqo_oU (.head _) (eqo_oU (.tail _ (.tail _ (.tail _ (.tail _ (.head _))))) (eqo_oUa (.tail _ (.tail _ (.tail _ (.tail _ (.tail _ (.tail _ (.head _))))))) h8))
theorem nu_stepg {f : Nat} {b : Int → Int} {n p z e w op : Int} {N0 M0 N M : oM} (h : nuR b n N0 M0 p z e w op N M) (hp : p < n) : ∃ N', p_T_step f N = some (0, N') ∧ (∀ (M' : oM) (w' op' : Int), rdM b n M' (p + 1) → M' 57 13 = z → M' 57 14 = w' → (0 ≤ w' ∧ w' ≤ p + 1) → M' 57 12 = op' → (0 ≤ op' ∧ op' ≤ 6) → eqo lgM M0 M' → nuR b n N0 M0 (p + 1) z e w' op' N' M') ∧ N' 28 = N 28 ∧ N' 29 = N 29 := by
  obtain ⟨h1, h2, h3, h4, h5, h6, h7, h8⟩ := h
  obtain ⟨N', a1, a2, a3⟩ := e_T_step1 (f := f) h1 hp
  refine ⟨N', a1, fun M' w' op' k1 k2 k3 k3' k4 k4' k5 => ⟨a2, k1, ⟨by omega, h3.2⟩, ⟨(eqo_f a3 27 9 rfl).trans h4.1, k2, by omega, by omega, by omega⟩, ⟨k3, k3'⟩, ⟨k4, k4'⟩, eqo_tr (subw_cons (.head _) (subw_cons (.tail _ (.head _)) subw_nil)) h7 a3, k5⟩, eqo_a a3 28 rfl, eqo_a a3 29 rfl⟩
theorem wrongM {N0 M0 : oM} {M : oM} {v : Int} (h : eqo lgM M0 M) : eqo lgM M0 (oU M 57 10 v) := eqo_oU (.tail _ (.head _)) h
theorem fac_dig {f : Nat} {b : Int → Int} {n p z e w op base : Int} {N0 M0 N M : oM} {σ : List Bool} (hf : 2000 < f) (hR : nuR b n N0 M0 p z e w op N M) (hl : σ.length ≤ 58) (hd : 48 ≤ chT b n p ∧ chT b n p ≤ 57) : okp (p_LR_readDigits f N) (facQ f b n N0 M0 base p z e w op σ N M) := by
  refine okp_mono (digits_ok hf hR) fun q hq => ?_
  obtain ⟨q', e1, hD⟩ := okp_ex hq
  obtain ⟨h1, h2, h3, h4, h5, h6, h7, h8⟩ := id hR
  have hL := L0_dig (f := f) h2 hd e1
  rcases hD with ⟨d1, d2, d3, d4, d5⟩ | ⟨d1, d2, p', v, N', d3, d4, d5, d6, d7, d8, d9⟩
  · rw [if_pos d2] at hL
    exact .inl ⟨d1, d4, q'.2, d3, d5, SF_no hL (by omega)⟩
  · have hpp : p < p' := by
      by_cases z : p = p'
      · subst z; omega
      · omega
    have hn : p_M_notes f 0 (q'.2 57 11) q'.2 = some (0, putM q'.2 z 0 v) := by
      rw [d6]
      exact e_notes d5.2.2.2.1.2.1 (by omega) (by decide) d4
    rw [if_neg (by rw [d2]; exact n10), hn, Option.bind_some] at hL
    have hnu := nu_put (e' := e) (x := 48) (y := v) (c := 0) d5 ⟨by omega, by omega⟩
    refine .inr ⟨d1, p', z + 1, putM q'.2 z 0 v, hpp, by rw [d7]; exact hnu, ?_, fun j _ => by rw [putM_65, d9.2.2.2], fun R hS => SF_go hL (by omega) (Lm_mono hS (by omega))⟩
    rw [d7]
    exact ext_left (ext_put (c := 0) rfl d4 fun s d hs hd => Sg_num (by omega) hs) d9.1 d9.2.1 d9.2.2.1
theorem fac_let {f : Nat} {b : Int → Int} {n p z e w op base r : Int} {N0 M0 N M : oM} {σ : List Bool} {rec : Int → oM → Option (Int × oM)} (hf : 2000 < f) (hR : nuR b n N0 M0 p z e w op N M) (hl : σ.length ≤ 58) (hd : ¬ (48 ≤ chT b n p ∧ chT b n p ≤ 57)) (hb : chT b n p ≠ 91) (hr : ltP (chT b n p) r) : okp (p_LR_readFactor_B111 f rec r N) (facQ f b n N0 M0 base p z e w op σ N M) := by
  obtain ⟨h1, h2, h3, h4, h5, h6, h7, h8⟩ := id hR
  have hch := rdC_ch h1
  unfold p_LR_readFactor_B111
  by_cases q : r < 0
  · have hr1 : r = -1 := by rcases hr with ⟨x, -⟩ | ⟨x, -⟩ <;> omega
    rw [hr1] at hr
    rw [if_pos q, e_T_fault hch.2.1 (by decide) hch.2.2.2.1, Option.bind_some]
    refine .inl ⟨by show -1000 * 1 - p < 0; omega, nu_fl hR, oU M 57 10 (-1000 * 1 - p), oU_at, wrongM (N0 := N0) h8, SF_no (L0_none h2 hb hd hr) (by omega)⟩
  · have hr2 : (0 ≤ r ∧ r < 8) ∧ tx8 r = chT b n p := by
      rcases hr with ⟨x, -⟩ | x
      · omega
      · exact x
    have hpn : p < n := chT_in (b := b) (p := p) (by have := tx8_bd r; omega)
    obtain ⟨N2, a1, a2, a3, a4⟩ := nu_putstep (f := f) (x := 97) (y := r) (c := 1) hR hpn
    rw [if_neg q, e_put h4.1 (by omega), Option.bind_some, show p_T_step f (z, putN N z 97 r).snd = _ from a1, Option.bind_some]
    refine .inr ⟨rfl, p + 1, z + 1, _, by omega, a2, ?_, fun j _ => by rw [oU_row (by decide), putM_65], fun R hS => SF_go (L0_let h2 hb hd hr hr2.1 h4.2.1 (by omega)) (by omega) (Lm_mono hS (by omega))⟩
    exact ext_right (ext_put (c := 1) rfl (by omega) fun s d hs hd => Sg_let (by omega) hs (by omega)) a3 a4 (oU_row (by decide))
theorem fac_open {f : Nat} {b : Int → Int} {n p z e w op base : Int} {N0 M0 N M : oM} {σ : List Bool} {rec : Int → oM → Option (Int × oM)} (hf : 2000 < f) (hR : nuR b n N0 M0 p z e w op N M) (hbs : 0 ≤ base ∧ base ≤ w) (hbo : bsOk M base w) (h91 : chT b n p = 91) (hop : op < 6) (hrec : nhQ f b n N0 M0 base e op σ rec) : okp ((p_T_step f N).bind fun q8 => (rec (w32 (op + 1)) q8.2).bind fun q9 =>
  if q9.1 = 0 then ((p_T_next f q9.2).bind fun q10 =>
  if q10.1 = 93 then ((p_T_step f q10.2).bind fun q11 => some ((0 : Int), q11.2))
  else ((p_T_fault f 1 q10.2).bind fun q12 => some (q12.1, q12.2)))
  else (some (q9.1, q9.2))) (facQ f b n N0 M0 base p z e w op σ N M) := by
  obtain ⟨h1, h2, h3, h4, h5, h6, h7, h8⟩ := id hR
  have hpn : p < n := chT_in (b := b) (p := p) (by omega)
  obtain ⟨N1, a1, a2, a3, a4⟩ := nu_stepg (f := f) hR hpn
  have hop1 : w32 (op + 1) = op + 1 := w32_of (by omega) (by omega)
  have ho := e_opens (f := f) (c := 14) h2.2.2.2.1 h6.1 h5.1 h2.2.2.2.2 ⟨h6.2.1, hop⟩ (by omega) (by decide)
  obtain ⟨M2, hM2⟩ : ∃ M2, M2 = oU (oU (oU (oU M 57 12 (op + 1)) 65 w (1048576 * 14)) 57 14 (w + 1)) 57 8 (p + 1) := ⟨_, rfl⟩
  rw [← hM2] at ho
  have m65w : M2 65 w = 1048576 * 14 := by rw [hM2, oU_o (by decide), oU_o (by decide), oU_at]
  have m65o : ∀ j : Int, j ≠ w → M2 65 j = M 65 j := fun j hj => by rw [hM2, oU_o (by decide), oU_o (by decide), oU_i hj, oU_o (by decide)]
  have m12 : M2 57 12 = op + 1 := by rw [hM2, oU_i (by decide), oU_i (by decide), oU_o (by decide), oU_at]
  have m64 : M2 64 = M 64 := by rw [hM2, oU_row (by decide), oU_row (by decide), oU_row (by decide), oU_row (by decide)]
  have hnu : nuR b n N0 M0 (p + 1) z e (w + 1) (op + 1) N1 M2 := by
    refine a2 _ _ _ ?_ ?_ ?_ (by omega) m12 (by omega) ?_
    · rw [hM2]; exact rdM_next (rdM_57 (rdM_o (rdM_57 h2 (by decide) (by decide)) (by decide) (by decide)) (by decide) (by decide)) (by omega)
    · rw [hM2, oU_i (by decide), oU_i (by decide), oU_o (by decide), oU_i (by decide)]; exact h4.2.1
    · rw [hM2, oU_i (by decide), oU_at]
    · rw [hM2]; exact eqo_oU (.head _) (eqo_oU (.tail _ (.tail _ (.tail _ (.tail _ (.tail _ (.head _)))))) (eqo_oUa (.tail _ (.tail _ (.tail _ (.tail _ (.tail _ (.tail _ (.tail _ (.head _)))))))) (eqo_oU (.tail _ (.tail _ (.tail _ (.head _)))) h8)))
  have hopen := L0_open h2 h91 ho
  have go : ∀ {R : Int × oM}, SF f base (300 - (p + 1)) M2 R → SF f base (300 - p) M R := fun h => SF_open hopen (m12.trans (by rw [h6.1])) (by omega) (by omega) h
  have hbo2 : bsOk M2 base (w + 1) := fun j j0 j1 => by
    by_cases z : j = w
    · rw [z]; exact ⟨14, by decide, m65w⟩
    · rw [m65o j z]; exact hbo j j0 (by omega)
  have hbt : botT M2 (w + 1) := ⟨14, topIs_at (by omega) (by decide) (by rw [show w + 1 - 1 = w from by omega]; exact m65w), by decide⟩
  rw [a1, Option.bind_some, hop1]
  refine okp_bind' (okp_mono (hrec (p + 1) z (w + 1) N1 M2 hnu (by omega) hbo2 hbt) fun q hq => ?_)
  rcases hq with ⟨g1, g2, M'', g3, g4, g5⟩ | ⟨g1, p', z', w', M', Mc, g2, g3, g4, g5, g6, g7, g8, g9, g10, g11, g12, g13, g14⟩
  · rw [if_neg (Int.ne_of_lt g1)]
    exact .inl ⟨g1, g2, M'', g3, g4, go g5⟩
  · rw [if_pos g1, e_next g3.1, Option.bind_some]
    obtain ⟨k1, k2, k3, k4, k5, k6, k7, k8⟩ := id g3
    have hch := rdC_ch k1
    have hyes : p_M_hasOpenSum f base M' = some (1, M') := by
      refine ho_yes (j0 := w) hf g8 ⟨hbs.1, hbs.2, by omega, by omega⟩ (fun j j0 j1 => ?_) ((g11 w (by omega)).trans m65w)
      by_cases q1 : j < w + 1
      · rw [g11 j q1]; exact hbo2 j j0 q1
      · obtain ⟨c, c1, -, c2⟩ := g10 j (by omega) j1
        exact ⟨c, c1, c2⟩
    by_cases q93 : chT b n p' = 93
    · have hpn' : p' < n := chT_in (b := b) (p := p') (by omega)
      obtain ⟨N3, b1, b2, b3, b4⟩ := nu_stepg (f := f) g3 hpn'
      rw [if_pos (show (chT b n p', q.2).fst = 93 from q93), show p_T_step f (chT b n p', q.2).snd = _ from b1, Option.bind_some]
      have hc := L14_close g7 q93 hyes g6 k5.1 k6.1 k2.2.2.2.1 (by omega)
      obtain ⟨M3, hM3⟩ : ∃ M3, M3 = oU (oU (oU Mc 57 14 w) 57 12 op) 57 8 (p' + 1) := ⟨_, rfl⟩
      rw [← hM3] at hc
      refine .inr ⟨rfl, p' + 1, z', M3, by omega, b2 M3 w op ?_ ?_ ?_ (by omega) ?_ (by omega) ?_, ?_, fun j hj => ?_, fun R hS => ?_⟩
      · rw [hM3]; exact rdM_next (rdM_57 (rdM_57 k2 (by decide) (by decide)) (by decide) (by decide)) (by omega)
      · rw [hM3, oU_i (by decide), oU_i (by decide), oU_i (by decide)]; exact k4.2.1
      · rw [hM3, oU_i (by decide), oU_i (by decide), oU_at]
      · rw [hM3, oU_i (by decide), oU_at]
      · rw [hM3]; exact eqo_oU (.head _) (eqo_oU (.tail _ (.tail _ (.tail _ (.head _)))) (eqo_oU (.tail _ (.tail _ (.tail _ (.tail _ (.tail _ (.head _)))))) k8))
      · exact ext_right (ext_left g4 a3 a4 m64) b3 b4 (by rw [hM3, oU_row (by decide), oU_row (by decide), oU_row (by decide)])
      · rw [hM3, oU_o (by decide), oU_o (by decide), oU_o (by decide), g5 j (by omega), m65o j (by omega)]
      · refine go (g14 R ?_)
        have := Lm_inl hc hS (by omega)
        rw [show 300 - (p' + 1) + 1 = 300 - p' from by omega] at this
        exact this
    · rw [if_neg (show ¬ (chT b n p', q.2).fst = 93 from q93), show p_T_fault f 1 (chT b n p', q.2).snd = _ from e_T_fault hch.2.1 (by decide) hch.2.2.2.1, Option.bind_some]
      refine .inl ⟨by show -1000 * 1 - p' < 0; omega, nu_fl g3, oU M' 57 10 (-1000 * 1 - p'), oU_at, wrongM (N0 := N0) g13, go (g14 _ ?_)⟩
      exact Lm_inr (L14_bad g7 g12 q93 hyes) (by omega)
theorem fac_ok {f : Nat} {b : Int → Int} {n p z e w op base : Int} {N0 M0 N M : oM} {σ : List Bool} {rec : Int → oM → Option (Int × oM)} (hf : 2000 < f) (hR : nuR b n N0 M0 p z e w op N M) (hbs : 0 ≤ base ∧ base ≤ w) (hbo : bsOk M base w) (hl : σ.length + 2 * (6 - op) ≤ 58) (hrec : op < 6 → nhQ f b n N0 M0 base e op σ rec) : okp (p_LR_readFactor_F f rec op N) (facQ f b n N0 M0 base p z e w op σ N M) := by
  obtain ⟨h1, h2, h3, h4, h5, h6, h7, h8⟩ := id hR
  have hch := rdC_ch h1
  unfold p_LR_readFactor_F
  rw [e_next h1, Option.bind_some]
  by_cases q1 : chT b n p = 91
  · rw [if_pos (show (chT b n p, N).fst = 91 from q1)]
    by_cases q2 : op < 6
    · rw [if_pos q2]
      exact fac_open hf hR hbs hbo q1 q2 (hrec q2)
    · rw [if_neg q2, show p_T_fault f 5 (chT b n p, N).snd = _ from e_T_fault hch.2.1 (by decide) hch.2.2.2.1, Option.bind_some]
      exact .inl ⟨by show -1000 * 5 - p < 0; omega, nu_fl hR, oU M 57 10 (-1000 * 5 - p), oU_at, wrongM (N0 := N0) h8, SF_no (L0_deep h2 q1 (by omega)) (by omega)⟩
  · rw [if_neg (show ¬ (chT b n p, N).fst = 91 from q1), show p_T_nextIsDigit f (chT b n p, N).snd = _ from e_T_digit hch.1]
    by_cases q2 : 48 ≤ chT b n p ∧ chT b n p ≤ 57
    · rw [if_pos q2, Option.bind_some, if_neg (show ¬ ((1 : Int), N).fst = 0 from n10)]
      refine okp_bind' (okp_mono (fac_dig (base := base) (σ := σ) hf hR (by omega) q2) fun q hq => ?_)
      exact hq
    · rw [if_neg q2, Option.bind_some, if_pos (show ((0 : Int), N).fst = 0 from rfl)]
      by_cases q3 : chT b n p = -1
      · rw [if_pos (show (chT b n p, N).fst = -1 from q3)]
        exact fac_let hf hR (by omega) q2 q1 (.inl ⟨rfl, fun j _ _ => by have := tx8_bd j; omega⟩)
      · have hbd := chT_bd h1
        obtain ⟨r, e1, e2⟩ := e_indexOf (f := f) (c := chT b n p) (N := N) hf (by omega)
        rw [if_neg (show ¬ (chT b n p, N).fst = -1 from q3), show p_JS_indexOf f (i2c (chT b n p, N).fst) ((0 : Int), N).snd = _ from e1, Option.bind_some]
        exact fac_let hf hR (by omega) q2 q1 e2
