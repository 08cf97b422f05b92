/-! THE LAW: a sum and a comparison by both -/
def sumQ (f : Nat) (b : Int → Int) (n : Int) (N0 M0 : oM) (p z e w op : Int) (σ : List Bool) (N M : oM) (q : Int × oM) : Prop := (q.1 < 0 ∧ (eqo lgC N0 q.2 ∧ 0 ≤ q.2 27 9) ∧ ∃ M'', p_M_readsSum f M = some (0, M'') ∧ M'' 57 10 = q.1 ∧ eqo lgM M0 M'') ∨
  (q.1 = 0 ∧ ∃ p' z' Mc, p < p' ∧ p_M_readsSum f M = some (1, Mc) ∧ nuR b n N0 M0 p' z' e w op q.2 Mc ∧ ext z z' σ (false :: σ) N M q.2 Mc ∧ wtE w M Mc)
theorem SF_run {f : Nat} {p w : Int} {M : oM} {R : Int × oM} (hf : 2000 < f) (hw : M 57 14 = w) (h12 : 0 ≤ M 57 12) (hp : 0 ≤ p) (h : SF f w (300 - p) M R) : p_M_readsSum f M = some R := by
  obtain ⟨q, e1, e2⟩ := h
  unfold p_M_readsSum p_M_readsFactor
  rw [hw, lt_eq, e1 f (by omega), Option.bind_some]
  rcases e2 with ⟨x1, x2⟩ | ⟨x1, x2⟩
  · rw [if_pos x1, x2]
  · rw [if_neg (by rw [x1]; exact n10)]
    exact x2 f (by omega)
theorem sum_ok {f : Nat} {b : Int → Int} {n p z e w op : Int} {N0 M0 N M : oM} {σ : List Bool} (hf : 2000 < f) (hR : nuR b n N0 M0 p z e w op N M) (hbt : botT M w) (hl : σ.length ≤ 44) : okp (p_LR_readNumber f 9 op N) (sumQ f b n N0 M0 p z e w op σ N M) := by
  obtain ⟨h1, h2, h3, h4, h5, h6, h7, h8⟩ := id hR
  have hpp := h2.2.2.2.2
  refine okp_mono (num_ok (base := w) hf h5.2.1 (6 - op).toNat p z e w op σ N M 9 (by omega) (by omega) hR (Int.le_refl w) (fun j j0 j1 => by omega) hbt (by omega)) fun q hq => ?_
  rcases hq with ⟨g1, g2, M'', g3, g4, g5⟩ | ⟨g1, p', z', w', M', Mc, g2, g3, g4, g5, g6, g7, g8, g9, g10, g11, g12, g13, g14⟩
  · exact .inl ⟨g1, g2, M'', SF_run hf h5.1 (by omega) hpp.1 g5, g3, g4⟩
  · have hno := ho_no (f := f) (base := w) hf g8 (by have := g3.2.2.1; omega) g10
    have hn240 := g3.2.2.1
    exact .inr ⟨g1, p', z', Mc, g2, SF_run hf h5.1 (by omega) hpp.1 (g14 (1, Mc) (Lm_inr (L14_end g7 g12 hno g6) (by omega))), g3, g4, g5⟩
theorem nu_adv {f : Nat} {b : Int → Int} {n p z e w op e' : Int} {N0 M0 N M : oM} (h : nuR b n N0 M0 p z e w op N M) (hp : p < n) (he : 0 ≤ e' ∧ e' ≤ e + 1) : ∃ N', p_T_step f N = some (0, N') ∧ nuR b n N0 M0 (p + 1) z e' w op N' (oU M 57 8 (p + 1)) ∧ N' 28 = N 28 ∧ N' 29 = N 29 := by
  obtain ⟨h1, h2, h3, h4, h5, h6, h7, h8⟩ := h
  obtain ⟨N', a1, a2, a3⟩ := e_T_step1 (f := f) h1 hp
  refine ⟨N', a1, ⟨a2, rdM_next h2 (by omega), ⟨by omega, h3.2⟩, ⟨(eqo_f a3 27 9 rfl).trans h4.1, ?_, by omega, by omega, by omega⟩, ⟨?_, by omega, by omega⟩, ⟨?_, h6.2⟩, ?_, eqo_oU (.head _) h8⟩, eqo_a a3 28 rfl, eqo_a a3 29 rfl⟩
  · rw [oU_i (by decide)]; exact h4.2.1
  · rw [oU_i (by decide)]; exact h5.1
  · rw [oU_i (by decide)]; exact h6.1
  · exact eqo_tr (subw_cons (.head _) (subw_cons (.tail _ (.head _)) subw_nil)) h7 a3
theorem e_putany {f : Nat} {x y : Int} {N0 N : oM} (h : eqo lgC N0 N ∧ 0 ≤ N 27 9) : ∃ r N', p_L_put f x y N = some (r, N') ∧ (eqo lgC N0 N' ∧ 0 ≤ N' 27 9) := by
  by_cases q : N 27 9 < 240
  · refine ⟨_, _, e_put rfl ⟨h.2, q⟩, eqo_oU (.tail _ (.tail _ (.head _))) (eqo_oUa (.tail _ (.tail _ (.tail _ (.tail _ (.head _))))) (eqo_oUa (.tail _ (.tail _ (.tail _ (.head _)))) h.1)), ?_⟩
    show 0 ≤ oU _ 27 9 (N 27 9 + 1) 27 9
    rw [oU_at]
    omega
  · refine ⟨-1, N, ?_, h⟩
    unfold p_L_put
    rw [if_neg q]
def cmpQ (f : Nat) (b : Int → Int) (n : Int) (N0 M0 : oM) (p z e w op : Int) (N M : oM) (q : Int × oM) : Prop := (q.1 < 0 ∧ (eqo lgC N0 q.2 ∧ 0 ≤ q.2 27 9) ∧ ∃ M'', p_M_readsCompared f M = some (0, M'') ∧ M'' 57 10 = q.1 ∧ eqo lgM M0 M'') ∨
  (q.1 = 0 ∧ ∃ p' z' M3, p < p' ∧ nuR b n N0 M0 p' z' e w op q.2 M3 ∧ ext z z' [] [true] N M q.2 M3 ∧ wtE w M M3 ∧ ∀ M4, p_M_endsPiece f M3 = some (0, M4) → p_M_readsCompared f M = some (1, M4))
theorem e_cmpM {f : Nat} {b : Int → Int} {n p : Int} {M M1 : oM} (hs : p_M_readsSum f M = some (1, M1)) (h : rdM b n M1 p) : p_M_readsCompared f M = p_M_readsCompared_B52 f (if chT b n p = 60 then 7 else if chT b n p = 62 then 8 else if chT b n p = 61 then 9 else -1) M1 := by
  have hh := e_M_here (f := f) h
  unfold p_M_readsCompared
  rw [hs, Option.bind_some, if_neg (show ¬ ((1 : Int), M1).fst = 0 from n10), show p_M_here f ((1 : Int), M1).snd = _ from hh, Option.bind_some]
  by_cases q1 : chT b n p = 60
  · rw [if_pos (show (chT b n p, M1).fst = 60 from q1), if_pos q1]
  · rw [if_neg (show ¬ (chT b n p, M1).fst = 60 from q1), if_neg q1, show p_M_here f (chT b n p, M1).snd = _ from hh, Option.bind_some]
    by_cases q2 : chT b n p = 62
    · rw [if_pos (show (chT b n p, M1).fst = 62 from q2), if_pos q2]
    · rw [if_neg (show ¬ (chT b n p, M1).fst = 62 from q2), if_neg q2, show p_M_here f (chT b n p, M1).snd = _ from hh, Option.bind_some]
      by_cases q3 : chT b n p = 61
      · rw [if_pos (show (chT b n p, M1).fst = 61 from q3), if_pos q3]
      · rw [if_neg (show ¬ (chT b n p, M1).fst = 61 from q3), if_neg q3]
theorem cmp_sign {f : Nat} {b : Int → Int} {n p z e w op c : Int} {N0 M0 N M : oM} {rec : Int → oM → Option (Int × oM)} (hf : 2000 < f) (hR : nuR b n N0 M0 p z e w op N M) (hbt : botT M w) (hcc : chT b n p = c) (hc : c = 60 ∨ c = 62 ∨ c = 61) :
    okp (p_LR_readPlainTest_B89 f rec op c N) (fun q => (q.1 < 0 ∧ (eqo lgC N0 q.2 ∧ 0 ≤ q.2 27 9) ∧ ∃ M'', p_M_readsCompared_B52 f (opn c) M = some (0, M'') ∧ M'' 57 10 = q.1 ∧ eqo lgM M0 M'') ∨
  (q.1 = 0 ∧ ∃ p' z' M3, p < p' ∧ nuR b n N0 M0 p' z' e w op q.2 M3 ∧ ext z z' [false] [true] N M q.2 M3 ∧ wtE w M M3 ∧ ∀ M4, p_M_endsPiece f M3 = some (0, M4) → p_M_readsCompared_B52 f (opn c) M = some (1, M4))) := by
  obtain ⟨h1, h2, h3, h4, h5, h6, h7, h8⟩ := id hR
  have hpn : p < n := chT_in (b := b) (p := p) (by omega)
  have ho : 7 ≤ opn c ∧ opn c ≤ 9 := by rcases hc with x | x | x <;> rw [x] <;> decide
  obtain ⟨N1, a1, a2, a3, a4⟩ := nu_adv (f := f) (e' := e + 1) hR hpn (by omega)
  have hB : p_M_readsCompared_B52 f (opn c) M = (p_M_readsSum f (oU M 57 8 (p + 1))).bind fun q2 => if q2.1 = 0 then (some (0, q2.2)) else ((p_M_notes f (opn c) 0 q2.2).bind fun q3 => (p_M_endsPiece f q3.2).bind fun q4 => some (1, q4.2)) := by
    unfold p_M_readsCompared_B52
    rw [if_neg (by omega), h2.2.2.2.1, w32_of (a := p + 1) (by omega) (by omega), lt_eq]
  unfold p_LR_readPlainTest_B89
  rw [a1, Option.bind_some]
  have hbt1 : botT (oU M 57 8 (p + 1)) w := botT_wt hbt (wtE_refl (oU_row (by decide)))
  refine okp_bind' (okp_mono (sum_ok (σ := [false]) hf a2 hbt1 (by decide)) fun q hq => ?_)
  rcases hq with ⟨g1, g2, M'', g3, g4, g5⟩ | ⟨g1, p', z', Mc, g2, g3, g4, g5, g6⟩
  · obtain ⟨r, N', r1, r2⟩ := e_putany (f := f) (x := c) (y := 0) g2
    rw [r1, Option.bind_some]
    refine .inl ⟨g1, r2, M'', ?_, g4, g5⟩
    rw [hB, g3, Option.bind_some, if_pos (show ((0 : Int), M'').fst = 0 from rfl)]
  · obtain ⟨k1, k2, k3, k4, k5, k6, k7, k8⟩ := id g4
    rw [e_put (x := c) (y := 0) k4.1 (by omega), Option.bind_some]
    refine .inr ⟨g1, p', z' + 1, putM Mc z' (opn c) 0, by omega, nu_put g4 (by omega), ?_, fun j hj => ?_, fun M4 h4 => ?_⟩
    · exact ext_trans (ext_left g5 a3 a4 (oU_row (by decide))) (ext_put rfl (by decide) fun s d hs hd => Sg_cmp (by decide) hs hc)
    · rw [putM_65, g6 j hj, oU_row (by decide)]
    · rw [hB, g3, Option.bind_some, if_neg (show ¬ ((1 : Int), Mc).fst = 0 from n10), show p_M_notes f (opn c) 0 ((1 : Int), Mc).snd = some (0, putM Mc z' (opn c) 0) from e_notes k4.2.1 (by omega) (by omega) (by decide), Option.bind_some, show p_M_endsPiece f ((0 : Int), putM Mc z' (opn c) 0).snd = _ from h4, Option.bind_some]
theorem cmp_ok {f : Nat} {b : Int → Int} {n p z e w op : Int} {N0 M0 N M : oM} {rec : Int → oM → Option (Int × oM)} (hf : 2000 < f) (hR : nuR b n N0 M0 p z e w op N M) (hbt : botT M w) : okp ((p_LR_readNumber f 9 op N).bind fun q5 =>
  if q5.1 = 0 then ((p_T_next f q5.2).bind fun q6 =>
  if q6.1 = 60 then (p_LR_readPlainTest_B89 f rec op q6.1 q6.2)
  else (if q6.1 = 62 then (p_LR_readPlainTest_B89 f rec op q6.1 q6.2)
  else (if q6.1 = 61 then (p_LR_readPlainTest_B89 f rec op q6.1 q6.2)
  else ((p_T_fault f 1 q6.2).bind fun q7 =>
  some (q7.1, q7.2)))))
  else (some (q5.1, q5.2))) (cmpQ f b n N0 M0 p z e w op N M) := by
  refine okp_bind' (okp_mono (sum_ok (σ := []) hf hR hbt (by decide)) fun q hq => ?_)
  rcases hq with ⟨g1, g2, M'', g3, g4, g5⟩ | ⟨g1, p1, z1, M1, g2, g3, g4, g5, g6⟩
  · rw [if_neg (Int.ne_of_lt g1)]
    refine .inl ⟨g1, g2, M'', ?_, g4, g5⟩
    unfold p_M_readsCompared
    rw [g3, Option.bind_some, if_pos (show ((0 : Int), M'').fst = 0 from rfl)]
  · obtain ⟨k1, k2, k3, k4, k5, k6, k7, k8⟩ := id g4
    have hch := rdC_ch k1
    have hE := e_cmpM (f := f) g3 k2
    rw [if_pos g1, e_next k1, Option.bind_some]
    have hgo : ∀ c : Int, chT b n p1 = c → (c = 60 ∨ c = 62 ∨ c = 61) → p_M_readsCompared f M = p_M_readsCompared_B52 f (opn c) M1 → okp (p_LR_readPlainTest_B89 f rec op c q.2) (cmpQ f b n N0 M0 p z e w op N M) := by
      intro c hcc hc hEc
      refine okp_mono (cmp_sign hf g4 (botT_wt hbt g6) hcc hc) fun y hy => ?_
      rcases hy with ⟨y1, y2, M'', y3, y4, y5⟩ | ⟨y1, p', z', M3, y2, y3, y4, y5, y6⟩
      · exact .inl ⟨y1, y2, M'', hEc.trans y3, y4, y5⟩
      · exact .inr ⟨y1, p', z', M3, by omega, y3, ext_trans g5 y4, wtE_trans g6 y5 (Int.le_refl w), fun M4 h4 => hEc.trans (y6 M4 h4)⟩
    by_cases q1 : chT b n p1 = 60
    · rw [if_pos q1] at hE
      rw [if_pos (show (chT b n p1, q.2).fst = 60 from q1)]
      exact hgo _ rfl (.inl q1) (by rw [hE, q1]; rfl)
    · rw [if_neg q1] at hE
      rw [if_neg (show ¬ (chT b n p1, q.2).fst = 60 from q1)]
      by_cases q2 : chT b n p1 = 62
      · rw [if_pos q2] at hE
        rw [if_pos (show (chT b n p1, q.2).fst = 62 from q2)]
        exact hgo _ rfl (.inr (.inl q2)) (by rw [hE, q2]; rfl)
      · rw [if_neg q2] at hE
        rw [if_neg (show ¬ (chT b n p1, q.2).fst = 62 from q2)]
        by_cases q3 : chT b n p1 = 61
        · rw [if_pos q3] at hE
          rw [if_pos (show (chT b n p1, q.2).fst = 61 from q3)]
          exact hgo _ rfl (.inr (.inr q3)) (by rw [hE, q3]; rfl)
        · rw [if_neg q3] at hE
          rw [if_neg (show ¬ (chT b n p1, q.2).fst = 61 from q3), show p_T_fault f 1 (chT b n p1, q.2).snd = _ from e_T_fault hch.2.1 (by decide) hch.2.2.2.1, Option.bind_some]
          refine .inl ⟨by show -1000 * 1 - p1 < 0; omega, nu_fl g4, oU M1 57 10 (-1000 * 1 - p1), ?_, oU_at, wrongM (N0 := N0) k8⟩
          rw [hE]
          unfold p_M_readsCompared_B52
          rw [if_pos rfl, k2.2.2.2.1, e_wrongB (by decide) (by omega)]
