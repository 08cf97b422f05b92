/-! THE LAW: the reference's phases of a condition; what is denied -/
def TT (f : Nat) (K : Int) (M : oM) (R : Int × oM) : Prop := Lm (p_M_readsCondition_L40 f) K M R
def TB (f : Nat) (K : Int) (M : oM) (R : Int × oM) : Prop := ∃ x, Lm (p_M_readsCondition_L92 f) K M x ∧ (p_M_readsCondition_X92 f x = some (.inr R) ∨ ∃ M', p_M_readsCondition_X92 f x = some (.inl M') ∧ TT f K M' R)
def cftQ (f : Nat) (N0 M0 : oM) (p : Int) (M : oM) (q : Int × oM) : Prop := q.1 < 0 ∧ (eqo lgC N0 q.2 ∧ 0 ≤ q.2 27 9) ∧ ∃ M'', TT f (300 - p) M (0, M'') ∧ M'' 57 10 = q.1 ∧ eqo lgM M0 M''
theorem TT_inl {f : Nat} {p : Int} {M M2 : oM} {R : Int × oM} (h : p_M_readsCondition_L40 f M = some (.inl M2)) (hp : p < 300) (hR : TT f (300 - (p + 1)) M2 R) : TT f (300 - p) M R := by
  have := Lm_inl h hR (by omega)
  rw [show 300 - (p + 1) + 1 = 300 - p from by omega] at this
  exact this
theorem L40_not {f : Nat} {b : Int → Int} {n p : Int} {M : oM} (h : rdM b n M p) (hc : chT b n p = 33) : p_M_readsCondition_L40 f M = p_M_readsCondition_B75_40 f 10 M := by
  have hh := e_M_here (f := f) h
  unfold p_M_readsCondition_L40 p_M_readsCondition_B58_40
  simp only []
  rw [hh, Option.bind_some, if_pos (show (chT b n p, M).fst = 33 from hc), show p_M_here f (chT b n p, M).snd = _ from hh, Option.bind_some, if_pos (show (chT b n p, M).fst = 33 from hc)]
theorem L40_par {f : Nat} {b : Int → Int} {n p : Int} {M : oM} (h : rdM b n M p) (hc : chT b n p = 40) : p_M_readsCondition_L40 f M = p_M_readsCondition_B75_40 f 13 M := by
  have hh := e_M_here (f := f) h
  have hn : ¬ (chT b n p, M).fst = 33 := by show ¬ chT b n p = 33; omega
  unfold p_M_readsCondition_L40 p_M_readsCondition_B58_40
  simp only []
  rw [hh, Option.bind_some, if_neg hn, show p_M_here f (chT b n p, M).snd = _ from hh, Option.bind_some, if_pos (show (chT b n p, M).fst = 40 from hc), show p_M_here f (chT b n p, M).snd = _ from hh, Option.bind_some, if_neg hn]
theorem L40_cmp {f : Nat} {b : Int → Int} {n p : Int} {M : oM} {q : Int × oM} (h : rdM b n M p) (h33 : chT b n p ≠ 33) (h40 : chT b n p ≠ 40) (hq : p_M_readsCompared f M = some q) : p_M_readsCondition_L40 f M = if q.1 = 0 then some (.inr (0, q.2)) else ((iter (p_M_readsCondition_L92 f) f q.2).bind (p_M_readsCondition_X92 f)) := by
  have hh := e_M_here (f := f) h
  unfold p_M_readsCondition_L40
  simp only []
  rw [hh, Option.bind_some, if_neg (show ¬ (chT b n p, M).fst = 33 from h33), show p_M_here f (chT b n p, M).snd = _ from hh, Option.bind_some, if_neg (show ¬ (chT b n p, M).fst = 40 from h40), show p_M_readsCompared f (chT b n p, M).snd = _ from hq, Option.bind_some]
theorem TT_cmp {f : Nat} {b : Int → Int} {n p p' : Int} {M M4 : oM} {R : Int × oM} (hf : 2000 < f) (h : rdM b n M p) (h33 : chT b n p ≠ 33) (h40 : chT b n p ≠ 40) (hq : p_M_readsCompared f M = some (1, M4)) (hp : 0 ≤ p ∧ p < p' ∧ p' ≤ 300) (hR : TB f (300 - p') M4 R) : TT f (300 - p) M R := by
  obtain ⟨x, e1, e2⟩ := hR
  have hL := L40_cmp h h33 h40 hq
  rw [if_neg (show ¬ ((1 : Int), M4).fst = 0 from n10), show iter (p_M_readsCondition_L92 f) f ((1 : Int), M4).snd = some x from e1 f (by omega), Option.bind_some] at hL
  rcases e2 with e2 | ⟨M', e2, e3⟩
  · exact Lm_inr (hL.trans e2) (by omega)
  · have := Lm_inl (hL.trans e2) e3 (by omega)
    exact Lm_mono this (by omega)
theorem TT_cmp0 {f : Nat} {b : Int → Int} {n p : Int} {M M4 : oM} (h : rdM b n M p) (h33 : chT b n p ≠ 33) (h40 : chT b n p ≠ 40) (hq : p_M_readsCompared f M = some (0, M4)) (hp : p ≤ 300) : TT f (300 - p) M (0, M4) := by
  have hL := L40_cmp h h33 h40 hq
  rw [if_pos (show ((0 : Int), M4).fst = 0 from rfl)] at hL
  exact Lm_inr hL (by omega)
theorem nu_open {f : Nat} {b : Int → Int} {n p z e w op e' c : Int} {N0 M0 N M : oM} (h : nuR b n N0 M0 p z e w op N M) (hp : p < n) (hop : op < 6) (he : 0 ≤ e' ∧ e' ≤ e + 1) (hc : 0 ≤ c ∧ c ≤ 14) : ∃ N' M9, p_T_step f N = some (0, N') ∧ p_M_opens f c M = some (1, M9) ∧ nuR b n N0 M0 (p + 1) z e' (w + 1) (op + 1) N' M9 ∧ N' 28 = N 28 ∧ N' 29 = N 29 ∧ M9 64 = M 64 ∧ M9 65 w = 1048576 * c ∧ (∀ j : Int, j ≠ w → M9 65 j = M 65 j) := by
  obtain ⟨h1, h2, h3, h4, h5, h6, h7, h8⟩ := h
  obtain ⟨N', a1, a2, a3⟩ := e_T_step1 (f := f) h1 hp
  have ho := e_opens (f := f) (c := c) h2.2.2.2.1 h6.1 h5.1 h2.2.2.2.2 ⟨h6.2.1, hop⟩ (by omega) hc
  refine ⟨N', _, a1, ho, ⟨a2, rdM_next (rdM_57 (rdM_o (rdM_57 h2 (by decide) (by decide)) (by decide) (by decide)) (by decide) (by decide)) (by omega), ⟨by omega, h3.2⟩, ⟨(eqo_f a3 27 9 rfl).trans h4.1, ?_, by omega, by omega, by omega⟩, ⟨?_, by omega, by omega⟩, ⟨?_, by omega, by omega⟩, ?_, ?_⟩, eqo_a a3 28 rfl, eqo_a a3 29 rfl, ?_, ?_, fun j hj => ?_⟩
  · rw [oU_i (by decide), oU_i (by decide), oU_o (by decide), oU_i (by decide)]; exact h4.2.1
  · rw [oU_i (by decide), oU_at]
  · rw [oU_i (by decide), oU_i (by decide), oU_o (by decide), oU_at]
  · exact eqo_tr (subw_cons (.head _) (subw_cons (.tail _ (.head _)) subw_nil)) h7 a3
  · exact eqo_oU (.head _) (eqo_oU (.tail _ (.tail _ (.tail _ (.tail _ (.tail _ (.head _)))))) (eqo_oUa (.tail _ (.tail _ (.tail _ (.tail _ (.tail _ (.tail _ (.tail _ (.head _)))))))) (eqo_oU (.tail _ (.tail _ (.tail _ (.head _)))) h8)))
  · rw [oU_row (by decide), oU_row (by decide), oU_row (by decide), oU_row (by decide)]
  · rw [oU_o (by decide), oU_o (by decide), oU_at]
  · rw [oU_o (by decide), oU_o (by decide), oU_i hj, oU_o (by decide)]
theorem e_B75 {f : Nat} {c : Int} {M M9 : oM} (h : p_M_opens f c M = some (1, M9)) : p_M_readsCondition_B75_40 f c M = some (.inl M9) := by
  unfold p_M_readsCondition_B75_40
  rw [h, Option.bind_some, if_neg (show ¬ ((1 : Int), M9).fst = 0 from n10)]
theorem e_B75no {f : Nat} {c p : Int} {M : oM} (h8 : M 57 8 = p) (hp : 0 ≤ p ∧ p ≤ 1000) (h : M 57 12 = 6) : p_M_readsCondition_B75_40 f c M = some (.inr (0, oU M 57 10 (-1000 * 5 - p))) := by
  unfold p_M_readsCondition_B75_40 p_M_opens
  rw [if_pos h, h8, e_wrongB (by decide) (by omega), Option.bind_some, if_pos (show ((0 : Int), oU M 57 10 (-1000 * 5 - p)).fst = 0 from rfl)]
/-! the signs ahead -/
def ntI (f : Nat) (b : Int → Int) (n : Int) (N0 M0 : oM) (p z e w op : Int) (N M : oM) (k : Nat) (N' M' : oM) : Prop := nuR b n N0 M0 (p + k) z (e + k) (w + k) (op + k) N' M' ∧ (N' 28 = N 28 ∧ N' 29 = N 29 ∧ M' 64 = M 64) ∧ wtE w M M' ∧ (∀ j : Int, w ≤ j → j < w + k → M' 65 j = 1048576 * 10) ∧ ∀ R, TT f (300 - (p + k)) M' R → TT f (300 - p) M R
def ntQ (f : Nat) (b : Int → Int) (n : Int) (N0 M0 : oM) (p z e w op : Int) (N M : oM) (x : (Int × oM) ⊕ (Int × oM)) : Prop := (∃ q, x = .inl q ∧ cftQ f N0 M0 p M q) ∨ (∃ (k : Nat) (N' M' : oM), x = .inr ((k : Int), N') ∧ k ≤ 6 ∧ ntI f b n N0 M0 p z e w op N M k N' M' ∧ chT b n (p + k) ≠ 33)
def ntS (f : Nat) (b : Int → Int) (n : Int) (N0 M0 : oM) (p z e w op : Int) (N M : oM) (k : Nat) (s : Int × Int × oM) : Prop := s.1 = (k : Int) ∧ s.2.1 = (k : Int) ∧ ∃ M', ntI f b n N0 M0 p z e w op N M k s.2.2 M'
theorem not_step {f k : Nat} {b : Int → Int} {n p z e w op : Int} {N0 M0 N M M1 : oM} {rec : Int → oM → Option (Int × oM)} {s : Int × Int × oM} (i1 : s.1 = (k : Int)) (i2 : s.2.1 = (k : Int)) (hb : 0 ≤ p ∧ 0 ≤ e ∧ 0 ≤ w ∧ 0 ≤ op) (hk : (k : Int) < 7) (j1 : nuR b n N0 M0 (p + k) z (e + k) (w + k) (op + k) s.2.2 M1) (j2 : s.2.2 28 = N 28 ∧ s.2.2 29 = N 29 ∧ M1 64 = M 64) (j3 : wtE w M M1) (j4 : ∀ j : Int, w ≤ j → j < w + k → M1 65 j = 1048576 * 10) (j5 : ∀ R, TT f (300 - (p + k)) M1 R → TT f (300 - p) M R) :
    okp (p_LR_readTest_L4 f rec op s) (psum (ntS f b n N0 M0 p z e w op N M (k + 1)) (ntQ f b n N0 M0 p z e w op N M)) := by
  obtain ⟨h1, h2, h3, h4, h5, h6, h7, h8⟩ := id j1
  have hch := rdC_ch h1
  have hn240 : p + (k : Int) ≤ 240 := by omega
  obtain ⟨s1, s2, N1⟩ := s
  simp only at i1 i2 h1 h2 h3 h4 h5 h6 h7 h8 hch j1 j2
  rw [i1, i2]
  unfold p_LR_readTest_L4
  simp only []
  rw [if_pos (show (k : Int) < 240 by omega), e_next h1, Option.bind_some]
  by_cases q : chT b n (p + k) = 33
  · rw [if_pos (show (chT b n (p + k), N1).fst = 33 from q), w32_of (a := op + (k : Int)) (by omega) (by omega)]
    by_cases q6 : op + (k : Int) < 6
    · have hpn : p + k < n := chT_in (b := b) (p := p + k) (by omega)
      obtain ⟨N2, M9, a1, a2, a3, a4, a5, a6, a7, a8⟩ := nu_open (f := f) (e' := e + k + 1) (c := 10) j1 hpn q6 (by omega) (by decide)
      rw [if_pos q6, w32_of (a := (k : Int) + 1) (by omega) (by omega), lt_eq, show p_T_step f (chT b n (p + k), N1).snd = _ from a1, Option.bind_some, lt_eq]
      have ek : ((k + 1 : Nat) : Int) = (k : Int) + 1 := rfl
      refine ⟨rfl, rfl, M9, ?_, ⟨a4.trans j2.1, a5.trans j2.2.1, a6.trans j2.2.2⟩, fun j hj => by rw [a8 j (by omega)]; exact j3 j hj, fun j g0 g1 => ?_, fun R hS => j5 R ?_⟩
      · show nuR b n N0 M0 (p + ((k + 1 : Nat) : Int)) z (e + ((k + 1 : Nat) : Int)) (w + ((k + 1 : Nat) : Int)) (op + ((k + 1 : Nat) : Int)) N2 M9
        rw [ek, ← Int.add_assoc, ← Int.add_assoc, ← Int.add_assoc, ← Int.add_assoc]; exact a3
      · by_cases z : j = w + k
        · rw [z]; exact a7
        · exact (a8 j z).trans (j4 j g0 (by omega))
      · have hS' : TT f (300 - (p + k + 1)) M9 R := by
          rw [show p + (k : Int) + 1 = p + ((k + 1 : Nat) : Int) from by omega]; exact hS
        exact TT_inl ((L40_not h2 q).trans (e_B75 a2)) (by omega) hS'
    · rw [if_neg q6, show p_T_fault f 5 (chT b n (p + k), N1).snd = _ from e_T_fault hch.2.1 (by decide) hch.2.2.2.1, Option.bind_some]
      refine Or.inl ⟨_, rfl, by show -1000 * 5 - (p + (k : Int)) < 0; omega, nu_fl j1, oU M1 57 10 (-1000 * 5 - (p + k)), j5 _ ?_, oU_at, wrongM (N0 := N0) h8⟩
      exact Lm_inr ((L40_not h2 q).trans (e_B75no h2.2.2.2.1 h2.2.2.2.2 (by omega))) (by omega)
  · rw [if_neg (show ¬ (chT b n (p + k), N1).fst = 33 from q)]
    exact Or.inr ⟨k, N1, M1, rfl, by omega, ⟨j1, j2, j3, j4, j5⟩, q⟩
theorem nots_in {f : Nat} {b : Int → Int} {n p z e w op : Int} {N0 M0 N M : oM} {rec : Int → oM → Option (Int × oM)} (hf : 2000 < f) (hR : nuR b n N0 M0 p z e w op N M) : okp (iter (p_LR_readTest_L4 f rec op) f (0, 0, N)) (ntQ f b n N0 M0 p z e w op N M) := by
  have hb : 0 ≤ p ∧ 0 ≤ e ∧ 0 ≤ w ∧ 0 ≤ op := ⟨hR.2.1.2.2.2.2.1, hR.2.2.2.1.2.2.2.1, hR.2.2.2.2.1.2.1, hR.2.2.2.2.2.1.2.1⟩
  refine for_ok 7 (ntS f b n N0 M0 p z e w op N M) (fun k s hk hI => ?_) (fun s hI => ?_) f (by omega) ⟨rfl, rfl, M, ?_, ⟨rfl, rfl, rfl⟩, wtE_refl rfl, fun j j0 j1 => by omega, fun R h => ?_⟩
  · obtain ⟨i1, i2, M1, i3⟩ := hI
    exact not_step i1 i2 hb (by omega) i3.1 i3.2.1 i3.2.2.1 i3.2.2.2.1 i3.2.2.2.2
  · obtain ⟨-, -, M1, i3⟩ := hI
    have h6 := i3.1.2.2.2.2.2.1
    have e7 : ((7 : Nat) : Int) = 7 := rfl
    exfalso; omega
  · show nuR b n N0 M0 (p + ((0 : Nat) : Int)) z (e + ((0 : Nat) : Int)) (w + ((0 : Nat) : Int)) (op + ((0 : Nat) : Int)) N M
    rw [show ((0 : Nat) : Int) = 0 from rfl, Int.add_zero, Int.add_zero, Int.add_zero, Int.add_zero]; exact hR
  · rw [show p + ((0 : Nat) : Int) = p from Int.add_zero p] at h; exact h
