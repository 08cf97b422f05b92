/-! THE LAW: the reference's phases of a sum; a factor by both -/
def SL (f : Nat) (base K : Int) (M : oM) (R : Int × oM) : Prop := Lm (p_M_readsSum_L14 f base) K M R
def SF (f : Nat) (base K : Int) (M : oM) (R : Int × oM) : Prop := ∃ q, Lm (p_M_readsFactor_L0 f) (7 - M 57 12) M q ∧ ((q.1 = 0 ∧ R = (0, q.2)) ∨ (q.1 = 1 ∧ SL f base K q.2 R))
def notSign (c : Int) : Prop := c ≠ 43 ∧ c ≠ 45 ∧ c ≠ 42 ∧ c ≠ 47 ∧ c ≠ 37
def bsOk (M : oM) (base w : Int) : Prop := ∀ j : Int, base ≤ j → j < w → ∃ c, (0 ≤ c ∧ c ≤ 14) ∧ M 65 j = 1048576 * c
theorem SF_mono {f : Nat} {base K K' : Int} {M : oM} {R : Int × oM} (h : SF f base K M R) (hk : K ≤ K') : SF f base K' M R := by
  obtain ⟨q, h1, h2⟩ := h
  exact ⟨q, h1, h2.imp id fun z => ⟨z.1, Lm_mono z.2 hk⟩⟩
theorem SF_no {f : Nat} {base K : Int} {M M' : oM} (h : p_M_readsFactor_L0 f M = some (.inr (0, M'))) (ho : M 57 12 ≤ 6) : SF f base K M (0, M') := ⟨(0, M'), Lm_inr h (by omega), .inl ⟨rfl, rfl⟩⟩
theorem SF_go {f : Nat} {base K : Int} {M M' : oM} {R : Int × oM} (h : p_M_readsFactor_L0 f M = some (.inr (1, M'))) (ho : M 57 12 ≤ 6) (hR : SL f base K M' R) : SF f base K M R := ⟨(1, M'), Lm_inr h (by omega), .inr ⟨rfl, hR⟩⟩
theorem SF_open {f : Nat} {base K K' : Int} {M M2 : oM} {R : Int × oM} (h : p_M_readsFactor_L0 f M = some (.inl M2)) (ho : M2 57 12 = M 57 12 + 1) (ho6 : M 57 12 ≤ 6) (hk : K' ≤ K) (hR : SF f base K' M2 R) : SF f base K M R := by
  obtain ⟨q, h1, h2⟩ := SF_mono hR hk
  refine ⟨q, ?_, h2⟩
  have := Lm_inl h h1 (by omega)
  rw [ho, show 7 - (M 57 12 + 1) + 1 = 7 - M 57 12 from by omega] at this
  exact this
theorem e_sumSign {f : Nat} {c : Int} {M : oM} (h : notSign c) : p_M_sumSign f c M = some (-1, M) := by
  obtain ⟨h1, h2, h3, h4, h5⟩ := h
  unfold p_M_sumSign
  rw [if_neg h1, if_neg h2, if_neg h3, if_neg h4, if_neg h5]
theorem e_sumSign2 {f : Nat} {c : Int} {M : oM} (h : c = 43 ∨ c = 45 ∨ c = 42 ∨ c = 47 ∨ c = 37) : p_M_sumSign f c M = some (opn c, M) := by
  unfold p_M_sumSign
  rcases h with z | z | z | z | z <;> rw [z] <;> rfl
theorem L14_close {f : Nat} {b : Int → Int} {n p base w op : Int} {M Mc : oM} (h : rdM b n M p) (hc : chT b n p = 93) (ho : p_M_hasOpenSum f base M = some (1, M)) (hcl : p_M_closesSums f 1 M = some (0, Mc)) (h14 : Mc 57 14 = w + 1) (h12 : Mc 57 12 = op + 1) (h8 : Mc 57 8 = p) (hb : 0 ≤ w ∧ w ≤ 1000 ∧ 0 ≤ op ∧ op ≤ 6) : p_M_readsSum_L14 f base M = some (.inl (oU (oU (oU Mc 57 14 w) 57 12 op) 57 8 (p + 1))) := by
  have hh := e_M_here (f := f) h
  have hp := h.2.2.2
  have a1 : oU Mc 57 14 w 57 12 = op + 1 := (oU_i (by decide)).trans h12
  have a2 : oU (oU Mc 57 14 w) 57 12 op 57 8 = p := (oU_i (by decide)).trans ((oU_i (by decide)).trans h8)
  unfold p_M_readsSum_L14 p_M_readsSum_B163_14
  simp only []
  rw [hh, Option.bind_some, show p_M_sumSign f (chT b n p, M).fst (chT b n p, M).snd = some (-1, M) from e_sumSign (by show notSign (chT b n p); rw [hc]; unfold notSign; omega), Option.bind_some, if_pos (show ((-1 : Int), M).fst = -1 from rfl), show p_M_here f ((-1 : Int), M).snd = _ from hh, Option.bind_some, if_pos (show (chT b n p, M).fst = 93 from hc), show p_M_hasOpenSum f base (chT b n p, M).snd = _ from ho, Option.bind_some, if_neg (show ¬ ((1 : Int), M).fst = 0 from n10), show p_M_closesSums f 1 ((1 : Int), M).snd = _ from hcl, Option.bind_some, show ((0 : Int), Mc).snd 57 14 = w + 1 from h14, w32_of (a := w + 1 - 1) (by omega) (by omega), show w + 1 - 1 = w from by omega, lt_eq, show oU ((0 : Int), Mc).snd 57 14 w 57 12 = op + 1 from a1, w32_of (a := op + 1 - 1) (by omega) (by omega), show op + 1 - 1 = op from by omega, lt_eq, show oU (oU ((0 : Int), Mc).snd 57 14 w) 57 12 op 57 8 = p from a2, w32_of (a := p + 1) (by omega) (by omega), lt_eq]
theorem L14_bad {f : Nat} {b : Int → Int} {n p base : Int} {M : oM} (h : rdM b n M p) (hs : notSign (chT b n p)) (hc : chT b n p ≠ 93) (ho : p_M_hasOpenSum f base M = some (1, M)) : p_M_readsSum_L14 f base M = some (.inr (0, oU M 57 10 (-1000 * 1 - p))) := by
  have hh := e_M_here (f := f) h
  have hp := h.2.2.2
  unfold p_M_readsSum_L14 p_M_readsSum_B138_14
  simp only []
  rw [hh, Option.bind_some, show p_M_sumSign f (chT b n p, M).fst (chT b n p, M).snd = some (-1, M) from e_sumSign hs, Option.bind_some, if_pos (show ((-1 : Int), M).fst = -1 from rfl), show p_M_here f ((-1 : Int), M).snd = _ from hh, Option.bind_some, if_neg (show ¬ (chT b n p, M).fst = 93 from hc), show p_M_hasOpenSum f base (chT b n p, M).snd = _ from ho, Option.bind_some, if_neg (show ¬ ((1 : Int), M).fst = 0 from n10), show ((1 : Int), M).snd 57 8 = p from hp.1, e_wrongR (by decide) (by omega)]
theorem L14_end {f : Nat} {b : Int → Int} {n p base : Int} {M Mc : oM} (h : rdM b n M p) (hs : notSign (chT b n p)) (ho : p_M_hasOpenSum f base M = some (0, M)) (hcl : p_M_closesSums f 1 M = some (0, Mc)) : p_M_readsSum_L14 f base M = some (.inr (1, Mc)) := by
  have hh := e_M_here (f := f) h
  have hB : p_M_readsSum_B138_14 f base M = some (.inr (1, Mc)) := by
    unfold p_M_readsSum_B138_14
    rw [ho, Option.bind_some, if_pos (show ((0 : Int), M).fst = 0 from rfl), show p_M_closesSums f 1 ((0 : Int), M).snd = _ from hcl, Option.bind_some]
  unfold p_M_readsSum_L14
  simp only []
  rw [hh, Option.bind_some, show p_M_sumSign f (chT b n p, M).fst (chT b n p, M).snd = some (-1, M) from e_sumSign hs, Option.bind_some, if_pos (show ((-1 : Int), M).fst = -1 from rfl), show p_M_here f ((-1 : Int), M).snd = _ from hh, Option.bind_some]
  by_cases q : chT b n p = 93
  · rw [if_pos (show (chT b n p, M).fst = 93 from q), show p_M_hasOpenSum f base (chT b n p, M).snd = _ from ho, Option.bind_some, if_pos (show ((0 : Int), M).fst = 0 from rfl)]
    exact hB
  · rw [if_neg (show ¬ (chT b n p, M).fst = 93 from q)]
    exact hB
theorem SL_sign {f : Nat} {b : Int → Int} {n p base w K : Int} {M M2 M9 : oM} {R : Int × oM} (hf : 2000 < f) (h : rdM b n M p) {c : Int} (hcc : chT b n p = c) (hc : c = 43 ∨ c = 45 ∨ c = 42 ∨ c = 47 ∨ c = 37) (hcl : p_M_closesSums f (if opn c < 4 then 1 else 0) M = some (0, M2)) (h14 : M2 57 14 = w) (hw : 0 ≤ w ∧ w < 250) (h8 : M2 57 8 = p) (h9 : M9 = oU (oU (oU M2 65 w (1048576 * opn c)) 57 14 (w + 1)) 57 8 (p + 1)) (h12 : 0 ≤ M9 57 12) (hK : 0 ≤ K + 1) (hR : SF f base K M9 R) : SL f base (K + 1) M R := by
  have hh := e_M_here (f := f) h
  have hp := h.2.2.2
  rw [hcc] at hh
  obtain ⟨q, e1, e2⟩ := hR
  have eq := e1 f (by omega)
  have ho : 2 ≤ opn c ∧ opn c ≤ 6 := by rcases hc with z | z | z | z | z <;> rw [z] <;> decide
  have a1 : oU M2 65 w (1048576 * opn c) 57 14 = w := (oU_o (by decide)).trans h14
  have a2 : oU (oU M2 65 w (1048576 * opn c)) 57 14 (w + 1) 57 8 = p := (oU_i (by decide)).trans ((oU_o (by decide)).trans h8)
  have hB : ∀ s : Int, p_M_closesSums f s M = some (0, M2) → p_M_readsSum_B38_14 f base (opn c) s M = if q.1 = 0 then some (.inr (0, q.2)) else some (.inl q.2) := by
    intro s hs
    unfold p_M_readsSum_B38_14 p_M_readsSum_B163_14
    rw [hs, Option.bind_some, show ((0 : Int), M2).snd 57 14 = w from h14, bnd_eq hw.1 (by omega), w32_of (a := 1048576 * opn c) (by omega) (by omega), lt_eq, show oU ((0 : Int), M2).snd 65 w (1048576 * opn c) 57 14 = w from a1, w32_of (a := w + 1) (by omega) (by omega), lt_eq, show oU (oU ((0 : Int), M2).snd 65 w (1048576 * opn c)) 57 14 (w + 1) 57 8 = p from a2, w32_of (a := p + 1) (by omega) (by omega), lt_eq, show oU (oU (oU ((0 : Int), M2).snd 65 w (1048576 * opn c)) 57 14 (w + 1)) 57 8 (p + 1) = M9 from h9.symm]
    unfold p_M_readsFactor
    rw [eq, Option.bind_some]
  have hL : p_M_readsSum_L14 f base M = if q.1 = 0 then some (.inr (0, q.2)) else some (.inl q.2) := by
    unfold p_M_readsSum_L14
    simp only []
    rw [hh, Option.bind_some, show p_M_sumSign f (c, M).fst (c, M).snd = _ from e_sumSign2 hc, Option.bind_some, if_neg (show ¬ (opn c, M).fst = -1 from by show ¬ opn c = -1; omega)]
    by_cases q4 : opn c < 4
    · rw [if_pos q4] at hcl
      rw [if_pos (show (opn c, M).fst < 4 from q4)]
      exact hB 1 hcl
    · rw [if_neg q4] at hcl
      rw [if_neg (show ¬ (opn c, M).fst < 4 from q4)]
      exact hB 0 hcl
  rcases e2 with ⟨x1, x2⟩ | ⟨x1, x2⟩
  · rw [if_pos x1] at hL
    rw [x2]
    exact Lm_inr hL hK
  · rw [if_neg (by rw [x1]; exact n10)] at hL
    exact Lm_inl hL x2 hK
def nfQ (f : Nat) (N0 M0 : oM) (base p : Int) (M : oM) (q : Int × oM) : Prop := q.1 < 0 ∧ (eqo lgC N0 q.2 ∧ 0 ≤ q.2 27 9) ∧ ∃ M'', M'' 57 10 = q.1 ∧ eqo lgM M0 M'' ∧ SF f base (300 - p) M (0, M'')
def facQ (f : Nat) (b : Int → Int) (n : Int) (N0 M0 : oM) (base p z e w op : Int) (σ : List Bool) (N M : oM) (q : Int × oM) : Prop := nfQ f N0 M0 base p M q ∨
  (q.1 = 0 ∧ ∃ p' z' M', p < p' ∧ nuR b n N0 M0 p' z' e w op q.2 M' ∧ ext z z' σ (false :: σ) N M q.2 M' ∧ wtE w M M' ∧ ∀ R, SL f base (300 - p') M' R → SF f base (300 - p) M R)
def numQ (f : Nat) (b : Int → Int) (n : Int) (N0 M0 : oM) (base p z e w op : Int) (σ : List Bool) (N M : oM) (q : Int × oM) : Prop := nfQ f N0 M0 base p M q ∨
  (q.1 = 0 ∧ ∃ p' z' w' M' Mc, p < p' ∧ nuR b n N0 M0 p' z' e w op q.2 Mc ∧ ext z z' σ (false :: σ) N M q.2 Mc ∧ wtE w M Mc ∧ p_M_closesSums f 1 M' = some (0, Mc) ∧ rdM b n M' p' ∧ M' 57 14 = w' ∧ (w ≤ w' ∧ w' ≤ p') ∧ (∀ j : Int, w ≤ j → j < w' → ∃ c, (0 ≤ c ∧ c ≤ 14) ∧ c ≠ 14 ∧ M' 65 j = 1048576 * c) ∧ wtE w M M' ∧ notSign (chT b n p') ∧ eqo lgM M0 M' ∧ ∀ R, SL f base (300 - p') M' R → SF f base (300 - p) M R)
theorem L0_deep {f : Nat} {b : Int → Int} {n p : Int} {M : oM} (h : rdM b n M p) (hc : chT b n p = 91) (h12 : M 57 12 = 6) : p_M_readsFactor_L0 f M = some (.inr (0, oU M 57 10 (-1000 * 5 - p))) := by
  have hh := e_M_here (f := f) h
  have hp := h.2.2.2
  unfold p_M_readsFactor_L0 p_M_opens
  simp only []
  rw [hh, Option.bind_some, if_pos (show (chT b n p, M).fst = 91 from hc), if_pos (show (chT b n p, M).snd 57 12 = 6 from h12), show (chT b n p, M).snd 57 8 = p from hp.1, e_wrongB (by decide) (by omega), Option.bind_some, if_pos (show ((0 : Int), oU (chT b n p, M).snd 57 10 (-1000 * 5 - p)).fst = 0 from rfl)]
theorem e_opens {f : Nat} {p op w c : Int} {M : oM} (h8 : M 57 8 = p) (h12 : M 57 12 = op) (h14 : M 57 14 = w) (hp : 0 ≤ p ∧ p ≤ 1000) (hop : 0 ≤ op ∧ op < 6) (hw : 0 ≤ w ∧ w < 250) (hc : 0 ≤ c ∧ c ≤ 14) : p_M_opens f c M = some (1, oU (oU (oU (oU M 57 12 (op + 1)) 65 w (1048576 * c)) 57 14 (w + 1)) 57 8 (p + 1)) := by
  have a1 : oU M 57 12 (op + 1) 57 14 = w := (oU_i (by decide)).trans h14
  have a2 : oU (oU M 57 12 (op + 1)) 65 w (1048576 * c) 57 14 = w := (oU_o (by decide)).trans a1
  have a3 : oU (oU (oU M 57 12 (op + 1)) 65 w (1048576 * c)) 57 14 (w + 1) 57 8 = p := (oU_i (by decide)).trans ((oU_o (by decide)).trans ((oU_i (by decide)).trans h8))
  unfold p_M_opens
  rw [h12, if_neg (show ¬ op = 6 by omega), w32_of (a := op + 1) (by omega) (by omega), lt_eq, a1, bnd_eq hw.1 (by omega), w32_of (a := 1048576 * c) (by omega) (by omega), lt_eq, a2, w32_of (a := w + 1) (by omega) (by omega), lt_eq, a3, w32_of (a := p + 1) (by omega) (by omega), lt_eq]
theorem L0_open {f : Nat} {b : Int → Int} {n p : Int} {M M2 : oM} (h : rdM b n M p) (hc : chT b n p = 91) (ho : p_M_opens f 14 M = some (1, M2)) : p_M_readsFactor_L0 f M = some (.inl M2) := by
  have hh := e_M_here (f := f) h
  unfold p_M_readsFactor_L0
  simp only []
  rw [hh, Option.bind_some, if_pos (show (chT b n p, M).fst = 91 from hc), show p_M_opens f 14 (chT b n p, M).snd = _ from ho, Option.bind_some, if_neg (show ¬ ((1 : Int), M2).fst = 0 from n10)]
theorem L0_dig {f : Nat} {b : Int → Int} {n p : Int} {M : oM} {q : Int × oM} (h : rdM b n M p) (hc : 48 ≤ chT b n p ∧ chT b n p ≤ 57) (hn : p_M_readsNumber f M = some q) : p_M_readsFactor_L0 f M = if q.1 = 0 then some (.inr (0, q.2)) else (p_M_notes f 0 (q.2 57 11) q.2).bind fun q10 => some (.inr (1, q10.2)) := by
  have hh := e_M_here (f := f) h
  unfold p_M_readsFactor_L0
  simp only []
  rw [hh, Option.bind_some, if_neg (show ¬ (chT b n p, M).fst = 91 from by show ¬ chT b n p = 91; omega), show p_M_isDigit f (chT b n p, M).snd = _ from e_M_digit hh, if_pos hc, Option.bind_some, if_neg (show ¬ ((1 : Int), M).fst = 0 from n10), show p_M_readsNumber f ((1 : Int), M).snd = _ from hn, Option.bind_some]
theorem L0_none {f : Nat} {b : Int → Int} {n p : Int} {M : oM} (h : rdM b n M p) (hc : chT b n p ≠ 91) (hd : ¬ (48 ≤ chT b n p ∧ chT b n p ≤ 57)) (hl : ltP (chT b n p) (-1)) : p_M_readsFactor_L0 f M = some (.inr (0, oU M 57 10 (-1000 * 1 - p))) := by
  have hh := e_M_here (f := f) h
  have hp := h.2.2.2
  unfold p_M_readsFactor_L0
  simp only []
  rw [hh, Option.bind_some, if_neg (show ¬ (chT b n p, M).fst = 91 from hc), show p_M_isDigit f (chT b n p, M).snd = _ from e_M_digit hh, if_neg hd, Option.bind_some, if_pos (show ((0 : Int), M).fst = 0 from rfl), show p_M_here f ((0 : Int), M).snd = _ from hh, Option.bind_some, show p_M_factOf f (chT b n p, M).fst (chT b n p, M).snd = _ from e_factOf hl, Option.bind_some, if_pos (show ((-1 : Int), (chT b n p, M).snd).fst = -1 from rfl), show ((-1 : Int), (chT b n p, M).snd).snd 57 8 = p from hp.1, e_wrongR (by decide) (by omega)]
theorem L0_let {f : Nat} {b : Int → Int} {n p z r : Int} {M : oM} (h : rdM b n M p) (hc : chT b n p ≠ 91) (hd : ¬ (48 ≤ chT b n p ∧ chT b n p ≤ 57)) (hl : ltP (chT b n p) r) (hr : 0 ≤ r ∧ r < 8) (hz : M 57 13 = z) (h0 : 0 ≤ z ∧ z < 240) : p_M_readsFactor_L0 f M = some (.inr (1, oU (putM M z 1 r) 57 8 (p + 1))) := by
  have hh := e_M_here (f := f) h
  have hp := h.2.2.2
  have e8 : (putM M z 1 r) 57 8 = p := by unfold putM; rw [oU_i (by decide), oU_o (by decide)]; exact hp.1
  unfold p_M_readsFactor_L0
  simp only []
  rw [hh, Option.bind_some, if_neg (show ¬ (chT b n p, M).fst = 91 from hc), show p_M_isDigit f (chT b n p, M).snd = _ from e_M_digit hh, if_neg hd, Option.bind_some, if_pos (show ((0 : Int), M).fst = 0 from rfl), show p_M_here f ((0 : Int), M).snd = _ from hh, Option.bind_some, show p_M_factOf f (chT b n p, M).fst (chT b n p, M).snd = _ from e_factOf hl, Option.bind_some, if_neg (show ¬ (r, (chT b n p, M).snd).fst = -1 from by show ¬ r = -1; omega), show p_M_notes f 1 (r, (chT b n p, M).snd).fst (r, (chT b n p, M).snd).snd = some (0, putM M z 1 r) from e_notes hz h0 (by decide) (by omega), Option.bind_some, show ((0 : Int), putM M z 1 r).snd 57 8 = p from e8, w32_of (a := p + 1) (by omega) (by omega), lt_eq]
