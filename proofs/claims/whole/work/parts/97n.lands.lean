/-! THE LAW: jumps that wait are landed by both -/
def nuX (b : Int → Int) (n : Int) (N0 M0 : oM) (p pM z e w op : Int) (N M : oM) : Prop := rdC b n N p ∧ rdM b n M pM ∧ (p ≤ n ∧ n ≤ 240) ∧ (N 27 9 = z ∧ M 57 13 = z ∧ 0 ≤ z ∧ 0 ≤ e ∧ z + e + 1 ≤ p) ∧ (M 57 14 = w ∧ 0 ≤ w ∧ w ≤ p) ∧ (M 57 12 = op ∧ 0 ≤ op ∧ op ≤ 6) ∧ eqo lgC N0 N ∧ eqo lgM M0 M
def ldN (N : oM) (x z : Int) : oM := if x = -1 then N else oU N 29 x z
def ldM (M : oM) (x z w c : Int) : oM := if x = -1 then M else oU (oU M 64 x (1048576 * c + z)) 57 14 (w - 1)
theorem nx_step {f : Nat} {b : Int → Int} {n p z e w op e' : Int} {N0 M0 N M : oM} (h : nuR b n N0 M0 p z e w op N M) (hp : p < n) (he : 0 ≤ e' ∧ e' ≤ e + 1) : ∃ N', p_T_step f N = some (0, N') ∧ nuX b n N0 M0 (p + 1) p z e' w op N' M ∧ N' 28 = N 28 ∧ N' 29 = N 29 := by
  obtain ⟨h1, h2, h3, h4, h5, h6, h7, h8⟩ := h
  obtain ⟨N', a1, a2, a3⟩ := e_T_step1 (f := f) h1 hp
  refine ⟨N', a1, ⟨a2, h2, ⟨by omega, h3.2⟩, ⟨(eqo_f a3 27 9 rfl).trans h4.1, h4.2.1, by omega, by omega, by omega⟩, ⟨h5.1, by omega, by omega⟩, h6, ?_, h8⟩, eqo_a a3 28 rfl, eqo_a a3 29 rfl⟩
  exact eqo_tr (subw_cons (.head _) (subw_cons (.tail _ (.head _)) subw_nil)) h7 a3
theorem nx_land {b : Int → Int} {n p pM z e w op x c : Int} {N0 M0 N M : oM} (h : nuX b n N0 M0 p pM z e w op N M) (hw : x ≠ -1 → 1 ≤ w) : nuX b n N0 M0 p pM z e (w - cn x) op (ldN N x z) (ldM M x z w c) := by
  by_cases q : x = -1
  · have e1 : cn x = 0 := if_pos q
    have e2 : ldN N x z = N := if_pos q
    have e3 : ldM M x z w c = M := if_pos q
    rw [e1, e2, e3, Int.sub_zero]; exact h
  · have e1 : cn x = 1 := if_neg q
    have e2 : ldN N x z = oU N 29 x z := if_neg q
    have e3 : ldM M x z w c = oU (oU M 64 x (1048576 * c + z)) 57 14 (w - 1) := if_neg q
    rw [e1, e2, e3]
    have hw1 := hw q
    obtain ⟨h1, h2, h3, h4, h5, h6, h7, h8⟩ := h
    refine ⟨rdC_o h1 (by decide) (by decide), rdM_57 (rdM_o h2 (by decide) (by decide)) (by decide) (by decide), h3, ⟨?_, ?_, h4.2.2⟩, ⟨oU_at, by omega, by omega⟩, ⟨?_, h6.2⟩, eqo_oUa (.tail _ (.tail _ (.tail _ (.tail _ (.head _))))) h7, eqo_oU (.tail _ (.tail _ (.tail _ (.tail _ (.tail _ (.head _)))))) (eqo_oUa (.tail _ (.tail _ (.tail _ (.tail _ (.tail _ (.tail _ (.head _))))))) h8)⟩
    · rw [oU_o (by decide)]; exact h4.1
    · rw [oU_i (by decide), oU_o (by decide)]; exact h4.2.1
    · rw [oU_i (by decide), oU_o (by decide)]; exact h6.1
theorem e_landHere {f : Nat} {x z : Int} {N : oM} (hz : N 27 9 = z) (hx : x ≠ -1 → 0 ≤ x ∧ x < z ∧ x < 240) : p_L_landHere f x N = some (0, ldN N x z) := by
  unfold p_L_landHere ldN
  by_cases q : x = -1
  · rw [if_pos (by omega), if_pos q]
  · have := hx q
    rw [if_neg (by omega), hz, if_pos this.2.1, bnd_eq this.1 this.2.2, lt_eq, if_neg q]
theorem ldM_65 {M : oM} {x z w c : Int} : (ldM M x z w c) 65 = M 65 := by
  unfold ldM
  by_cases q : x = -1
  · rw [if_pos q]
  · rw [if_neg q, oU_row (by decide), oU_row (by decide)]
theorem ld_step {f : Nat} {l x z w t : Int} {M : oM} (hw : M 57 14 = w) (hz : M 57 13 = z) (hb : 1 ≤ w ∧ w ≤ 250) (hzb : 0 ≤ z ∧ z ≤ 250) (hx : x ≠ -1 ∧ 0 ≤ x ∧ x < 250) (h65 : M 65 (w - 1) = 1048576 * t + x) (h64 : M 64 x = 1048576 * t) (ht : t = 11 ∨ (l ≠ 0 ∧ t = 12)) : p_M_lands_L0 f l M = some (.inl (ldM M x z w t)) := by
  have hB : ∀ t : Int, 0 ≤ t ∧ t ≤ 14 → M 65 (w - 1) = 1048576 * t + x → M 64 x = 1048576 * t → p_M_lands_B22_0 f l M = some (.inl (ldM M x z w t)) := by
    intro t ht h65 h64
    have hd := td20 ht (show 0 ≤ x ∧ x < 1048576 by omega)
    have hd2 := (td20 (v := 0) ht (by decide)).1
    rw [Int.add_zero] at hd2
    have a1 : oU M 64 x (1048576 * t + z) 57 14 = w := (oU_o (by decide)).trans hw
    unfold p_M_lands_B22_0 ldM
    rw [hw, w32_of (a := w - 1) (by omega) (by omega), bnd_eq (by omega) (by omega), nz_eq (by decide), h65, hd.2, lt_eq, bnd_eq (by omega) (by omega), nz_eq (by decide), bnd_eq (by omega) (by omega), h64, hd2, hz, w32_of (a := 1048576 * t) (by omega) (by omega), w32_of (a := 1048576 * t + z) (by omega) (by omega), lt_eq, a1, w32_of (a := w - 1) (by omega) (by omega), lt_eq, if_neg hx.1]
  have htb : 0 ≤ t ∧ t ≤ 14 := by omega
  have htop : topIs M w t := .inr ⟨hb.1, htb, x, by omega, h65⟩
  have e1 := e_waitTop (f := f) hw (by omega) htop
  unfold p_M_lands_L0
  simp only []
  rw [e1, Option.bind_some]
  by_cases q : t = 11
  · rw [if_pos (show (t, M).fst = 11 from q)]
    exact hB t htb h65 h64
  · rw [if_neg (show ¬ (t, M).fst = 11 from q), if_neg (by omega), show p_M_waitTop f (t, M).snd = _ from e1, Option.bind_some, if_pos (show (t, M).fst = 12 from by show t = 12; omega)]
    exact hB t htb h65 h64
theorem ld_stop {f : Nat} {l w t : Int} {M : oM} (hw : M 57 14 = w) (hb : 0 ≤ w ∧ w ≤ 250) (h : topIs M w t) (ht : t ≠ 11 ∧ (l = 0 ∨ t ≠ 12)) : p_M_lands_L0 f l M = some (.inr (0, M)) := by
  have e1 := e_waitTop (f := f) hw hb h
  unfold p_M_lands_L0
  simp only []
  rw [e1, Option.bind_some, if_neg (show ¬ (t, M).fst = 11 from ht.1)]
  by_cases q : l = 0
  · rw [if_pos q]
  · rw [if_neg q, show p_M_waitTop f (t, M).snd = _ from e1, Option.bind_some, if_neg (show ¬ (t, M).fst = 12 from by show ¬ t = 12; omega)]
/-- the waits of a level: an OR's jump, then an AND's -/
def wts (M : oM) (w0 lo la : Int) : Prop := M 65 (w0 - 1) = 1048576 * 13 ∧ (lo ≠ -1 → M 65 w0 = 1048576 * 12 + lo) ∧ (la ≠ -1 → M 65 (w0 + cn lo) = 1048576 * 11 + la)
theorem ldA {f : Nat} {l z w0 lo la : Int} {M : oM} {R : Int × oM} (hw : M 57 14 = w0 + cn lo + cn la) (hz : M 57 13 = z) (hb : 1 ≤ w0 ∧ w0 ≤ 240) (hzb : 0 ≤ z ∧ z ≤ 250) (hwt : wts M w0 lo la) (hla : la ≠ -1 → 0 ≤ la ∧ la < 240 ∧ M 64 la = 1048576 * 11) (hR : Lm (p_M_lands_L0 f l) 5 (ldM M la z (w0 + cn lo + cn la) 11) R) : Lm (p_M_lands_L0 f l) 6 M R := by
  have b1 := cn_bd lo
  by_cases q : la = -1
  · have e3 : ldM M la z (w0 + cn lo + cn la) 11 = M := if_pos q
    rw [e3] at hR
    exact Lm_mono hR (by decide)
  · have e1 : cn la = 1 := if_neg q
    have h := hla q
    refine Lm_inl (K := 5) (ld_step (l := l) hw hz (by omega) hzb ⟨q, h.1, by omega⟩ ?_ h.2.2 (.inl rfl)) hR (by decide)
    rw [e1, show w0 + cn lo + 1 - 1 = w0 + cn lo from by omega]; exact hwt.2.2 q
theorem lands0 {f : Nat} {z w0 lo la : Int} {M : oM} (hf : 2000 < f) (hw : M 57 14 = w0 + cn lo + cn la) (hz : M 57 13 = z) (hb : 1 ≤ w0 ∧ w0 ≤ 240) (hzb : 0 ≤ z ∧ z ≤ 250) (hwt : wts M w0 lo la) (hlo : lo ≠ -1 → 0 ≤ lo ∧ lo < 240) (hla : la ≠ -1 → 0 ≤ la ∧ la < 240 ∧ M 64 la = 1048576 * 11) : p_M_lands f 0 M = some (0, ldM M la z (w0 + cn lo + cn la) 11) := by
  refine ldA (R := (0, ldM M la z (w0 + cn lo + cn la) 11)) hw hz hb hzb hwt hla (Lm_inr ?_ (by decide)) f (by omega)
  have b1 := cn_bd lo
  have hw1 : ldM M la z (w0 + cn lo + cn la) 11 57 14 = w0 + cn lo := by
    unfold ldM
    by_cases q : la = -1
    · have e1 : cn la = 0 := if_pos q
      rw [if_pos q, hw, e1, Int.add_zero]
    · have e1 : cn la = 1 := if_neg q
      rw [if_neg q, oU_at, e1]; omega
  have h65 := ldM_65 (M := M) (x := la) (z := z) (w := w0 + cn lo + cn la) (c := 11)
  by_cases q : lo = -1
  · have e1 : cn lo = 0 := if_pos q
    refine ld_stop (t := 13) hw1 (by omega) (topIs_at (by omega) (by decide) ?_) ⟨by decide, .inl rfl⟩
    rw [h65, e1, Int.add_zero]; exact hwt.1
  · have e1 : cn lo = 1 := if_neg q
    have h := hlo q
    refine ld_stop (t := 12) hw1 (by omega) (.inr ⟨by omega, by decide, lo, by omega, ?_⟩) ⟨by decide, .inl rfl⟩
    rw [h65, e1, show w0 + 1 - 1 = w0 from by omega]; exact hwt.2.1 q
theorem lands1 {f : Nat} {z w0 lo la : Int} {M : oM} (hf : 2000 < f) (hw : M 57 14 = w0 + cn lo + cn la) (hz : M 57 13 = z) (hb : 1 ≤ w0 ∧ w0 ≤ 240) (hzb : 0 ≤ z ∧ z ≤ 250) (hwt : wts M w0 lo la) (hlo : lo ≠ -1 → 0 ≤ lo ∧ lo < 240 ∧ M 64 lo = 1048576 * 12) (hla : la ≠ -1 → 0 ≤ la ∧ la < 240 ∧ M 64 la = 1048576 * 11) (hne : la ≠ -1 → la ≠ lo) : p_M_lands f 1 M = some (0, ldM (ldM M la z (w0 + cn lo + cn la) 11) lo z (w0 + cn lo) 12) := by
  refine ldA (R := (0, ldM (ldM M la z (w0 + cn lo + cn la) 11) lo z (w0 + cn lo) 12)) hw hz hb hzb hwt hla ?_ f (by omega)
  have b1 := cn_bd lo
  have h65 := ldM_65 (M := M) (x := la) (z := z) (w := w0 + cn lo + cn la) (c := 11)
  obtain ⟨M1, hM1⟩ : ∃ M1, M1 = ldM M la z (w0 + cn lo + cn la) 11 := ⟨_, rfl⟩
  have hw1 : M1 57 14 = w0 + cn lo := by
    rw [hM1]
    unfold ldM
    by_cases q : la = -1
    · have e1 : cn la = 0 := if_pos q
      rw [if_pos q, hw, e1, Int.add_zero]
    · have e1 : cn la = 1 := if_neg q
      rw [if_neg q, oU_at, e1]; omega
  have hz1 : M1 57 13 = z := by
    rw [hM1]
    unfold ldM
    by_cases q : la = -1
    · rw [if_pos q, hz]
    · rw [if_neg q, oU_i (by decide), oU_o (by decide), hz]
  have h64 : lo ≠ -1 → M1 64 lo = 1048576 * 12 := fun q => by
    rw [hM1]
    unfold ldM
    by_cases ql : la = -1
    · rw [if_pos ql]; exact (hlo q).2.2
    · rw [if_neg ql, oU_o (by decide), oU_i (fun z => hne ql z.symm)]; exact (hlo q).2.2
  rw [← hM1] at h65 ⊢
  by_cases q : lo = -1
  · have e1 : cn lo = 0 := if_pos q
    have e3 : ldM M1 lo z (w0 + cn lo) 12 = M1 := if_pos q
    rw [e3]
    refine Lm_inr (ld_stop (t := 13) hw1 (by omega) (topIs_at (by omega) (by decide) ?_) ⟨by decide, .inr (by decide)⟩) (by decide)
    rw [h65, e1, Int.add_zero]; exact hwt.1
  · have e1 : cn lo = 1 := if_neg q
    have h := hlo q
    refine Lm_inl (K := 4) (ld_step (l := 1) hw1 hz1 (by omega) hzb ⟨q, h.1, by omega⟩ (by rw [h65, e1, show w0 + 1 - 1 = w0 from by omega]; exact hwt.2.1 q) (h64 q) (.inr ⟨by decide, rfl⟩)) ?_ (by decide)
    refine Lm_inr (ld_stop (t := 13) (w := w0) ?_ (by omega) (topIs_at (by omega) (by decide) ?_) ⟨by decide, .inr (by decide)⟩) (by decide)
    · unfold ldM
      rw [if_neg q, oU_at, e1]; omega
    · rw [ldM_65, h65]; exact hwt.1
