/-! ROUTE: an item behind its times -/
theorem RA_inr {F : Nat} {K : Int} {M : oM} {u : (Int × oM) ⊕ oM} {q R : Int × oM} (h : p_M_readsItem_L4 F M = some (.inr u)) (h3 : M 57 41 ≤ 3) (hq : p_M_readsItem_X4 F u = some q) (hR : RM F K q R) : RA F K M R := ⟨u, Lm_inr h (by omega), q, hq, hR⟩
theorem RA_inl {F : Nat} {K K' : Int} {M M3 : oM} {R : Int × oM} (h : p_M_readsItem_L4 F M = some (.inl M3)) (h41 : M3 57 41 = M 57 41 + 1) (h3 : M 57 41 ≤ 3) (hk : K' ≤ K) (hR : RA F K' M3 R) : RA F K M R := by
  obtain ⟨u, h1, q, h2, h4⟩ := hR
  refine ⟨u, ?_, q, h2, Lm_mono h4 hk⟩
  have := Lm_inl h h1 (by omega)
  rw [h41, show 3 - (M 57 41 + 1) + 1 = 3 - M 57 41 from by omega] at this
  exact this
theorem RC_inl {F : Nat} {K K' : Int} {M M5 : oM} {R : Int × oM} (h : p_M_readsItem_L203 F M = some (.inl M5)) (h41 : M 57 41 = M5 57 41 + 1) (h0 : 0 ≤ M5 57 41) (hk : K' ≤ K) (hR : RC F K' M5 R) : RC F K M R := by
  obtain ⟨q, h1, h2⟩ := hR
  refine ⟨q, ?_, Lm_mono h2 hk⟩
  rw [h41]
  exact Lm_inl h h1 (by omega)
theorem L4_other {F : Nat} {b : Int → Int} {n p : Int} {M : oM} (h : rdM b n M p) (hc : chT b n p ≠ 40) : p_M_readsItem_L4 F M = some (.inr (.inr M)) := by
  have hh := e_M_here (f := F) h
  unfold p_M_readsItem_L4
  simp only []
  rw [hh, Option.bind_some, if_neg (show ¬ (chT b n p, M).fst = 40 from hc)]
theorem L4_deep {F : Nat} {b : Int → Int} {n p : Int} {M : oM} (h : rdM b n M p) (hc : chT b n p = 40) (h41 : M 57 41 = 2) : p_M_readsItem_L4 F M = some (.inr (.inl (0, oU M 57 10 (-1000 * 5 - p)))) := by
  have hh := e_M_here (f := F) h
  have hp := h.2.2.2
  unfold p_M_readsItem_L4
  simp only []
  rw [hh, Option.bind_some, if_pos (show (chT b n p, M).fst = 40 from hc), if_pos (show (chT b n p, M).snd 57 41 = 2 from h41), show (chT b n p, M).snd 57 8 = p from hp.1, e_M_wrongAt (by decide) (by omega), Option.bind_some]
  exact bnd_eq (Int.le_refl 0) (show (0 : Int) < 2 by decide)
theorem L4_open {F : Nat} {b : Int → Int} {n p p0 op len times : Int} {M M2 M3 : oM} (h : rdM b n M p) (hc : chT b n p = 40) (h41 : M 57 41 = op) (hop : 0 ≤ op ∧ op < 2) (h42 : M 57 42 = p0) (h40 : M 57 40 = len) (h43 : M 57 43 = times) (h2 : M2 = oU (oU (oU (oU (oU M 79 op p0) 80 op len) 81 op times) 57 41 (op + 1)) 57 8 (p + 1)) (h3 : p_M_readsTimes F M2 = some (0, M3)) : p_M_readsItem_L4 F M = some (.inl M3) := by
  have hh := e_M_here (f := F) h
  have hp := h.2.2.2
  have a1 : oU M 79 op p0 57 41 = op := (oU_o (by decide)).trans h41
  have a2 : oU M 79 op p0 57 40 = len := (oU_o (by decide)).trans h40
  have a3 : oU (oU M 79 op p0) 80 op len 57 41 = op := (oU_o (by decide)).trans a1
  have a4 : oU (oU M 79 op p0) 80 op len 57 43 = times := (oU_o (by decide)).trans ((oU_o (by decide)).trans h43)
  have a5 : oU (oU (oU M 79 op p0) 80 op len) 81 op times 57 41 = op := (oU_o (by decide)).trans a3
  have a6 : oU (oU (oU (oU M 79 op p0) 80 op len) 81 op times) 57 41 (op + 1) 57 8 = p := (oU_i (by decide)).trans ((oU_o (by decide)).trans ((oU_o (by decide)).trans ((oU_o (by decide)).trans hp.1)))
  have w1 : w32 (op + 1) = op + 1 := w32_of (by omega) (by omega)
  have w2 : w32 (p + 1) = p + 1 := w32_of (by omega) (by omega)
  unfold p_M_readsItem_L4
  simp only []
  rw [hh, Option.bind_some, if_pos (show (chT b n p, M).fst = 40 from hc), if_neg (show ¬ (chT b n p, M).snd 57 41 = 2 from by show ¬ M 57 41 = 2; omega), show (chT b n p, M).snd 57 41 = op from h41, bnd_eq hop.1 hop.2, show (chT b n p, M).snd 57 42 = p0 from h42, lt_eq, show oU (chT b n p, M).snd 79 op p0 57 41 = op from a1, bnd_eq hop.1 hop.2, show oU (chT b n p, M).snd 79 op p0 57 40 = len from a2, lt_eq, show oU (oU (chT b n p, M).snd 79 op p0) 80 op len 57 41 = op from a3, bnd_eq hop.1 hop.2, show oU (oU (chT b n p, M).snd 79 op p0) 80 op len 57 43 = times from a4, lt_eq, show oU (oU (oU (chT b n p, M).snd 79 op p0) 80 op len) 81 op times 57 41 = op from a5, w1, lt_eq, show oU (oU (oU (oU (chT b n p, M).snd 79 op p0) 80 op len) 81 op times) 57 41 (op + 1) 57 8 = p from a6, w2, lt_eq, show oU (oU (oU (oU (oU (chT b n p, M).snd 79 op p0) 80 op len) 81 op times) 57 41 (op + 1)) 57 8 (p + 1) = M2 from h2.symm, h3, Option.bind_some]
theorem X4_bad {F : Nat} {b : Int → Int} {n p : Int} {M : oM} (h : rdM b n M p) (hc : ¬ (97 ≤ chT b n p ∧ chT b n p ≤ 106)) : p_M_readsItem_X4 F (.inr M) = some (0, oU M 57 10 (-1000 * 1 - p)) := by
  have hh := e_M_here (f := F) h
  have hp := h.2.2.2
  unfold p_M_readsItem_X4
  simp only []
  rw [lt_eq, lt_eq, hh, Option.bind_some, e_M_in, show (decide (97 ≤ (chT b n p, M).fst) && decide ((chT b n p, M).fst ≤ 106)) = false from in_f hc, Option.bind_some, if_pos (show (b01 false, (chT b n p, M).snd).fst = 0 from rfl), show (b01 false, (chT b n p, M).snd).snd 57 8 = p from hp.1, e_wrongB (by decide) (by omega)]
theorem X4_long {F : Nat} {b : Int → Int} {n p p0 len times : Int} {M : oM} (h : rdM b n M p) (hc : 97 ≤ chT b n p ∧ chT b n p ≤ 106) (h42 : M 57 42 = p0) (h43 : M 57 43 = times) (h40 : M 57 40 = len) (hlen : 0 ≤ len ∧ len ≤ 60) (ht : 1 ≤ times ∧ times ≤ 9) (hp0 : 0 ≤ p0 ∧ p0 ≤ 1000) (hl : 60 < len + times) : p_M_readsItem_X4 F (.inr M) = some (0, oU M 57 10 (-1000 * 6 - p0)) := by
  have hh := e_M_here (f := F) h
  unfold p_M_readsItem_X4
  simp only []
  rw [h42, h43, lt_eq, lt_eq, hh, Option.bind_some, e_M_in, show (decide (97 ≤ (chT b n p, M).fst) && decide ((chT b n p, M).fst ≤ 106)) = true from in_t hc, Option.bind_some, if_neg (show ¬ (b01 true, (chT b n p, M).snd).fst = 0 from n10), show (b01 true, (chT b n p, M).snd).snd 57 40 = len from h40, w32_of (a := len + times) (by omega) (by omega), if_pos hl, e_wrongB (by decide) (by omega)]
theorem X4_go {F : Nat} {b : Int → Int} {n p p0 len times c : Int} {M M2 M5 : oM} (h : rdM b n M p) (hcc : chT b n p = c) (hc : 97 ≤ c ∧ c ≤ 106) (h42 : M 57 42 = p0) (h43 : M 57 43 = times) (h40 : M 57 40 = len) (hlen : 0 ≤ len ∧ len ≤ 60) (ht : 1 ≤ times ∧ times ≤ 9) (hl : ¬ 60 < len + times) (h2 : M2 = oU (oU (oU M 78 len (c - 97)) 57 40 (len + 1)) 57 8 (p + 1)) (h5 : p_M_repeats F len times p0 M2 = some (1, M5)) : p_M_readsItem_X4 F (.inr M) = iter (p_M_readsItem_L203 F) F M5 := by
  have hh := e_M_here (f := F) h
  have hp := h.2.2.2
  rw [hcc] at hh
  have a1 : oU M 78 len (c - 97) 57 40 = len := (oU_o (by decide)).trans h40
  have a2 : oU (oU M 78 len (c - 97)) 57 40 (len + 1) 57 8 = p := (oU_i (by decide)).trans ((oU_o (by decide)).trans hp.1)
  have a3 : M2 57 40 = len + 1 := by rw [h2, oU_i (by decide), oU_at]
  unfold p_M_readsItem_X4
  simp only []
  rw [h42, h43, lt_eq, lt_eq, hh, Option.bind_some, e_M_in, show (decide (97 ≤ (c, M).fst) && decide ((c, M).fst ≤ 106)) = true from in_t hc, Option.bind_some, if_neg (show ¬ (b01 true, (c, M).snd).fst = 0 from n10), show (b01 true, (c, M).snd).snd 57 40 = len from h40, w32_of (a := len + times) (by omega) (by omega), if_neg hl, show p_M_here F (b01 true, (c, M).snd).snd = some (c, M) from hh, Option.bind_some, bnd_eq hlen.1 (by omega), show w32 ((c, M).fst - 97) = c - 97 from w32_of (by show -2147483648 ≤ c - 97; omega) (by show c - 97 < 2147483648; omega), lt_eq, show oU (c, M).snd 78 len (c - 97) 57 40 = len from a1, w32_of (a := len + 1) (by omega) (by omega), lt_eq, show oU (oU (c, M).snd 78 len (c - 97)) 57 40 (len + 1) 57 8 = p from a2, w32_of (a := p + 1) (by omega) (by omega), lt_eq, show oU (oU (oU (c, M).snd 78 len (c - 97)) 57 40 (len + 1)) 57 8 (p + 1) = M2 from h2.symm, a3, w32_of (a := len + 1 - 1) (by omega) (by omega), show len + 1 - 1 = len from by omega, h5, Option.bind_some, if_neg (show ¬ ((1 : Int), M5).fst = 0 from n10)]
/-- what a row of items gives: a FAULT, or the place of its end -/
def lsQ (F : Nat) (b : Int → Int) (n : Int) (N0 M0 : oM) (p op len : Int) (M : oM) (q : Int × oM) : Prop := fltR F N0 M0 M (100 - p) q ∨ (q.1 = 0 ∧ ∃ p' len' M', p < p' ∧ rtR b n N0 M0 p' op len' q.2 M' ∧ stkE op M M' ∧ len < len' ∧ (op = 0 → ¬ p' < n) ∧ (0 < op → chT b n p' = 41) ∧ ∀ R, RC F (101 - p') M' R → RT F (100 - p) M R)
def itA (F : Nat) (b : Int → Int) (n : Int) (N0 M0 : oM) (p K op len : Int) (M : oM) (q : Int × oM) : Prop := fltA F N0 M0 M K q ∨ (q.1 = 0 ∧ ∃ p' len' M', p < p' ∧ rtR b n N0 M0 p' op len' q.2 M' ∧ stkE op M M' ∧ len < len' ∧ ∀ R, RC F (101 - p') M' R → RA F K M R)
theorem sub2 : subw [((39 : Nat), (2 : Int)), (40, (-1))] wrC := subw_cons (.tail _ (.tail _ (.head _))) (subw_cons (.tail _ (.tail _ (.tail _ (.head _)))) subw_nil)
theorem sub3 : subw [((57 : Nat), (40 : Int)), (78, (-1))] wrM := subw_cons (.tail _ (.tail _ (.head _))) (subw_cons (.tail _ (.tail _ (.tail _ (.tail _ (.tail _ (.tail _ (.head _))))))) subw_nil)
/-- the letter -/
theorem item_letter {F : Nat} {b : Int → Int} {n p p0 K op len times : Int} {N0 M0 N M : oM} {rec : Int → oM → Option (Int × oM)} (hF : 2000 < F) (hn : n ≤ 60) (hop : 0 ≤ op ∧ op ≤ 2) (hR : rtR b n N0 M0 p op len N M) (h42 : M 57 42 = p0) (h43 : M 57 43 = times) (ht : 1 ≤ times ∧ times ≤ 9) (hp0 : 0 ≤ p0 ∧ p0 ≤ p) (hK : 0 ≤ K ∧ 100 - p ≤ K) (hc : chT b n p ≠ 40) : okp (p_RR_readPaying_B59 F rec op p0 len times N) (itA F b n N0 M0 p K op len M) := by
  obtain ⟨r1, r2, r3, r4, r5, r6, r7⟩ := id hR
  have hch := rdC_ch r1
  have hbd := chT_bd r1
  have hp := r2.2.2.2
  have hL4 := L4_other (F := F) r2 hc
  have hlen := r4.2.2.1
  unfold p_RR_readPaying_B59 p_T_next
  rw [Option.bind_some, if_neg (show ¬ (N 1 4, N).fst = 40 from by show ¬ N 1 4 = 40; rw [hch.1]; exact hc), show p_T_nextOne F (N 1 4, N).snd = _ from e_T_nextOne hch.1 hbd, Option.bind_some]
  generalize hcc : chT b n p = c at *
  by_cases q : 97 ≤ c ∧ c ≤ 106
  · have hpn : p < n := chT_in (b := b) (p := p) (by omega)
    rw [if_pos q, if_neg (show ¬ (c - 97, N).fst < 0 from by show ¬ c - 97 < 0; omega), show (c - 97, N).snd 39 2 = len from r4.1]
    by_cases q60 : len < 60
    · generalize hN2 : oU (oU N 40 len (c - 97)) 39 2 (len + 1) = N2
      generalize hM2 : oU (oU (oU M 78 len (c - 97)) 57 40 (len + 1)) 57 8 (p + 1) = M2
      have e39 : oU N 40 len (c - 97) 39 2 = len := (oU_o (by decide)).trans r4.1
      have rN2 : rdC b n N2 p := by rw [← hN2]; exact rdC_o (rdC_o r1 (by decide) (by decide)) (by decide) (by decide)
      obtain ⟨N3, a1, a2, a3⟩ := e_T_step1 (f := F) rN2 hpn
      have f3 : eqo wrC N0 N3 := by
        refine eqo_tr (subw_cons (.head _) (subw_cons (.tail _ (.head _)) subw_nil)) ?_ a3
        rw [← hN2]
        exact eqo_oU (.tail _ (.tail _ (.head _))) (eqo_oUa (.tail _ (.tail _ (.tail _ (.head _)))) r6)
      have g2 : eqo wrM M0 M2 := by
        rw [← hM2]
        exact eqo_oU (.head _) (eqo_oU (.tail _ (.tail _ (.head _))) (eqo_oUa (.tail _ (.tail _ (.tail _ (.tail _ (.tail _ (.tail _ (.head _))))))) r7))
      have rM2 : rdM b n M2 (p + 1) := by
        rw [← hM2]
        exact rdM_next (rdM_57 (rdM_o r2 (by decide) (by decide)) (by decide) (by decide)) (by omega)
      have hE3 : rwE N3 M2 (len + 1) := by
        refine ⟨(eqo_f a3 39 2 rfl).trans (by rw [← hN2, oU_at]), by rw [← hM2, oU_i (by decide), oU_at], by omega, fun i i0 i1 => ?_⟩
        have eN : N2 40 = oU N 40 len (c - 97) 40 := by rw [← hN2]; exact oU_row (by decide)
        have eM : M2 78 = oU M 78 len (c - 97) 78 := by rw [← hM2, oU_row (by decide), oU_row (by decide)]
        rw [eqo_a a3 40 rfl, eN, eM]
        by_cases z : i = len
        · rw [z, oU_at, oU_at]; omega
        · rw [oU_i z, oU_i z]; exact r4.2.2.2 i i0 (by omega)
      have hB : okp (p_RR_readPaying_B177 F rec p0 len times N2) (itA F b n N0 M0 p K op len M) := by
        unfold p_RR_readPaying_B177
        rw [a1, Option.bind_some]
        rcases rep_ok (f := F) (place := p0) hF hE3 ⟨hlen.1, by omega⟩ ht (by omega) with ⟨k1, k2, k3⟩ | ⟨N5, M5, L, k0, k1, k2, k3, k4, k5, k6⟩
        · rw [show p_RR_repeat F len times ((0 : Int), N3).snd = some (0, N3) from k1, Option.bind_some, if_pos (show ((0 : Int), N3).fst = 0 from rfl), show p_T_faultAt F 6 p0 ((0 : Int), N3).snd = some (-1000 * 6 - p0, N3) from e_T_faultAt (by decide) (by omega), Option.bind_some]
          rw [show len + 1 - len = 1 from by omega, Int.one_mul] at k3
          have hx := X4_long (F := F) r2 (hcc.symm ▸ q) h42 h43 r4.2.1 hlen ht (by omega) k3
          obtain ⟨M'', m1, m2, m3⟩ := flt_end (F := F) (N0 := N0) (N := N3) (M := oU M 57 10 (-1000 * 6 - p0)) (K := K) (q := (0, M)) (x := -1000 * 6 - p0) (by omega) f3 (eqo_oU (.tail _ (.head _)) r7) hK.1 oU_at
          exact .inl ⟨by show -1000 * 6 - p0 ≠ 0; omega, f3, M'', RA_inr hL4 (by omega) hx m1, m2, m3⟩
        · rw [show p_RR_repeat F len times ((0 : Int), N3).snd = some (1, N5) from k1, Option.bind_some, if_neg (show ¬ ((1 : Int), N5).fst = 0 from n10)]
          rw [show len + 1 - len = 1 from by omega, Int.one_mul] at k0
          have hlt : ¬ 60 < len + times := by have := k3.2.2.1; omega
          have hx := X4_go (F := F) r2 hcc q h42 h43 r4.2.1 hlen ht hlt hM2.symm k2
          have e41 : M5 57 41 = op := (eqo_f k6 57 41 rfl).trans (by rw [← hM2, oU_i (by decide), oU_i (by decide), oU_o (by decide)]; exact r5)
          refine .inr ⟨rfl, p + 1, L, M5, by omega, ⟨?_, ?_, by omega, k3, e41, eqo_tr sub2 f3 k5, eqo_tr sub3 g2 k6⟩, fun j j0 j1 => ?_, by omega, fun R hRC => ?_⟩
          · obtain ⟨x1, x2, x3, x4, x5, x6⟩ := a2
            have y1 : N5 1 = N3 1 := eqo_a k5 1 rfl
            have y2 : N5 2 = N3 2 := eqo_a k5 2 rfl
            show rdC b n N5 (p + 1)
            unfold rdC
            rw [y1, y2]
            exact ⟨x1, x2, x3, x4, x5, x6⟩
          · obtain ⟨x1, x2, x3, x4, x5⟩ := rM2
            refine ⟨x1, fun i i0 i1 => ?_, (eqo_f k6 57 9 rfl).trans x3, (eqo_f k6 57 8 rfl).trans x4, x5⟩
            rw [eqo_a k6 63 rfl]; exact x2 i i0 i1
          · refine ⟨?_, ?_, ?_⟩
            · rw [eqo_a k6 79 rfl, ← hM2, oU_o (by decide), oU_o (by decide), oU_o (by decide)]
            · rw [eqo_a k6 80 rfl, ← hM2, oU_o (by decide), oU_o (by decide), oU_o (by decide)]
            · rw [eqo_a k6 81 rfl, ← hM2, oU_o (by decide), oU_o (by decide), oU_o (by decide)]
          · obtain ⟨q', w1, w2⟩ := hRC
            refine RA_inr hL4 (by omega) (hx.trans (w1 F ?_)) (Lm_mono w2 (by omega))
            rw [e41]; omega
      rw [if_pos q60, show p_T_nextOne F (c - 97, N).snd = _ from e_T_nextOne hch.1 hbd, Option.bind_some, if_pos q, bnd_eq hlen.1 q60, lt_eq, show oU (c - 97, (c - 97, N).snd).snd 40 len (c - 97, (c - 97, N).snd).fst 39 2 = len from e39, w32_of (a := len + 1) (by omega) (by omega), lt_eq, show oU (oU (c - 97, (c - 97, N).snd).snd 40 len (c - 97, (c - 97, N).snd).fst) 39 2 (len + 1) = N2 from hN2]
      exact hB
    · have hx := X4_long (F := F) r2 (hcc.symm ▸ q) h42 h43 r4.2.1 hlen ht (by omega) (by omega)
      rw [if_neg q60, show p_T_faultAt F 6 p0 (c - 97, N).snd = some (-1000 * 6 - p0, N) from e_T_faultAt (by decide) (by omega), Option.bind_some]
      obtain ⟨M'', m1, m2, m3⟩ := flt_end (F := F) (N0 := N0) (N := N) (M := oU M 57 10 (-1000 * 6 - p0)) (K := K) (q := (0, M)) (x := -1000 * 6 - p0) (by omega) r6 (eqo_oU (.tail _ (.head _)) r7) hK.1 oU_at
      exact .inl ⟨by show -1000 * 6 - p0 ≠ 0; omega, r6, M'', RA_inr hL4 (by omega) hx m1, m2, m3⟩
  · have hx := X4_bad (F := F) r2 (hcc.symm ▸ q)
    rw [if_neg q, if_pos (show ((-1 : Int), N).fst < 0 from by show (-1 : Int) < 0; decide), show p_T_fault F 1 ((-1 : Int), N).snd = some (-1000 * 1 - p, N) from e_T_fault hch.2.1 (by decide) (by omega), Option.bind_some]
    obtain ⟨M'', m1, m2, m3⟩ := flt_end (F := F) (N0 := N0) (N := N) (M := oU M 57 10 (-1000 * 1 - p)) (K := K) (q := (0, M)) (x := -1000 * 1 - p) (by omega) r6 (eqo_oU (.tail _ (.head _)) r7) hK.1 oU_at
    exact .inl ⟨by show -1000 * 1 - p ≠ 0; omega, r6, M'', RA_inr hL4 (by omega) hx m1, m2, m3⟩
