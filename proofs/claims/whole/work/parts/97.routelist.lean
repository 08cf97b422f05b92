/-! ROUTE: a round, a row of items -/
theorem item_round {F : Nat} {b : Int → Int} {n p p0 K op len times : Int} {N0 M0 N M : oM} {rec : Int → oM → Option (Int × oM)} (hF : 2000 < F) (hn : n ≤ 60) (hop : 0 ≤ op ∧ op ≤ 2) (hR : rtR b n N0 M0 p op len N M) (h42 : M 57 42 = p0) (h43 : M 57 43 = times) (ht : 1 ≤ times ∧ times ≤ 9) (hp0 : 0 ≤ p0 ∧ p0 ≤ p) (hK : 0 ≤ K ∧ 100 - p ≤ K) (hc : chT b n p = 40)
    (hrec : op < 2 → ∀ (p' len' : Int) (N' M' : oM), rtR b n N0 M0 p' (op + 1) len' N' M' → 1 ≤ p' → okp (rec (op + 1) N') (lsQ F b n N0 M0 p' (op + 1) len' M')) : okp (p_RR_readPaying_B59 F rec op p0 len times N) (itA F b n N0 M0 p K op len M) := by
  obtain ⟨r1, r2, r3, r4, r5, r6, r7⟩ := id hR
  have hch := rdC_ch r1
  have hp := r2.2.2.2
  have hlen := r4.2.2.1
  have hpn : p < n := chT_in (b := b) (p := p) (by omega)
  unfold p_RR_readPaying_B59 p_T_next
  rw [Option.bind_some, if_pos (show (N 1 4, N).fst = 40 from hch.1.trans hc)]
  by_cases hop2 : op < 2
  · obtain ⟨N2, a1, a2, a3⟩ := e_T_step1 (f := F) r1 hpn
    generalize hM2 : oU (oU (oU (oU (oU M 79 op p0) 80 op len) 81 op times) 57 41 (op + 1)) 57 8 (p + 1) = M2
    have rM2 : rdM b n M2 (p + 1) := by
      rw [← hM2]
      exact rdM_next (rdM_57 (rdM_o (rdM_o (rdM_o r2 (by decide) (by decide)) (by decide) (by decide)) (by decide) (by decide)) (by decide) (by decide)) (by omega)
    have g2 : eqo wrM M0 M2 := by
      rw [← hM2]
      exact eqo_oU (.head _) (eqo_oU (.tail _ (.tail _ (.tail _ (.head _)))) (eqo_oUa (.tail _ (.tail _ (.tail _ (.tail _ (.tail _ (.tail _ (.tail _ (.tail _ (.tail _ (.head _)))))))))) (eqo_oUa (.tail _ (.tail _ (.tail _ (.tail _ (.tail _ (.tail _ (.tail _ (.tail _ (.head _))))))))) (eqo_oUa (.tail _ (.tail _ (.tail _ (.tail _ (.tail _ (.tail _ (.tail _ (.head _)))))))) r7))))
    have f2 : eqo wrC N0 N2 := eqo_tr (subw_cons (.head _) (subw_cons (.tail _ (.head _)) subw_nil)) r6 a3
    have e41 : M2 57 41 = op + 1 := by rw [← hM2, oU_i (by decide), oU_at]
    have hE2 : rwE N2 M2 len := by
      refine ⟨(eqo_f a3 39 2 rfl).trans r4.1, ?_, hlen, fun i i0 i1 => ?_⟩
      · rw [← hM2, oU_i (by decide), oU_i (by decide), oU_o (by decide), oU_o (by decide), oU_o (by decide)]; exact r4.2.1
      · have eM : M2 78 = M 78 := by rw [← hM2, oU_row (by decide), oU_row (by decide), oU_row (by decide), oU_row (by decide), oU_row (by decide)]
        rw [eqo_a a3 40 rfl, eM]; exact r4.2.2.2 i i0 i1
    have s79 : M2 79 op = p0 := by rw [← hM2, oU_o (by decide), oU_o (by decide), oU_o (by decide), oU_o (by decide), oU_at]
    have s80 : M2 80 op = len := by rw [← hM2, oU_o (by decide), oU_o (by decide), oU_o (by decide), oU_at]
    have s81 : M2 81 op = times := by rw [← hM2, oU_o (by decide), oU_o (by decide), oU_at]
    have sE : ∀ j : Int, j ≠ op → M2 79 j = M 79 j ∧ M2 80 j = M 80 j ∧ M2 81 j = M 81 j := fun j hj => by
      rw [← hM2]
      refine ⟨?_, ?_, ?_⟩
      · rw [oU_o (by decide), oU_o (by decide), oU_o (by decide), oU_o (by decide), oU_i hj]
      · rw [oU_o (by decide), oU_o (by decide), oU_o (by decide), oU_i hj, oU_o (by decide)]
      · rw [oU_o (by decide), oU_o (by decide), oU_i hj, oU_o (by decide), oU_o (by decide)]
    have hR2 : rtR b n N0 M0 (p + 1) (op + 1) len N2 M2 := ⟨a2, rM2, by omega, hE2, e41, f2, g2⟩
    have toRA : ∀ R, RT F (100 - (p + 1)) M2 R → RA F K M R := by
      intro R hRT
      obtain ⟨M3, k1, k2⟩ := hRT
      obtain ⟨p1, t1, N1, M1, -, j2, j3, -⟩ := times_ok (F := F) (rec := rec) hn hR2
      have eM : M3 = M1 := by
        rw [k1] at j2
        exact (Prod.mk.inj (Option.some.inj j2)).2
      have e413 : M3 57 41 = op + 1 := by rw [eM]; exact j3.2.2.2.2.1
      exact RA_inl (L4_open (F := F) r2 hc r5 ⟨hop.1, hop2⟩ h42 r4.2.1 h43 hM2.symm k1) (by rw [e413, r5]) (by omega) (by omega) k2
    rw [if_pos hop2, show p_T_step F (N 1 4, N).snd = some (0, N2) from a1, Option.bind_some, w32_of (a := op + 1) (by omega) (by omega)]
    refine okp_bind' (okp_mono (hrec hop2 (p + 1) len N2 M2 hR2 (by omega)) fun q13 hq => ?_)
    rcases hq with ⟨x1, x2, M'', x3, x4, x5⟩ | ⟨x1, p', len', M', x2, x3, x4, x5, -, x7, x8⟩
    · rw [if_neg x1]
      exact .inl ⟨x1, x2, M'', toRA _ x3, x4, x5⟩
    · obtain ⟨y1, y2, y3, y4, y5, y6, y7⟩ := x3
      have hch' := rdC_ch y1
      have hc' : chT b n p' = 41 := x7 (by omega)
      have hpn' : p' < n := chT_in (b := b) (p := p') (by omega)
      obtain ⟨N4, b1, b2, b3⟩ := e_T_step1 (f := F) y1 hpn'
      have hst := x4 op hop.1 (by omega)
      generalize hM3 : oU (oU M' 57 8 (p' + 1)) 57 41 op = M3
      have rM3 : rdM b n M3 (p' + 1) := by
        rw [← hM3]
        exact rdM_57 (rdM_next y2 (by omega)) (by decide) (by decide)
      have g3 : eqo wrM M0 M3 := by
        rw [← hM3]
        exact eqo_oU (.tail _ (.tail _ (.tail _ (.head _)))) (eqo_oU (.head _) y7)
      have f4 : eqo wrC N0 N4 := eqo_tr (subw_cons (.head _) (subw_cons (.tail _ (.head _)) subw_nil)) y6 b3
      have hE3 : rwE N4 M3 len' := by
        refine ⟨(eqo_f b3 39 2 rfl).trans y4.1, ?_, y4.2.2.1, fun i i0 i1 => ?_⟩
        · rw [← hM3, oU_i (by decide), oU_i (by decide)]; exact y4.2.1
        · have eM : M3 78 = M' 78 := by rw [← hM3, oU_row (by decide), oU_row (by decide)]
          rw [eqo_a b3 40 rfl, eM]; exact y4.2.2.2 i i0 i1
      have hcl := RC_close (F := F) (r := op + 1) (x := len) (y := times) (z := p0) (M3 := M3) y2 y5 (by omega) hc' (by rw [show op + 1 - 1 = op from by omega]; exact hst.2.1.trans s80) (by rw [show op + 1 - 1 = op from by omega]; exact hst.2.2.trans s81) (by rw [show op + 1 - 1 = op from by omega]; exact hst.1.trans s79) (by rw [show op + 1 - 1 = op from by omega]; exact hM3.symm)
      rw [if_pos x1]
      unfold p_RR_readPaying_B177
      rw [b1, Option.bind_some]
      rcases rep_ok (f := F) (place := p0) hF hE3 ⟨hlen.1, x5⟩ ht (by omega) with ⟨k1, k2, k3⟩ | ⟨N5, M5, L, k0, k1, k2, k3, k4, k5, k6⟩
      · rw [k2, Option.bind_some, if_pos (show ((0 : Int), oU M3 57 10 (-1000 * 6 - p0)).fst = 0 from rfl)] at hcl
        rw [show p_RR_repeat F len times ((0 : Int), N4).snd = some (0, N4) from k1, Option.bind_some, if_pos (show ((0 : Int), N4).fst = 0 from rfl), show p_T_faultAt F 6 p0 ((0 : Int), N4).snd = some (-1000 * 6 - p0, N4) from e_T_faultAt (by decide) (by omega), Option.bind_some]
        obtain ⟨M'', m1, m2, m3⟩ := flt_end (F := F) (N0 := N0) (N := N4) (M := oU M3 57 10 (-1000 * 6 - p0)) (K := 101 - p') (q := (0, M)) (x := -1000 * 6 - p0) (by omega) f4 (eqo_oU (.tail _ (.head _)) g3) (by omega) oU_at
        exact .inl ⟨by show -1000 * 6 - p0 ≠ 0; omega, f4, M'', toRA _ (x8 _ ⟨_, Lm_inr hcl (by omega), m1⟩), m2, m3⟩
      · rw [k2, Option.bind_some, if_neg (show ¬ ((1 : Int), M5).fst = 0 from n10)] at hcl
        rw [show p_RR_repeat F len times ((0 : Int), N4).snd = some (1, N5) from k1, Option.bind_some, if_neg (show ¬ ((1 : Int), N5).fst = 0 from n10)]
        have e41' : M5 57 41 = op := (eqo_f k6 57 41 rfl).trans (by rw [← hM3, oU_at])
        have hcl2 : p_M_readsItem_L203 F M' = some (Sum.inl M5) := hcl
        refine .inr ⟨rfl, p' + 1, L, M5, by omega, ⟨?_, ?_, by omega, k3, e41', eqo_tr sub2 f4 k5, eqo_tr sub3 g3 k6⟩, fun j j0 j1 => ?_, by omega, fun R hRC => toRA R (x8 R (RC_inl hcl2 (by rw [e41', y5]) (by omega) (by omega) hRC))⟩
        · obtain ⟨z1, z2, z3, z4, z5, z6⟩ := b2
          have w1 : N5 1 = N4 1 := eqo_a k5 1 rfl
          have w2 : N5 2 = N4 2 := eqo_a k5 2 rfl
          show rdC b n N5 (p' + 1)
          unfold rdC
          rw [w1, w2]
          exact ⟨z1, z2, z3, z4, z5, z6⟩
        · obtain ⟨z1, z2, z3, z4, z5⟩ := rM3
          refine ⟨z1, fun i i0 i1 => ?_, (eqo_f k6 57 9 rfl).trans z3, (eqo_f k6 57 8 rfl).trans z4, z5⟩
          rw [eqo_a k6 63 rfl]; exact z2 i i0 i1
        · have h1 := x4 j j0 (by omega)
          have h2 := sE j (by omega)
          refine ⟨?_, ?_, ?_⟩
          · rw [eqo_a k6 79 rfl, ← hM3, oU_o (by decide), oU_o (by decide), h1.1, h2.1]
          · rw [eqo_a k6 80 rfl, ← hM3, oU_o (by decide), oU_o (by decide), h1.2.1, h2.2.1]
          · rw [eqo_a k6 81 rfl, ← hM3, oU_o (by decide), oU_o (by decide), h1.2.2, h2.2.2]
  · have e2 : op = 2 := by omega
    have hx := L4_deep (F := F) r2 hc (r5.trans e2)
    rw [if_neg hop2, show p_T_fault F 5 (N 1 4, N).snd = some (-1000 * 5 - p, N) from e_T_fault hch.2.1 (by decide) (by omega), Option.bind_some]
    obtain ⟨M'', m1, m2, m3⟩ := flt_end (F := F) (N0 := N0) (N := N) (M := oU M 57 10 (-1000 * 5 - p)) (K := K) (q := (0, M)) (x := -1000 * 5 - p) (by omega) r6 (eqo_oU (.tail _ (.head _)) r7) hK.1 oU_at
    exact .inl ⟨by show -1000 * 5 - p ≠ 0; omega, r6, M'', RA_inr hx (by omega) rfl m1, m2, m3⟩
/-- an item, whole -/
theorem item_ok {F : Nat} {b : Int → Int} {n p op len : Int} {N0 M0 N M : oM} {rec : Int → oM → Option (Int × oM)} (hF : 2000 < F) (hn : n ≤ 60) (hop : 0 ≤ op ∧ op ≤ 2) (hR : rtR b n N0 M0 p op len N M)
    (hrec : op < 2 → ∀ (p' len' : Int) (N' M' : oM), rtR b n N0 M0 p' (op + 1) len' N' M' → 1 ≤ p' → okp (rec (op + 1) N') (lsQ F b n N0 M0 p' (op + 1) len' M')) :
    okp (p_RR_readPaying_F F rec op N) (fun q => fltR F N0 M0 M (100 - p) q ∨ (q.1 = 0 ∧ ∃ p' len' M', p < p' ∧ rtR b n N0 M0 p' op len' q.2 M' ∧ stkE op M M' ∧ len < len' ∧ ∀ R, RC F (101 - p') M' R → RT F (100 - p) M R)) := by
  obtain ⟨p1, times, N1, M1, t1, t2, t3, t4, t5, t6, t7, t8⟩ := times_ok (F := F) (rec := rec) hn hR
  have hp0 := hR.2.1.2.2.2
  have hp1n := t3.2.2.1
  have hA : okp (p_RR_readPaying_B59 F rec op p len times N1) (itA F b n N0 M0 p1 (100 - p) op len M1) := by
    by_cases hc : chT b n p1 = 40
    · exact item_round hF hn hop t3 t6 t7 t5 ⟨by omega, t4⟩ ⟨by omega, by omega⟩ hc hrec
    · exact item_letter hF hn hop t3 t6 t7 t5 ⟨by omega, t4⟩ ⟨by omega, by omega⟩ hc
  rw [t1]
  refine okp_mono hA fun q hq => ?_
  rcases hq with ⟨x1, x2, M'', x3, x4, x5⟩ | ⟨x1, p', len', M', x2, x3, x4, x5, x6⟩
  · exact .inl ⟨x1, x2, M'', ⟨M1, t2, x3⟩, x4, x5⟩
  · refine .inr ⟨x1, p', len', M', by omega, x3, fun j j0 j1 => ?_, x5, fun R hRC => ⟨M1, t2, x6 R hRC⟩⟩
    have h1 := x4 j j0 j1
    have h2 := t8 j
    exact ⟨h1.1.trans h2.1, h1.2.1.trans h2.2.1, h1.2.2.trans h2.2.2⟩
theorem list_loop {F : Nat} {b : Int → Int} {n op : Int} {N0 M0 : oM} {rec : Int → oM → Option (Int × oM)} (hF : 2000 < F) (hn : n ≤ 60) (hop : 0 ≤ op ∧ op ≤ 2)
    (hrec : op < 2 → ∀ (p' len' : Int) (N' M' : oM), rtR b n N0 M0 p' (op + 1) len' N' M' → 1 ≤ p' → okp (rec (op + 1) N') (lsQ F b n N0 M0 p' (op + 1) len' M')) :
    ∀ (j : Nat) (g : Nat) (k p len : Int) (N M : oM), k + (j : Int) = 60 → 0 ≤ k → j < g → ((op = 0 ∧ k ≤ p ∧ p < n) ∨ k + 1 ≤ p) → rtR b n N0 M0 p op len N M → okp (iter (p_RR_readPayings_L2 F rec op) g (k, N)) (lsQ F b n N0 M0 p op len M) := by
  intro j
  induction j with
  | zero =>
    intro g k p len N M hk hk0 hj hcond hR
    have := hR.2.2.1
    omega
  | succ j ih =>
    intro g k p len N M hk hk0 hj hcond hR
    obtain ⟨g, rfl⟩ : ∃ g', g = g' + 1 := ⟨g - 1, by omega⟩
    obtain ⟨q, e, h⟩ := okp_ex (item_ok hF hn hop hR hrec)
    have hpn := hR.2.2.1
    have hp0 := hR.2.1.2.2.2
    rcases h with h | ⟨x1, p', len', M', x2, x3, x4, x5, x6⟩
    · have hs : p_RR_readPayings_L2 F rec op (k, N) = some (.inr q) := by
        unfold p_RR_readPayings_L2
        simp only []
        rw [if_pos (show k < 60 by omega), e, Option.bind_some, if_neg h.1]
      rw [iter_inr hs]
      exact .inl h
    · obtain ⟨x, N'⟩ := q
      simp only at x1 x3
      subst x1
      obtain ⟨y1, y2, y3, y4, y5, y6, y7⟩ := id x3
      have hch := rdC_ch y1
      have hstep : ∀ (hb : ¬ (chT b n p' = 41 ∧ 0 < op)) (hg : p' < n ∨ 0 < op), p_RR_readPayings_L2 F rec op (k, N) = some (.inl (k + 1, N')) → okp (iter (p_RR_readPayings_L2 F rec op) (g + 1) (k, N)) (lsQ F b n N0 M0 p op len M) := by
        intro hb hg hs
        rw [iter_inl hs]
        have hI := ih g (k + 1) p' len' N' M' (by omega) (by omega) (by omega) (by omega) x3
        have hrt : ∀ M1, p_M_readsTimes F M' = some (0, M1) → 0 ≤ M1 57 41 := by
          intro M1 hM1
          obtain ⟨p2, t2, N2, M2, -, j2, j3, -⟩ := times_ok (F := F) (rec := rec) hn x3
          rw [hM1] at j2
          have e2 : M1 = M2 := (Prod.mk.inj (Option.some.inj j2)).2
          rw [e2, j3.2.2.2.2.1]; exact hop.1
        have nx : ∀ R, RT F (100 - p') M' R → RT F (100 - p) M R := by
          intro R hRT
          have h1 := RC_next (K := 100 - p') (r := op) hF (by omega) y2 y5 hop.1 hb hg hrt hRT
          rw [show 100 - p' + 1 = 101 - p' from by omega] at h1
          exact x6 R h1
        refine okp_mono hI fun q2 hq2 => ?_
        rcases hq2 with ⟨z1, z2, M'', z3, z4, z5⟩ | ⟨z1, p2, len2, M2, z2, z3, z4, z5, z6, z7, z8⟩
        · exact .inl ⟨z1, z2, M'', nx _ z3, z4, z5⟩
        · refine .inr ⟨z1, p2, len2, M2, by omega, z3, fun i i0 i1 => ?_, by omega, z6, z7, fun R hRC => nx R (z8 R hRC)⟩
          have h1 := x4 i i0 i1
          have h2 := z4 i i0 i1
          exact ⟨h2.1.trans h1.1, h2.2.1.trans h1.2.1, h2.2.2.trans h1.2.2⟩
      have hw : w32 (k + 1) = k + 1 := w32_of (by omega) (by omega)
      by_cases hop0 : op = 0
      · by_cases hend : p' < n
        · refine hstep (by omega) (.inl hend) ?_
          unfold p_RR_readPayings_L2 p_RR_readPayings_B51_2 p_T_ended
          simp only []
          rw [if_pos (show k < 60 by omega), e, Option.bind_some, if_pos (show ((0 : Int), N').fst = 0 from rfl), if_pos hop0, show ((0 : Int), N').snd 1 3 = p' from hch.2.1, show ((0 : Int), N').snd 1 2 = n from hch.2.2.1, if_pos hend, Option.bind_some, if_pos (show ((0 : Int), ((0 : Int), N').snd).fst = 0 from rfl), hw, lt_eq]
        · have hs : p_RR_readPayings_L2 F rec op (k, N) = some (.inr (0, N')) := by
            unfold p_RR_readPayings_L2 p_RR_readPayings_B51_2 p_T_ended
            simp only []
            rw [if_pos (show k < 60 by omega), e, Option.bind_some, if_pos (show ((0 : Int), N').fst = 0 from rfl), if_pos hop0, show ((0 : Int), N').snd 1 3 = p' from hch.2.1, show ((0 : Int), N').snd 1 2 = n from hch.2.2.1, if_neg hend, Option.bind_some, if_neg (show ¬ ((1 : Int), ((0 : Int), N').snd).fst = 0 from n10)]
          rw [iter_inr hs]
          exact .inr ⟨rfl, p', len', M', x2, x3, x4, x5, fun _ => hend, fun z => by omega, x6⟩
      · by_cases hend : chT b n p' = 41
        · have hs : p_RR_readPayings_L2 F rec op (k, N) = some (.inr (0, N')) := by
            unfold p_RR_readPayings_L2 p_RR_readPayings_B51_2 p_T_next
            simp only []
            rw [if_pos (show k < 60 by omega), e, Option.bind_some, if_pos (show ((0 : Int), N').fst = 0 from rfl), if_neg hop0, Option.bind_some, if_pos (show (((0 : Int), N').snd 1 4, ((0 : Int), N').snd).fst = 41 from hch.1.trans hend)]
          rw [iter_inr hs]
          exact .inr ⟨rfl, p', len', M', x2, x3, x4, x5, fun z => absurd z hop0, fun _ => hend, x6⟩
        · refine hstep (fun z => hend z.1) (.inr (by omega)) ?_
          unfold p_RR_readPayings_L2 p_RR_readPayings_B51_2 p_T_next
          simp only []
          rw [if_pos (show k < 60 by omega), e, Option.bind_some, if_pos (show ((0 : Int), N').fst = 0 from rfl), if_neg hop0, Option.bind_some, if_neg (show ¬ (((0 : Int), N').snd 1 4, ((0 : Int), N').snd).fst = 41 from fun z => hend (hch.1.symm.trans z)), hw, lt_eq]
theorem list_ok {F : Nat} {b : Int → Int} {n : Int} {N0 M0 : oM} (hF : 2000 < F) (hn : n ≤ 60) : ∀ (d lv : Nat) (op p len : Int) (N M : oM), d < lv → op + (d : Int) = 2 → 0 ≤ op → ((op = 0 ∧ 0 ≤ p ∧ p < n) ∨ 1 ≤ p) → rtR b n N0 M0 p op len N M → okp (p_RR_readPayings F lv op N) (lsQ F b n N0 M0 p op len M) := by
  intro d
  induction d with
  | zero =>
    intro lv op p len N M hlv hop hop0 hcond hR
    obtain ⟨lv, rfl⟩ : ∃ l, lv = l + 1 := ⟨lv - 1, by omega⟩
    show okp (iter (p_RR_readPayings_L2 F (p_RR_readPayings F lv) op) F (0, N)) _
    exact list_loop hF hn ⟨by omega, by omega⟩ (fun h => by omega) 60 F 0 p len N M (by decide) (Int.le_refl 0) (by omega) (by omega) hR
  | succ d ih =>
    intro lv op p len N M hlv hop hop0 hcond hR
    obtain ⟨lv, rfl⟩ : ∃ l, lv = l + 1 := ⟨lv - 1, by omega⟩
    show okp (iter (p_RR_readPayings_L2 F (p_RR_readPayings F lv) op) F (0, N)) _
    exact list_loop hF hn ⟨by omega, by omega⟩ (fun h p' len' N' M' hR' hp' => ih lv (op + 1) p' len' N' M' (by omega) (by omega) (by omega) (.inr hp') hR') 60 F 0 p len N M (by decide) (Int.le_refl 0) (by omega) (by omega) hR
