/-! LAW: the call, whole -/
theorem law_new {b : Int → Int} {n p k z : Int} {N1 M1 N M M2 M3 : oM} (hR : lwR b n N1 M1 p k z N M) (h70 : ∀ i : Int, 0 ≤ i → i < z → M2 70 i = M 64 i) (f2 : eqo [(70, (-1))] (oU (oU M 57 7 0) 57 16 k) M2) (h4 : cp4 k M2 M3) (f3 : eqo [(71, (-1)), (72, (-1)), (73, (-1)), (74, (-1))] M2 M3) (hk : 1 ≤ k) : lawR (tkN (oU N 1 1 0)) M3 := by
  obtain ⟨r1, r2, r3, r4, r5, r6, r7, r8, r9⟩ := hR
  obtain ⟨t1, t2, t3⟩ := tkN_rows (N := oU N 1 1 0)
  have e10 : tkN (oU N 1 1 0) 18 10 = k := by rw [t3, oU_o (by decide)]; exact r5.1
  have hrow : ∀ o : Nat, outa [(70, (-1))] o = true → o ≠ 57 → M2 o = M o := fun o h1 h2 => by
    rw [eqo_a f2 o h1, oU_row h2, oU_row h2]
  have h19 : ∀ i : Int, 0 ≤ i → i < 240 → tkN (oU N 1 1 0) 19 i = N 28 i ∧ tkN (oU N 1 1 0) 20 i = N 29 i := fun i i0 i1 => by
    have := t1 i i0 i1
    rw [oU_o (by decide), oU_o (by decide)] at this
    exact this
  have h21 : ∀ i : Int, 0 ≤ i → i < 16 → tkN (oU N 1 1 0) 21 i = N 30 i ∧ tkN (oU N 1 1 0) 22 i = N 31 i ∧ tkN (oU N 1 1 0) 23 i = N 32 i ∧ tkN (oU N 1 1 0) 24 i = N 33 i := fun i i0 i1 => by
    have := t2 i i0 i1
    rw [oU_o (by decide), oU_o (by decide), oU_o (by decide), oU_o (by decide)] at this
    exact this
  unfold lawR
  rw [e10]
  refine ⟨?_, by omega, z, by omega, fun i i0 i1 => ?_, fun q q0 q1 => ?_⟩
  · rw [eqo_f f3 57 16 rfl, eqo_f f2 57 16 rfl, oU_at]
  · have e := h19 i i0 (by omega)
    rw [e.1, e.2, eqo_a f3 70 rfl, h70 i i0 i1]
    exact r6 i i0 i1
  · obtain ⟨k1, k2, k3, k4, k5, k6, k7⟩ := r7 q q0 q1
    obtain ⟨c1, c2, c3, c4⟩ := h4 q q0 q1
    obtain ⟨d1, d2, d3, d4⟩ := h21 q q0 (by omega)
    have hSg : ∀ {a e : Int} {σ : List Bool}, Sg (N 28) (N 29) a e [] σ → 0 ≤ a → e ≤ 240 → Sg (tkN (oU N 1 1 0) 19) (tkN (oU N 1 1 0) 20) a e [] σ := fun h ha he => Sg_congr h fun i i0 i1 => h19 i (by omega) (by omega)
    rw [c1, c2, c3, c4, hrow 66 rfl (by decide), hrow 67 rfl (by decide), hrow 68 rfl (by decide), hrow 69 rfl (by decide), d1, d2, d3, d4]
    exact ⟨k1, k2, k3, k4, by omega, fun h => hSg (k6 h) (by omega) (by omega), hSg k7 (by omega) (by omega)⟩
theorem call_law {f T : Nat} {c n : Int} {Mc Mr : oM} (hf : 2000 < f) (h : Rel T c Mc Mr) : Same f c (p_O_law f n Mc) (p_M_law f n Mr) := by
  obtain ⟨hp, hd, ho, hk, ht, hlaw, h56⟩ := id h
  by_cases hn : 1 ≤ n ∧ n ≤ 240 ∧ n ≤ Mc 1 1
  · obtain ⟨N0, a1, a2, a3⟩ := e_T_opens (f := f) (hi := 240) ht (by decide) hn
    obtain ⟨N1, hN1⟩ : ∃ N1, N1 = oU (oU N0 27 9 0) 27 10 0 := ⟨_, rfl⟩
    obtain ⟨M1, hM1⟩ : ∃ M1, M1 = oU (oU (oU (oU Mr 57 8 0) 57 9 n) 57 13 0) 57 15 0 := ⟨_, rfl⟩
    have t7 : Mr 57 7 = Mc 1 1 := ht.2.1
    have fN1 : eqo lfC Mc N1 := by
      rw [hN1]
      exact eqo_oU (by decide) (eqo_oU (by decide) (eqo_tr (subw_cons (by decide) (subw_cons (by decide) (subw_cons (by decide) subw_nil))) (eqo_rfl _ _) a3))
    have fM1 : eqo lfM Mr M1 := by
      rw [hM1]
      exact eqo_oU (by decide) (eqo_oU (by decide) (eqo_oU (by decide) (eqo_oU (by decide) (eqo_rfl _ _))))
    have hR : lwR (Mc 2) n N1 M1 0 0 0 N1 M1 := by
      refine ⟨?_, ⟨⟨by omega, by omega⟩, fun i i0 i1 => ?_, ?_, ?_, by decide, by decide⟩, by omega, ⟨?_, ?_, by decide, by decide⟩, ⟨?_, ?_, by decide, by decide⟩, fun i i0 i1 => by omega, fun q q0 q1 => by omega, eqo_rfl _ _, eqo_rfl _ _⟩
      · rw [hN1]; exact rdC_o (rdC_o a2 (by decide) (by decide)) (by decide) (by decide)
      · have := ht.2.2 i i0 (by omega)
        rw [eqo_a fM1 63 rfl]
        exact ⟨this.2, this.1⟩
      · rw [hM1, oU_i (by decide), oU_i (by decide), oU_at]
      · rw [hM1, oU_i (by decide), oU_i (by decide), oU_i (by decide), oU_at]
      · rw [hN1, oU_i (by decide), oU_at]
      · rw [hM1, oU_i (by decide), oU_at]
      · rw [hN1, oU_at]
      · rw [hM1, oU_at]
    obtain ⟨q, d1, d2⟩ := okp_ex (laws_ok (F := f) hf 16 f f 0 0 0 N1 M1 (by decide) (by omega) (by omega) hR)
    obtain ⟨q', d3, d4⟩ := okp_ex d2
    have eC : p_O_law f n Mc = if 0 < q.1 then some (q.1, tkN (oU q.2 1 1 0)) else some (q.1, oU q.2 1 1 0) := by
      unfold p_O_law p_LR_read
      rw [a1, Option.bind_some, if_neg (show ¬ ((1 : Int), N0).fst = 0 from n10), lt_eq, lt_eq, show oU (oU ((1 : Int), N0).snd 27 9 0) 27 10 0 = N1 from hN1.symm, d1, Option.bind_some]
      unfold p_T_clear
      rw [lt_eq, Option.bind_some]
      by_cases q0 : 0 < q.1
      · rw [if_pos q0, if_pos q0, show p_L_takeFrom f ((0 : Int), oU q.2 1 1 0).snd = some (0, tkN (oU q.2 1 1 0)) from e_takeFrom, Option.bind_some]
      · rw [if_neg q0, if_neg q0]
    have eM : p_M_law f n Mr = p_M_law_X46 f q' := by
      unfold p_M_law
      rw [e_M_in, in_t (show 1 ≤ n ∧ n ≤ 240 by omega), Option.bind_some, if_neg (show ¬ (b01 true, Mr).fst = 0 from n10), if_neg (show ¬ (b01 true, Mr).snd 57 7 < n from by show ¬ Mr 57 7 < n; omega), lt_eq, lt_eq, lt_eq, lt_eq, show oU (oU (oU (oU (b01 true, Mr).snd 57 8 0) 57 9 n) 57 13 0) 57 15 0 = M1 from hM1.symm]
      have e := d3
      rw [Option.bind_eq_some_iff] at e
      obtain ⟨z, z1, z2⟩ := e
      rw [z1, Option.bind_some, z2, Option.bind_some]
    obtain ⟨x, N⟩ := q
    obtain ⟨x', M⟩ := q'
    have hd' : ∀ Mc' Mr' : oM, Mc' 6 = Mc 6 → Mc' 7 = Mc 7 → Mc' 8 = Mc 8 → Mc' 9 = Mc 9 → Mr' 58 = Mr 58 → dC Mc' 6 (Mr' 58) ∧ rOk T (240 * (c + 1)) (Mr' 58) := by
      intro Mc' Mr' e6 e7 e8 e9 e58
      rw [e58]
      exact ⟨dC_newdebts (D := Mr 58) hd (fun i i0 i1 => by rw [e7]; exact hd.1 i i0 i1) (fun i _ => rfl) e6 e8 e9, rOk_mono ho (by omega)⟩
    rcases d4 with ⟨y1, y2, y3, y4, y5⟩ | ⟨y1, y2, p, z, hR2⟩
    · simp only at y1 y2 y3 y4 y5
      have eC2 : p_O_law f n Mc = some (x, oU N 1 1 0) := by
        rw [eC, if_neg (show ¬ 0 < (x, N).fst from by show ¬ 0 < x; omega)]
      have eM2 : p_M_law f n Mr = some (x, oU M 57 7 0) := by
        rw [eM]
        unfold p_M_law_X46
        simp only []
        rw [lt_eq, if_pos y2, oU_i (by decide), y3]
      have g1 : eqo lfC Mc (oU N 1 1 0) := eqo_oU (by decide) (eqo_tr sub_lfC fN1 y4)
      have g2 : eqo lfM Mr (oU M 57 7 0) := eqo_oU (by decide) (eqo_tr sub_lfM fM1 y5)
      have hD := hd' (oU N 1 1 0) (oU M 57 7 0) (eqo_a g1 6 rfl) (eqo_a g1 7 rfl) (eqo_a g1 8 rfl) (eqo_a g1 9 rfl) (eqo_a g2 58 rfl)
      exact same_upd eC2 eM2 ⟨T, Rel_tape0d h g1 g2 rfl hD.1 hD.2 (oU_at (M := N)) (oU_at (M := M))⟩
    · simp only at y1 y2 hR2
      have hR2' := hR2
      obtain ⟨u1, u2, u3, u4, u5, u6, u7, u8, u9⟩ := hR2
      have eC2 : p_O_law f n Mc = some (x, tkN (oU N 1 1 0)) := by
        rw [eC, if_pos (show 0 < (x, N).fst from y1)]
      have w15 : oU (oU M 57 7 0) 57 16 x 57 15 = x := (oU_i (by decide)).trans ((oU_i (by decide)).trans u5.2.1)
      have w13 : oU (oU M 57 7 0) 57 16 x 57 13 = z := (oU_i (by decide)).trans ((oU_i (by decide)).trans u4.2.1)
      obtain ⟨M2, m1, m2, m3⟩ := copy70 (f := f) hf w13 (by omega)
      obtain ⟨M3, p1, p2, p3⟩ := copy71 (f := f) (M := M2) (z := x) hf ((eqo_f m3 57 15 rfl).trans w15) (by omega)
      have e64 : oU (oU M 57 7 0) 57 16 x 64 = M 64 := by rw [oU_row (by decide), oU_row (by decide)]
      rw [e64] at m2
      have eM2 : p_M_law f n Mr = some (x, M3) := by
        rw [eM]
        unfold p_M_law_X46
        simp only []
        rw [lt_eq, if_neg (by rw [y2]; exact n10), show oU M 57 7 0 57 15 = x from (oU_i (by decide)).trans u5.2.1, lt_eq, m1, Option.bind_some]
        exact p1
      have gN : eqo lcC Mc (oU N 1 1 0) := eqo_oU (by decide) (eqo_tr sub_lcC (eqo_rfl _ _) (eqo_tr sub_lfC fN1 u8))
      have g1 := tkN_fr gN
      have gM : eqo lcM Mr (oU (oU M 57 7 0) 57 16 x) := eqo_oU (by decide) (eqo_oU (by decide) (eqo_tr sub_lcM (eqo_rfl _ _) (eqo_tr sub_lfM fM1 u9)))
      have g2 : eqo lcM Mr M3 := eqo_tr (subw_cons (by decide) (subw_cons (by decide) (subw_cons (by decide) (subw_cons (by decide) subw_nil)))) (eqo_tr (subw_cons (by decide) subw_nil) gM m3) p3
      have hD := hd' (tkN (oU N 1 1 0)) M3 (eqo_a g1 6 rfl) (eqo_a g1 7 rfl) (eqo_a g1 8 rfl) (eqo_a g1 9 rfl) (eqo_a g2 58 rfl)
      refine same_upd eC2 eM2 ⟨T, Rel_law h g1 g2 rfl hD.1 hD.2 ?_ ?_ (law_new hR2' m2 m3 p2 p3 (by omega))⟩
      · unfold tkN
        rw [oU_o (by decide), oU_o (by decide), acopy_o (by decide), acopy_o (by decide), acopy_o (by decide), acopy_o (by decide), acopy_o (by decide), acopy_o (by decide), oU_at]
      · rw [eqo_f p3 57 7 rfl, eqo_f m3 57 7 rfl, oU_i (by decide), oU_at]
  · refine same_some (r := -1) h ?_ ?_
    · unfold p_O_law
      rw [e_T_opens_no hn, Option.bind_some, if_pos (show ((0 : Int), Mc).fst = 0 from rfl)]
    · unfold p_M_law
      rw [e_M_in, Option.bind_some]
      by_cases z : 1 ≤ n ∧ n ≤ 240
      · have := ht.2.1
        rw [in_t z, if_neg (show ¬ (b01 true, Mr).fst = 0 from n10), if_pos (show (b01 true, Mr).snd 57 7 < n from by show Mr 57 7 < n; omega)]
      · rw [in_f z, if_pos (show (b01 false, Mr).fst = 0 from rfl)]
