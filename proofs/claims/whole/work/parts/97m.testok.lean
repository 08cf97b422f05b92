/-! THE LAW: the NOTs are put; a test by both -/
theorem nu_op {b : Int → Int} {n p z e w op op' : Int} {N0 M0 N M : oM} (h : nuR b n N0 M0 p z e w op N M) (ho : 0 ≤ op' ∧ op' ≤ 6) : nuR b n N0 M0 p z e w op' N (oU M 57 12 op') := by
  obtain ⟨h1, h2, h3, h4, h5, h6, h7, h8⟩ := h
  refine ⟨h1, rdM_57 h2 (by decide) (by decide), h3, ⟨h4.1, ?_, h4.2.2⟩, ⟨?_, h5.2⟩, ⟨oU_at, ho⟩, h7, eqo_oU (.tail _ (.tail _ (.tail _ (.head _)))) h8⟩
  · rw [oU_i (by decide)]; exact h4.2.1
  · rw [oU_i (by decide)]; exact h5.1
theorem cl_not {f : Nat} {b : Int → Int} {n p z e w op : Int} {N0 M0 N M : oM} (h : nuR b n N0 M0 p z e w op N M) (he : 1 ≤ e) (hw : 1 ≤ w) (hop : 1 ≤ op) (htop : topIs M w 10) : ∃ M2, p_M_endsPiece_L0 f M = some (.inl M2) ∧ nuR b n N0 M0 p (z + 1) (e - 1) (w - 1) (op - 1) (putN N z 33 0) M2 ∧ ext z (z + 1) [true] [true] N M (putN N z 33 0) M2 ∧ M2 65 = M 65 := by
  obtain ⟨h1, h2, h3, h4, h5, h6, h7, h8⟩ := id h
  have hn : nuR b n N0 M0 p (z + 1) (e - 1) (w - 1) (op - 1) (putN N z 33 0) (oU (oU (putM M z 10 0) 57 14 (w - 1)) 57 12 (op - 1)) := nu_op (nu_pop (x := 33) (c := 10) h he hw) (by omega)
  have a1 : (putM M z 10 0) 57 14 = w := by unfold putM; rw [oU_i (by decide), oU_o (by decide)]; exact h5.1
  have a2 : oU (putM M z 10 0) 57 14 (w - 1) 57 12 = op := by unfold putM; rw [oU_i (by decide), oU_i (by decide), oU_o (by decide)]; exact h6.1
  refine ⟨_, ?_, hn, ext_right (ext_put (c := 10) rfl (by decide) fun s d hs hd => Sg_not (by decide) hs) rfl rfl (by rw [oU_row (by decide), oU_row (by decide)]), ?_⟩
  · unfold p_M_endsPiece_L0
    simp only []
    rw [e_waitTop h5.1 (by omega) htop, Option.bind_some, if_pos (show ((10 : Int), M).fst = 10 from rfl), show p_M_notes f 10 0 ((10 : Int), M).snd = some (0, putM M z 10 0) from e_notes h4.2.1 (by omega) (by decide) (by decide), Option.bind_some, show ((0 : Int), putM M z 10 0).snd 57 14 = w from a1, w32_of (a := w - 1) (by omega) (by omega), lt_eq, show oU ((0 : Int), putM M z 10 0).snd 57 14 (w - 1) 57 12 = op from a2, w32_of (a := op - 1) (by omega) (by omega), lt_eq]
  · rw [oU_row (by decide), oU_row (by decide), putM_65]
theorem cl_notend {f : Nat} {w t : Int} {M : oM} (hw : M 57 14 = w) (hb : 0 ≤ w ∧ w ≤ 250) (h : topIs M w t) (ht : t ≠ 10) : p_M_endsPiece_L0 f M = some (.inr (0, M)) := by
  unfold p_M_endsPiece_L0
  simp only []
  rw [e_waitTop hw hb h, Option.bind_some, if_neg (show ¬ (t, M).fst = 10 from ht)]
def noI (b : Int → Int) (n : Int) (N0 M0 : oM) (p z e w op : Int) (N M : oM) (m k : Nat) (s : Int × oM) (M1 : oM) : Prop := s.1 = (k : Int) ∧ nuR b n N0 M0 p (z + k) (e + (m - k)) (w + (m - k)) (op + (m - k)) s.2 M1 ∧ ext z (z + k) [true] [true] N M s.2 M1 ∧ M1 65 = M 65
theorem nots_out {f m : Nat} {b : Int → Int} {n p z e w op l3 t : Int} {N0 M0 N M : oM} {rec : Int → oM → Option (Int × oM)} (hf : 2000 < f) (hm : m ≤ 6) (hb : 0 ≤ e ∧ 0 ≤ w ∧ 0 ≤ op) (hR : nuR b n N0 M0 p z (e + m) (w + m) (op + m) N M) (h10 : ∀ j : Int, w ≤ j → j < w + m → M 65 j = 1048576 * 10) (htop : topIs M w t) (ht : t ≠ 10) :
    okp (iter (p_LR_readTest_L67 f rec m l3) f (0, N)) (fun q => okp (p_M_endsPiece f M) (fun q' => q.1 = l3 ∧ q'.1 = 0 ∧ nuR b n N0 M0 p (z + m) e w op q.2 q'.2 ∧ ext z (z + m) [true] [true] N M q.2 q'.2 ∧ q'.2 65 = M 65)) := by
  have hm6 : (m : Int) ≤ 6 := Int.ofNat_le.mpr hm
  unfold p_M_endsPiece
  refine for2_ok m (noI b n N0 M0 p z e w op N M m) (fun k s M1 hk hI => ?_) (fun s M1 hI => ?_) f f (by omega) (by omega) ⟨rfl, ?_, ?_, rfl⟩
  · obtain ⟨j, N1⟩ := s
    obtain ⟨i1, i2, i3, i4⟩ := hI
    simp only at i1 i2 i3 i4
    have hkm : (k : Int) < m := nat_lt hk
    obtain ⟨M2, a1, a2, a3, a4⟩ := cl_not (f := f) i2 (by omega) (by omega) (by omega) (topIs_at (by omega) (by decide) (by rw [i4]; exact h10 _ (by omega) (by omega)))
    obtain ⟨h1, h2, h3, h4, h5, h6, h7, h8⟩ := id i2
    unfold p_LR_readTest_L67
    simp only []
    rw [i1, if_pos hkm, e_put (x := 33) (y := 0) h4.1 (by omega), Option.bind_some, w32_of (a := (k : Int) + 1) (by omega) (by omega), lt_eq, a1]
    have ek : ((k + 1 : Nat) : Int) = (k : Int) + 1 := rfl
    refine ⟨rfl, ?_, ?_, a4.trans i4⟩
    · show nuR b n N0 M0 p (z + ((k + 1 : Nat) : Int)) (e + (m - ((k + 1 : Nat) : Int))) (w + (m - ((k + 1 : Nat) : Int))) (op + (m - ((k + 1 : Nat) : Int))) _ M2
      rw [ek, ← Int.add_assoc, show e + ((m : Int) - (k + 1)) = e + (m - k) - 1 from by omega, show w + ((m : Int) - (k + 1)) = w + (m - k) - 1 from by omega, show op + ((m : Int) - (k + 1)) = op + (m - k) - 1 from by omega]
      exact a2
    · show ext z (z + ((k + 1 : Nat) : Int)) [true] [true] N M _ M2
      rw [ek, ← Int.add_assoc]
      exact ext_trans i3 a3
  · obtain ⟨j, N1⟩ := s
    obtain ⟨i1, i2, i3, i4⟩ := hI
    simp only at i1 i2 i3 i4
    rw [Int.sub_self, Int.add_zero, Int.add_zero, Int.add_zero] at i2
    have hn240 := i2.2.2.1
    have hw := i2.2.2.2.2.1
    unfold p_LR_readTest_L67
    simp only []
    rw [i1, if_neg (Int.lt_irrefl _), cl_notend hw.1 (by omega) (topIs_row htop i4) ht]
    exact ⟨rfl, rfl, i2, i3, i4⟩
  · show nuR b n N0 M0 p (z + ((0 : Nat) : Int)) (e + (m - ((0 : Nat) : Int))) (w + (m - ((0 : Nat) : Int))) (op + (m - ((0 : Nat) : Int))) N M
    rw [show ((0 : Nat) : Int) = 0 from rfl, Int.add_zero, Int.sub_zero]
    exact hR
  · show ext z (z + ((0 : Nat) : Int)) [true] [true] N M N M
    rw [show ((0 : Nat) : Int) = 0 from rfl, Int.add_zero]
    exact ext_refl rfl rfl rfl
theorem nots_fault {f m : Nat} {l3 : Int} {N0 N : oM} {rec : Int → oM → Option (Int × oM)} (hf : 2000 < f) (hm : m ≤ 6) (h : eqo lgC N0 N ∧ 0 ≤ N 27 9) : okp (iter (p_LR_readTest_L67 f rec m l3) f (0, N)) (fun q => q.1 = l3 ∧ eqo lgC N0 q.2 ∧ 0 ≤ q.2 27 9) := by
  have hm6 : (m : Int) ≤ 6 := Int.ofNat_le.mpr hm
  refine for_ok m (fun (k : Nat) (s : Int × oM) => s.1 = (k : Int) ∧ eqo lgC N0 s.2 ∧ 0 ≤ s.2 27 9) (fun k s hk hI => ?_) (fun s hI => ?_) f (by omega) ⟨rfl, h⟩
  · obtain ⟨j, N1⟩ := s
    obtain ⟨i1, i2⟩ := hI
    simp only at i1 i2
    have hkm : (k : Int) < m := nat_lt hk
    obtain ⟨r, N', a1, a2⟩ := e_putany (f := f) (x := 33) (y := 0) i2
    unfold p_LR_readTest_L67
    simp only []
    rw [i1, if_pos hkm, a1, Option.bind_some, w32_of (a := (k : Int) + 1) (by omega) (by omega), lt_eq]
    exact ⟨rfl, a2⟩
  · obtain ⟨j, N1⟩ := s
    obtain ⟨i1, i2⟩ := hI
    simp only at i1 i2
    unfold p_LR_readTest_L67
    simp only []
    rw [i1, if_neg (Int.lt_irrefl _)]
    exact ⟨rfl, i2⟩
/-! a test -/
def cndQ (f : Nat) (b : Int → Int) (n : Int) (N0 M0 : oM) (p z e w op : Int) (N M : oM) (q : Int × oM) : Prop := cftQ f N0 M0 p M q ∨
  (q.1 = 0 ∧ ∃ p' z' M', p < p' ∧ nuR b n N0 M0 p' z' e (w - 1) (op - 1) q.2 M' ∧ ext z z' [] [true] N M q.2 M' ∧ wtE (w - 1) M M' ∧ (w - 1 = 0 → TT f (300 - p) M (1, M')) ∧ (w - 1 ≠ 0 → ∀ M2 R, p_M_endsPiece f M' = some (0, M2) → TB f (300 - p') M2 R → TT f (300 - p) M R))
def tstQ (f : Nat) (b : Int → Int) (n : Int) (N0 M0 : oM) (p z e w op : Int) (N M : oM) (q : Int × oM) : Prop := cftQ f N0 M0 p M q ∨
  (q.1 = 0 ∧ ∃ p' z' M', p < p' ∧ nuR b n N0 M0 p' z' e w op q.2 M' ∧ ext z z' [] [true] N M q.2 M' ∧ wtE w M M' ∧ ∀ R, TB f (300 - p') M' R → TT f (300 - p) M R)
def chQ (f : Nat) (b : Int → Int) (n : Int) (N0 M0 : oM) (op : Int) (rec : Int → oM → Option (Int × oM)) : Prop := ∀ (op1 p1 z1 e1 w1 : Int) (N1 M1 : oM), op < op1 → nuR b n N0 M0 p1 z1 e1 w1 op1 N1 M1 → 1 ≤ w1 → M1 65 (w1 - 1) = 1048576 * 13 → okp (rec op1 N1) (cndQ f b n N0 M0 p1 z1 e1 w1 op1 N1 M1)
/-- what a test without signs gives; then the NOTs that wait are put -/
def plnQ (f : Nat) (b : Int → Int) (n : Int) (N0 M0 : oM) (p z e w op : Int) (N M : oM) (q : Int × oM) : Prop := cftQ f N0 M0 p M q ∨
  (q.1 = 0 ∧ ∃ p' z' M', p < p' ∧ nuR b n N0 M0 p' z' e w op q.2 M' ∧ ext z z' [] [true] N M q.2 M' ∧ wtE w M M' ∧ ∀ M2 R, p_M_endsPiece f M' = some (0, M2) → TB f (300 - p') M2 R → TT f (300 - p) M R)
theorem pln_ok {f : Nat} {b : Int → Int} {n p z e w op : Int} {N0 M0 N M : oM} {rec : Int → oM → Option (Int × oM)} (hf : 2000 < f) (hR : nuR b n N0 M0 p z e w op N M) (hw : 1 ≤ w) (hbt : botT M w) (h33 : chT b n p ≠ 33) (hrec : chQ f b n N0 M0 op rec) : okp (p_LR_readPlainTest_F f rec op N) (plnQ f b n N0 M0 p z e w op N M) := by
  obtain ⟨h1, h2, h3, h4, h5, h6, h7, h8⟩ := id hR
  have hch := rdC_ch h1
  unfold p_LR_readPlainTest_F
  rw [e_next h1, Option.bind_some]
  by_cases q1 : chT b n p = 40
  · rw [if_pos (show (chT b n p, N).fst = 40 from q1)]
    by_cases q6 : op < 6
    · have hpn : p < n := chT_in (b := b) (p := p) (by omega)
      obtain ⟨N2, M9, a1, a2, a3, a4, a5, a6, a7, a8⟩ := nu_open (f := f) (e' := e) (c := 13) hR hpn q6 (by omega) (by decide)
      rw [if_pos q6, show p_T_step f (chT b n p, N).snd = _ from a1, Option.bind_some, w32_of (a := op + 1) (by omega) (by omega)]
      have hgo : ∀ {R : Int × oM}, TT f (300 - (p + 1)) M9 R → TT f (300 - p) M R := fun h => TT_inl ((L40_par h2 q1).trans (e_B75 a2)) (by omega) h
      refine okp_bind' (okp_mono (hrec (op + 1) (p + 1) z e (w + 1) N2 M9 (by omega) a3 (by omega) (by rw [show w + 1 - 1 = w from by omega]; exact a7)) fun q hq => ?_)
      rcases hq with ⟨g1, g2, M'', g3, g4, g5⟩ | ⟨g1, p', z', M', g2, g3, g4, g5, g6, g7⟩
      · exact .inl ⟨g1, g2, M'', hgo g3, g4, g5⟩
      · rw [show w + 1 - 1 = w from by omega, show op + 1 - 1 = op from by omega] at g3
        rw [show w + 1 - 1 = w from by omega] at g5 g7
        refine .inr ⟨g1, p', z', M', by omega, g3, ext_left g4 a4 a5 a6, fun j hj => by rw [g5 j hj]; exact a8 j (by omega), fun M2 R e1 e2 => hgo (g7 (by omega) M2 R e1 e2)⟩
    · rw [if_neg q6, show p_T_fault f 5 (chT b n p, N).snd = _ from e_T_fault hch.2.1 (by decide) hch.2.2.2.1, Option.bind_some]
      exact .inl ⟨by show -1000 * 5 - p < 0; omega, nu_fl hR, oU M 57 10 (-1000 * 5 - p), Lm_inr ((L40_par h2 q1).trans (e_B75no h2.2.2.2.1 h2.2.2.2.2 (by omega))) (by omega), oU_at, wrongM (N0 := N0) h8⟩
  · rw [if_neg (show ¬ (chT b n p, N).fst = 40 from q1)]
    refine okp_mono (cmp_ok hf hR hbt) fun q hq => ?_
    rcases hq with ⟨g1, g2, M'', g3, g4, g5⟩ | ⟨g1, p', z', M3, g2, g3, g4, g5, g6⟩
    · exact .inl ⟨g1, g2, M'', TT_cmp0 h2 h33 q1 g3 (by omega), g4, g5⟩
    · have hn240 := g3.2.2.1
      exact .inr ⟨g1, p', z', M3, g2, g3, g4, g5, fun M2 R e1 e2 => TT_cmp hf h2 h33 q1 (g6 M2 e1) (by omega) e2⟩
theorem tst_ok {f : Nat} {b : Int → Int} {n p z e w op t : Int} {N0 M0 N M : oM} {rec : Int → oM → Option (Int × oM)} (hf : 2000 < f) (hR : nuR b n N0 M0 p z e w op N M) (hw : 1 ≤ w) (ht : topIs M w t) (ht2 : 10 < t) (hrec : chQ f b n N0 M0 op rec) : okp (p_LR_readTest_F f rec op N) (tstQ f b n N0 M0 p z e w op N M) := by
  have hb : 0 ≤ p ∧ 0 ≤ e ∧ 0 ≤ w ∧ 0 ≤ op := ⟨hR.2.1.2.2.2.2.1, hR.2.2.2.1.2.2.2.1, hR.2.2.2.2.1.2.1, hR.2.2.2.2.2.1.2.1⟩
  unfold p_LR_readTest_F
  refine okp_bind' (okp_mono (nots_in (rec := rec) hf hR) fun x hx => ?_)
  rcases hx with ⟨q, rfl, g1, g2, M'', g3, g4, g5⟩ | ⟨m, N1, M1, rfl, hm, hI, h33⟩
  · exact Or.inl ⟨g1, g2, M'', g3, g4, g5⟩
  · have j1 := hI.1
    have j2 := hI.2.1
    have j3 := hI.2.2.1
    have j4 := hI.2.2.2.1
    have j5 := hI.2.2.2.2
    have hm6 : (m : Int) ≤ 6 := Int.ofNat_le.mpr hm
    have j6 := j1.2.2.2.2.2.1
    have hbt : botT M1 (w + m) := by
      by_cases q : (m : Int) = 0
      · rw [q, Int.add_zero]
        exact botT_wt ⟨t, ht, .inr (by omega)⟩ j3
      · exact ⟨10, topIs_at (by omega) (by decide) (j4 _ (by omega) (by omega)), .inr (by decide)⟩
    show okp ((p_LR_readPlainTest_F f rec (w32 (op + m)) N1).bind fun q3 => iter (p_LR_readTest_L67 f rec m q3.1) f (0, q3.2)) _
    rw [w32_of (a := op + (m : Int)) (by omega) (by omega)]
    refine okp_bind' (okp_mono (pln_ok (rec := rec) hf j1 (by omega) hbt h33 (fun op1 p1 z1 e1 w1 N2 M2 ho => hrec op1 p1 z1 e1 w1 N2 M2 (by omega))) fun q hq => ?_)
    rcases hq with ⟨g1, g2, M'', g3, g4, g5⟩ | ⟨g1, p', z', M', g2, g3, g4, g5, g6⟩
    · refine okp_mono (nots_fault (l3 := q.1) (rec := rec) hf hm g2) fun y hy => ?_
      exact .inl ⟨by rw [hy.1]; exact g1, hy.2, M'', j5 _ g3, g4.trans hy.1.symm, g5⟩
    · have e10 : ∀ j : Int, w ≤ j → j < w + m → M' 65 j = 1048576 * 10 := fun j g0 g1 => (g5 j g1).trans (j4 j g0 g1)
      have htop : topIs M' w t := by
        unfold topIs at ht ⊢
        rw [g5 (w - 1) (by omega), j3 (w - 1) (by omega)]
        exact ht
      refine okp_mono (nots_out (l3 := q.1) (rec := rec) hf hm ⟨hb.2.1, hb.2.2.1, hb.2.2.2⟩ g3 e10 htop (by omega)) fun y hy => ?_
      obtain ⟨y', y0, y1, y2, y3, y4, y5⟩ := okp_ex hy
      have ey : y' = (0, y'.2) := by rw [← y2]
      rw [ey] at y0
      exact .inr ⟨y1.trans g1, p', z' + m, y'.2, by omega, y3, ext_trans (ext_left g4 j2.1 j2.2.1 j2.2.2) y4, fun j hj => by rw [y5, g5 j (by omega)]; exact j3 j hj, fun R hS => j5 R (g6 y'.2 R y0 hS)⟩
