/-! an hour goes by: tick and hourGoes -/
def arR (N M : oM) : Prop := N 41 5 = p21 (M 57 35) ∧ (M 57 35 = -2 ∨ (0 ≤ M 57 35 ∧ M 57 35 < 10))
theorem tk_mono {T o : Nat} {h h' : Int} {N M : oM} (hR : tkR T h o N M) (hh : h ≤ h') : tkR T h' o N M := ⟨hR.1, hR.2.1, hR.2.2.1, rOk_mono hR.2.2.2 hh⟩
theorem rOk_hour {T : Nat} {h : Int} {D : Int → Int} (hd : rOk T h D) : (0 ≤ D 155 ∧ D 155 ≤ 23) ∧ (0 ≤ D 156 ∧ 24 * D 156 + D 155 ≤ h) := by
  obtain ⟨h1, h2, h3, h4, h5, h6, h7, h8, h9, h10, h11, h12, h13⟩ := hd
  exact ⟨h10, h11⟩
theorem dC_hour {M : oM} {o : Nat} {D : Int → Int} (hc : dC M o D) : M o 8 = D 155 ∧ M o 9 = D 156 := by
  obtain ⟨g1, g2, g3, g4, g5, g6, g7, g8, g9, g10, g11, g12⟩ := hc
  exact ⟨g9, g10⟩
def hrR (M M' : oM) : Prop := (M 58 155 + 1 < 24 → M' 58 155 = M 58 155 + 1 ∧ M' 58 156 = M 58 156) ∧ (¬ M 58 155 + 1 < 24 → M' 58 155 = 0 ∧ M' 58 156 = M 58 156 + 1)
theorem hour_end {f o T : Nat} {h : Int} {P : Prop} {N M : oM} (hh0 : h ≤ 200000) (ho : o ≤ 14 ∧ 6 ≤ o) (hR : tkR T (h + 1) o N M) (hc : cnt P N M) (ha : arR N M) (ht : 24 * M 58 156 + M 58 155 ≤ h) :
    okp (p_C_tick_B80 f o N) (fun q => okp (p_M_hourGoes_B125 f M) (fun q' => tkR T (h + 1) o q.2 q'.2 ∧ cnt P q.2 q'.2 ∧ arR q.2 q'.2 ∧ hrR M q'.2)) := by
  obtain ⟨hp, hl, hd⟩ := id hR
  have hb := rOk_hour hd.2
  obtain ⟨c8, c9⟩ := dC_hour hd.1
  have hb4 := hd.2.2.2.2.1
  have w1 : w32 (M 58 155 + 1) = M 58 155 + 1 := w32_of (by omega) (by omega)
  have w2 : w32 (M 58 156 + 1) = M 58 156 + 1 := w32_of (by omega) (by omega)
  unfold p_C_tick_B80 p_M_hourGoes_B125
  rw [c8, w1, lt_eq, oU_at]
  -- a row with hour x and day y
  have key : ∀ x y : Int, (0 ≤ x ∧ x ≤ 23) → (0 ≤ y ∧ 24 * y + x ≤ h + 1) → rOk T (h + 1) (sD (sD (M 58) 155 x) 156 y) := by
    intro x y hx hy
    obtain ⟨h1, h2, h3, h4, h5, h6, h7, h8, h9, h10, h11, h12, h13⟩ := hd.2
    unfold rOk
    simp (disch := omega) only [sD_ne, sD_at]
    refine ⟨fun i i0 i1 => ?_, fun a b a0 a1 b0 b1 => ?_, fun i i0 i1 => ?_, h4, fun i i0 i1 => ?_, h6, h7, h8, h9, hx, hy, h12, h13⟩
    · simp (disch := omega) only [sD_ne]; exact h1 i i0 i1
    · simp (disch := omega) only [sD_ne]; exact h2 a b a0 a1 b0 b1
    · simp (disch := omega) only [sD_ne]; exact h3 i i0 i1
    · simp (disch := omega) only [sD_ne]; exact h5 i i0 i1
  by_cases q : M 58 155 + 1 < 24
  · rw [if_neg (by omega), bnd_eq (by omega) (by omega), bnd_eq (by omega) (by omega), w1, lt_eq, bnd_eq (by omega) (by omega), oU_at, if_pos q]
    refine ⟨?_, ?_, ?_, ?_⟩
    · refine tk_field (w := [(58, (-1))]) hp hl ho (eqo_oUa (.head _) (eqo_rfl _ _)) (eqo_oUa (.head _) (eqo_rfl _ _)) rfl ⟨?_, ?_⟩
      · obtain ⟨g1, g2, g3, g4, g5, g6, g7, g8, g9, g10, g11, g12⟩ := hd.1
        unfold dC
        simp only []
        rw [oU_sD]
        simp (disch := omega) only [sD_ne, sD_at, oU_o, oU_at, oU_i]
        refine ⟨fun i i0 i1 => ?_, fun i i0 i1 => ?_, fun i i0 i1 => ?_, g4, g5, g6, g7, g8, trivial, g10, g11, g12⟩
        · rw [sD_ne (by omega)]; exact g1 i i0 i1
        · rw [sD_ne (by omega)]; exact g2 i i0 i1
        · rw [sD_ne (by omega)]; exact g3 i i0 i1
      · show rOk T (h + 1) (oU M 58 155 (M 58 155 + 1) 58)
        rw [oU_sD]
        refine rOk_congr (key (M 58 155 + 1) (M 58 156) (by omega) (by omega)) fun i i0 i1 => ?_
        by_cases hi : i = 156
        · subst hi; rw [sD_at, sD_ne (by omega)]
        · rw [sD_ne (k := 156) hi]
    · intro hP
      simp (disch := omega) only [oU_o]
      exact hc hP
    · unfold arR
      simp (disch := omega) only [oU_o]
      exact ha
    · refine ⟨fun _ => ⟨?_, ?_⟩, fun z => absurd q z⟩
      · show oU M 58 155 (M 58 155 + 1) 58 155 = _
        rw [oU_at]
      show oU M 58 155 (M 58 155 + 1) 58 156 = _
      rw [oU_i (by omega)]
  · rw [if_pos (by omega), lt_eq, lt_eq, bnd_eq (by omega) (by omega), bnd_eq (by omega) (by omega), w1, lt_eq, bnd_eq (by omega) (by omega), oU_at, if_neg q, bnd_eq (by omega) (by omega), lt_eq, bnd_eq (by omega) (by omega), bnd_eq (by omega) (by omega), lt_eq]
    simp (disch := omega) only [oU_i, c9, w2]
    refine ⟨?_, ?_, ?_, ?_⟩
    · refine tk_field (w := [(58, (-1))]) hp hl ho (eqo_oUa (.head _) (eqo_oUa (.head _) (eqo_oUa (.head _) (eqo_rfl _ _)))) (eqo_oUa (.head _) (eqo_oUa (.head _) (eqo_oUa (.head _) (eqo_rfl _ _)))) rfl ⟨?_, ?_⟩
      · obtain ⟨g1, g2, g3, g4, g5, g6, g7, g8, g9, g10, g11, g12⟩ := hd.1
        unfold dC
        simp only []
        rw [oU_sD, oU_sD, oU_sD]
        simp (disch := omega) only [sD_ne, sD_at, oU_o, oU_at, oU_i]
        refine ⟨fun i i0 i1 => ?_, fun i i0 i1 => ?_, fun i i0 i1 => ?_, g4, g5, g6, g7, g8, trivial, trivial, g11, g12⟩
        · simp (disch := omega) only [sD_ne]; exact g1 i i0 i1
        · simp (disch := omega) only [sD_ne]; exact g2 i i0 i1
        · simp (disch := omega) only [sD_ne]; exact g3 i i0 i1
      · show rOk T (h + 1) (oU (oU (oU M 58 155 (M 58 155 + 1)) 58 155 0) 58 156 (M 58 156 + 1) 58)
        rw [oU_sD, oU_sD, oU_sD]
        refine rOk_congr (key 0 (M 58 156 + 1) (by omega) (by omega)) fun i i0 i1 => ?_
        by_cases hi : i = 156
        · subst hi; rw [sD_at, sD_at]
        · rw [sD_ne (k := 156) hi, sD_ne (k := 156) hi]
          by_cases hj : i = 155
          · subst hj; rw [sD_at, sD_at]
          · rw [sD_ne hj, sD_ne hj, sD_ne hj]
    · intro hP
      simp (disch := omega) only [oU_o]
      exact hc hP
    · unfold arR
      simp (disch := omega) only [oU_o]
      exact ha
    · refine ⟨fun z => absurd z q, fun _ => ⟨?_, ?_⟩⟩
      · show oU (oU (oU M 58 155 (M 58 155 + 1)) 58 155 0) 58 156 (M 58 156 + 1) 58 155 = 0
        rw [oU_i (by omega), oU_at]
      · show oU (oU (oU M 58 155 (M 58 155 + 1)) 58 155 0) 58 156 (M 58 156 + 1) 58 156 = _
        rw [oU_at]
theorem mem_wK41 : ((41 : Nat), (-1 : Int)) ∈ wK := .tail _ (.tail _ (.head _))
theorem subw_trav6 : subw [(6, 3), (6, 4), (6, 5), (6, 6), (6, 7), (6 + 1, (-1)), (6 + 3, (-1))] ((6, (-1)) :: (6 + 1, (-1)) :: (6 + 2, (-1)) :: (6 + 3, (-1)) :: wK) := subw_all (.head _) (subw_all (.head _) (subw_all (.head _) (subw_all (.head _) (subw_all (.head _) (subw_cons (.tail _ (.head _)) (subw_cons (.tail _ (.tail _ (.tail _ (.head _)))) subw_nil))))))
theorem subw_trav14 : subw [(14, 3), (14, 4), (14, 5), (14, 6), (14, 7), (14 + 1, (-1)), (14 + 3, (-1))] ((14, (-1)) :: (14 + 1, (-1)) :: (14 + 2, (-1)) :: (14 + 3, (-1)) :: wK) := subw_all (.head _) (subw_all (.head _) (subw_all (.head _) (subw_all (.head _) (subw_all (.head _) (subw_cons (.tail _ (.head _)) (subw_cons (.tail _ (.tail _ (.tail _ (.head _)))) subw_nil))))))
/-- the coin is on its way an hour -/
theorem travel_hour {f o T : Nat} {h : Int} {P : Prop} {N M : oM} (hf : 1000 < f) (ho : o = 6 ∨ o = 14) (hR : tkR T h o N M) (hc : cnt P N M) (ha : N 41 5 = -1 ∧ M 57 35 = -2) (hl0 : 0 < M 58 154) :
    okp (p_C_travel f o N) (fun q => ∃ M2, (∀ K, okp (p_M_hourGoes_B125 f M2) K → okp (p_M_hourGoes_B21 f M) K) ∧ tkR T h o q.2 M2 ∧ cnt P q.2 M2 ∧ arR q.2 M2 ∧ q.2 o 8 = N o 8 ∧ q.2 o 9 = N o 9) := by
  have ho' : o ≤ 14 ∧ 6 ≤ o := by omega
  obtain ⟨hp, hl, hd⟩ := id hR
  obtain ⟨h1, h2, h3, h4, h5, h6, h7, h8, h9, h10⟩ := id hd.2
  obtain ⟨k1, k2, k3, k4⟩ := h8 hl0
  have r2 := tldb_rng k2
  have r3 := tldb_rng k3
  obtain ⟨g1, g2, g3, g4, g5, g6, g7, g8, g9⟩ := id hd.1
  have w1 : w32 (M 58 154 - 1) = M 58 154 - 1 := w32_of (by omega) (by omega)
  unfold p_C_travel p_M_hourGoes_B21
  rw [g8, w1, lt_eq, oU_at]
  -- the row with an hour less
  have hdc : dC (oU N o 7 (M 58 154 - 1)) o (oU M 58 154 (M 58 154 - 1) 58) := by
    unfold dC
    rw [oU_sD]
    simp (disch := omega) only [sD_ne, sD_at, oU_o, oU_at, oU_i]
    refine ⟨fun i i0 i1 => ?_, fun i i0 i1 => ?_, fun i i0 i1 => ?_, g4, g5, fun _ => g6 hl0, g7, trivial, g9⟩
    · rw [sD_ne (by omega)]; exact g1 i i0 i1
    · rw [sD_ne (by omega)]; exact g2 i i0 i1
    · rw [sD_ne (by omega)]; exact g3 i i0 i1
  have hw : rOkw T h (oU M 58 154 (M 58 154 - 1) 58) := by
    rw [oU_sD]
    exact rOkw_congr (rOk_w hd.2) fun i i0 i1 => sD_ne (by omega)
  by_cases q : M 58 154 - 1 = 0
  · rw [if_pos q, lt_eq, oU_i (by omega), g7]
    have p153 : p21 (M 58 153) = M 58 153 := by unfold p21; rw [if_neg (by omega)]
    rw [p153]
    have e5 : oU (oU N o 7 (M 58 154 - 1)) 41 5 (M 58 153) o 5 = M 58 152 := by
      rw [oU_o (by omega), oU_i (by omega)]; exact g6 hl0
    have e6 : oU (oU N o 7 (M 58 154 - 1)) 41 5 (M 58 153) o 6 = M 58 153 := by
      rw [oU_o (by omega), oU_i (by omega), g7, p153]
    rw [e5, e6]
    have hpay := pay_paysw (f := f) (T := T) (h := h) (a := M 58 152) (b := M 58 153) (o := o) (Mc := oU (oU N o 7 (M 58 154 - 1)) 41 5 (M 58 153)) (Mr := oU (oU M 58 154 (M 58 154 - 1)) 57 35 (M 58 153)) hf
      (by rw [oU_row (o' := 58) (by omega)]; exact dC_of hdc (oU_row (by omega)) (oU_row (by omega)) (oU_row (by omega)) (oU_row (by omega)))
      (by rw [oU_row (o' := 58) (by omega)]; exact hw) k2 k3
    obtain ⟨a, ea, ha'⟩ := okp_ex hpay
    obtain ⟨b, eb, hb'⟩ := okp_ex ha'
    have f1 := fr_D_pay (eqo_rfl _ _) _ ea
    have f2 := fr_M_pays (eqo_rfl _ _) _ eb
    have x41 : ∀ i, a.2 41 i = oU (oU N o 7 (M 58 154 - 1)) 41 5 (M 58 153) 41 i := fun i => by
      rcases ho with rfl | rfl
      · exact f1 41 i rfl
      · exact f1 41 i rfl
    rw [ea]
    simp only [Option.bind_some]
    rw [lt_eq]
    refine ⟨oU b.2 57 32 (w32 (b.2 57 32 + 1)), ?_, ?_, ?_, ?_, ?_, ?_⟩
    · intro K hK
      rw [bnd_eq (by omega) (by omega), if_pos hl0, bnd_eq (by omega) (by omega), bnd_eq (by omega) (by omega), w1, lt_eq, bnd_eq (by omega) (by omega), oU_at, if_pos q, bnd_eq (by omega) (by omega), lt_eq, oU_i (by omega), bnd_eq (by omega) (by omega)]
      rw [show oU (oU M 58 154 (M 58 154 - 1)) 57 35 (M 58 153) 58 152 = M 58 152 from by rw [oU_o (by omega), oU_i (by omega)], oU_at, eb]
      simp only [Option.bind_some, lt_eq]
      exact hK
    · refine tk_field (w := [(57, 32), (57, 35), (58, (-1))]) hp hl ho' ?_ ?_ rfl ?_
      · refine eqo_oUa (.tail _ (.tail _ (.tail _ (.tail _ (.tail _ (.tail _ (.head _))))))) ?_
        intro o' i' z
        rw [f1 o' i' (by
          rcases ho with rfl | rfl
          · exact subw_trav6 o' i' z
          · exact subw_trav14 o' i' z)]
        have z1 : o' ≠ o := fun y => by subst y; rw [outw_mem (.head _) (.inl rfl)] at z; cases z
        have z2 : o' ≠ 41 := fun y => by subst y; rw [outw_mem (a := -1) (.tail _ (.tail _ (.tail _ (.tail _ mem_wK41)))) (.inl rfl)] at z; cases z
        rw [oU_o z2, oU_o z1]
      · exact eqo_oU (.head _) (eqo_tr (subw_cons (.tail _ (.tail _ (.head _))) subw_nil) (eqo_oU (.tail _ (.head _)) (eqo_oUa (.tail _ (.tail _ (.head _))) (eqo_rfl _ _))) f2)
      · refine ⟨?_, by rw [oU_row (by omega)]; exact hb'.2⟩
        rw [oU_row (o' := 58) (by omega)]
        exact dC_of hb'.1 (oU_row (by omega)) (oU_row (by omega)) (oU_row (by omega)) (oU_row (by omega))
    · intro hP
      obtain ⟨y1, y2, y3, y4⟩ := hc hP
      have x57 : ∀ i, b.2 57 i = oU (oU M 58 154 (M 58 154 - 1)) 57 35 (M 58 153) 57 i := fun i => f2 57 i rfl
      simp (disch := omega) only [oU_at, oU_i, x41, x57, oU_o]
      exact ⟨by rw [y1], y2, y3, y4⟩
    · unfold arR
      have x57 : b.2 57 35 = M 58 153 := (f2 57 35 rfl).trans oU_at
      refine ⟨?_, ?_⟩
      · show oU a.2 41 2 (w32 (a.2 41 2 + 1)) 41 5 = p21 (oU b.2 57 32 (w32 (b.2 57 32 + 1)) 57 35)
        rw [oU_i (by omega), oU_i (by omega), x41, oU_at, x57, p153]
      · rw [oU_i (by omega), x57]
        exact .inr r3
    · show oU a.2 41 2 (w32 (a.2 41 2 + 1)) o 8 = N o 8
      rw [oU_o (by omega)]
      rcases ho with rfl | rfl
      · rw [f1 6 8 rfl, oU_o (by omega), oU_i (by omega)]
      · rw [f1 14 8 rfl, oU_o (by omega), oU_i (by omega)]
    · show oU a.2 41 2 (w32 (a.2 41 2 + 1)) o 9 = N o 9
      rw [oU_o (by omega)]
      rcases ho with rfl | rfl
      · rw [f1 6 9 rfl, oU_o (by omega), oU_i (by omega)]
      · rw [f1 14 9 rfl, oU_o (by omega), oU_i (by omega)]
  · rw [if_neg q]
    refine ⟨oU M 58 154 (M 58 154 - 1), ?_, ?_, ?_, ?_, ?_, ?_⟩
    · intro K hK
      rw [bnd_eq (by omega) (by omega), if_pos hl0, bnd_eq (by omega) (by omega), bnd_eq (by omega) (by omega), w1, lt_eq, bnd_eq (by omega) (by omega), oU_at, if_neg q]
      exact hK
    · refine tk_field (w := [(58, (-1))]) hp hl ho' (eqo_oUa (.head _) (eqo_rfl _ _)) (eqo_oUa (.head _) (eqo_rfl _ _)) rfl ⟨hdc, ?_⟩
      refine rOk_of hw ?_ ?_ ?_ ?_
      · rw [oU_i (by omega)]; exact h6
      · rw [oU_at]; omega
      · simp (disch := omega) only [oU_i, oU_at]
        exact fun _ => ⟨k1, k2, k3, k4⟩
      · rw [oU_at]; intro z; omega
    · intro hP
      simp (disch := omega) only [oU_o]
      exact hc hP
    · unfold arR
      simp (disch := omega) only [oU_o]
      rw [ha.1, ha.2]
      exact ⟨rfl, .inl rfl⟩
    · show oU N o 7 (M 58 154 - 1) o 8 = N o 8
      rw [oU_i (by omega)]
    · show oU N o 7 (M 58 154 - 1) o 9 = N o 9
      rw [oU_i (by omega)]
theorem hrR_eq {A B C : oM} (h1 : A 58 155 = B 58 155) (h2 : A 58 156 = B 58 156) (h : hrR A C) : hrR B C := by
  unfold hrR at h ⊢
  rw [← h1, ← h2]; exact h
theorem tick_hour {f o T : Nat} {h : Int} {P : Prop} {Mc Mr : oM} (hf : 2000 < f) (hh0 : h ≤ 200000) (ho : o = 6 ∨ o = 14) (hR : tkR T h o Mc Mr) (hc : cnt P Mc Mr) :
    okp (p_C_tick f o Mc) (fun q => okp (p_M_hourGoes f Mr) (fun q' => tkR T (h + 1) o q.2 q'.2 ∧ cnt P q.2 q'.2 ∧ arR q.2 q'.2 ∧ hrR Mr q'.2)) := by
  have ho' : o ≤ 14 ∧ 6 ≤ o := by omega
  obtain ⟨hp, hl, hd⟩ := id hR
  have hb := rOk_hour hd.2
  obtain ⟨c8, c9⟩ := dC_hour hd.1
  have hR1 : tkR T h o (oU Mc 41 5 (-1)) (oU Mr 57 35 (-2)) := by
    refine tk_field (w := [(57, 35)]) hp hl ho' (eqo_oUa (.tail _ (.tail _ (.tail _ (.tail _ mem_wK41)))) (eqo_rfl _ _)) (eqo_oU (.head _) (eqo_rfl _ _)) rfl ⟨?_, by rw [oU_row (by omega)]; exact hd.2⟩
    rw [oU_row (o' := 58) (by omega)]
    exact dC_of hd.1 (oU_row (by omega)) (oU_row (by omega)) (oU_row (by omega)) (oU_row (by omega))
  have hc1 : cnt P (oU Mc 41 5 (-1)) (oU Mr 57 35 (-2)) := by
    intro hP
    simp (disch := omega) only [oU_i, oU_o]
    exact hc hP
  have mid : ∀ N M : oM, tkR T h o N M → cnt P N M → (N 41 5 = -1 ∧ M 57 35 = -2) → (M 58 155 = Mr 58 155 ∧ M 58 156 = Mr 58 156) →
      okp (p_C_tick_B37 f o N) (fun q => okp (p_M_hourGoes_B21 f M) (fun q' => tkR T (h + 1) o q.2 q'.2 ∧ cnt P q.2 q'.2 ∧ arR q.2 q'.2 ∧ hrR Mr q'.2)) := by
    intro N M hR hc ha ht
    obtain ⟨hp, hl, hd⟩ := id hR
    obtain ⟨c8, c9⟩ := dC_hour hd.1
    have c7 := hd.1.2.2.2.2.2.2.2.1
    have c4 := hd.1.2.2.2.2.1
    have hhol := rOk_holder hd.2
    unfold p_C_tick_B37
    rw [c7]
    by_cases q : 0 < M 58 154
    · rw [if_pos q]
      refine okp_bind' (okp_mono (travel_hour (f := f) (by omega) ho hR hc ha q) ?_)
      intro a ⟨M2, hK, g1, g2, g3, g4, g5⟩
      obtain ⟨d8, d9⟩ := dC_hour g1.2.2.1
      refine okp_mono (hour_end (f := f) hh0 ho' (tk_mono g1 (by omega)) g2 g3 (by omega)) ?_
      intro r hr
      refine hK _ (okp_mono hr fun r' hr' => ⟨hr'.1, hr'.2.1, hr'.2.2.1, hrR_eq (by omega) (by omega) hr'.2.2.2⟩)
    · rw [if_neg q, e_O_isOne, c4]
      simp only [Option.bind_some]
      unfold p_M_hourGoes_B21
      rcases hhol with z | z
      · rw [z, show p21 (-2) = -1 from rfl, if_neg (c := (0 : Int) ≤ -1 ∧ (-1 : Int) < 10) (by omega), if_pos (c := (0 : Int) = 0) rfl]
        refine okp_mono (hour_end (f := f) hh0 ho' (tk_mono hR (by omega)) hc ⟨by rw [ha.1, ha.2]; rfl, .inl ha.2⟩ (by omega)) ?_
        intro r hr
        rw [bnd_eq (by omega) (by omega), if_neg q, bnd_eq (by omega) (by omega), if_pos (by omega)]
        exact okp_mono hr fun r' hr' => ⟨hr'.1, hr'.2.1, hr'.2.2.1, hrR_eq ht.1 ht.2 hr'.2.2.2⟩
      · have p1 : p21 (M 58 151) = M 58 151 := by unfold p21; rw [if_neg (by omega)]
        rw [p1, if_pos (c := 0 ≤ M 58 151 ∧ M 58 151 < 10) z, if_neg (c := (1 : Int) = 0) (by omega), c4, p1, bnd_eq z.1 z.2, bnd_eq z.1 z.2, lt_eq]
        have hhh := holds_hour (f := f) (h := h) (P := P) hf (by omega) ho' hR hc (p := M 58 151) rfl z
        obtain ⟨a, ea, ha'⟩ := okp_ex hhh
        obtain ⟨b, eb, g1, g2⟩ := okp_ex ha'
        have f1 := fr_C_setOut (eqo_rfl _ _) _ ea
        have f2 := fr_M_holds (eqo_rfl _ _) _ eb
        rw [ea]
        simp only [Option.bind_some]
        have y8 : a.2 o 8 = N o 8 := by
          rcases ho with rfl | rfl
          · rw [f1 6 8 rfl, oU_o (by omega)]
          · rw [f1 14 8 rfl, oU_o (by omega)]
        have y9 : a.2 o 9 = N o 9 := by
          rcases ho with rfl | rfl
          · rw [f1 6 9 rfl, oU_o (by omega)]
          · rw [f1 14 9 rfl, oU_o (by omega)]
        have y5 : a.2 41 5 = -1 := by
          rcases ho with rfl | rfl
          · rw [f1 41 5 rfl, oU_o (by omega)]; exact ha.1
          · rw [f1 41 5 rfl, oU_o (by omega)]; exact ha.1
        have y35 : b.2 57 35 = -2 := by rw [f2 57 35 rfl]; exact ha.2
        obtain ⟨d8, d9⟩ := dC_hour g1.2.2.1
        refine okp_mono (hour_end (f := f) hh0 ho' g1 g2 ⟨by rw [y5, y35]; rfl, .inl y35⟩ (by omega)) ?_
        intro r hr
        rw [bnd_eq (by omega) (by omega), if_neg q, bnd_eq (by omega) (by omega), if_neg (by omega), bnd_eq (by omega) (by omega), eb]
        simp only [Option.bind_some]
        exact okp_mono hr fun r' hr' => ⟨hr'.1, hr'.2.1, hr'.2.2.1, hrR_eq (by omega) (by omega) hr'.2.2.2⟩
  unfold p_C_tick p_M_hourGoes
  rw [lt_eq]
  have x9 : oU Mc 41 5 (-1) o 9 = Mr 58 156 := by rw [oU_o (by omega)]; exact c9
  rw [x9, if_pos (by omega), lt_eq, bnd_eq (by omega) (by omega)]
  unfold p_C_tick_B25
  have x8 : oU Mc 41 5 (-1) o 8 = Mr 58 155 := by rw [oU_o (by omega)]; exact c8
  have x8' : oU Mr 57 35 (-2) 58 155 = Mr 58 155 := oU_o (by omega)
  rw [x8, x8']
  by_cases q : Mr 58 155 = 0
  · rw [if_pos q, if_pos q]
    obtain ⟨a, ea, ha⟩ := okp_ex (begin_day (f := f) (P := P) hf ho' hR1 hc1)
    obtain ⟨b, eb, g1, g2⟩ := okp_ex ha
    have f1 := fr_C_beginDay (eqo_rfl _ _) _ ea
    have f2 := fr_M_dayBegins (eqo_rfl _ _) _ eb
    rw [ea, eb]
    simp only [Option.bind_some]
    have y8 : a.2 o 8 = Mc o 8 := by
      rcases ho with rfl | rfl
      · rw [f1 6 8 rfl, oU_o (by omega)]
      · rw [f1 14 8 rfl, oU_o (by omega)]
    have y9 : a.2 o 9 = Mc o 9 := by
      rcases ho with rfl | rfl
      · rw [f1 6 9 rfl, oU_o (by omega)]
      · rw [f1 14 9 rfl, oU_o (by omega)]
    have y5 : a.2 41 5 = -1 := by
      rcases ho with rfl | rfl
      · rw [f1 41 5 rfl, oU_at]
      · rw [f1 41 5 rfl, oU_at]
    have y35 : b.2 57 35 = -2 := by rw [f2 57 35 rfl, oU_at]
    obtain ⟨d8, d9⟩ := dC_hour g1.2.2.1
    exact mid a.2 b.2 g1 g2 ⟨y5, y35⟩ ⟨by omega, by omega⟩
  · rw [if_neg q, if_neg q]
    exact mid _ _ hR1 hc1 ⟨oU_at, oU_at⟩ ⟨oU_o (by omega), oU_o (by omega)⟩
