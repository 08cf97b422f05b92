/-! the call tour -/
theorem lays_no {f s m : Nat} {Mr : oM} {g : Nat → Nat → Nat} (hf : 2000 < f) (hs : s < 10) (hg : gOf (Mr 58) g) (hb : ∀ a b, a < 10 → b < 10 → g a b ≤ 99) (hno : ¬ okRow g s) : ∃ N, p_M_laysTour f (s : Int) (m : Int) Mr = some (0, N) := by
  obtain ⟨N, eN, h1, f1⟩ := copy82 (f := f) (l1 := (s : Int)) (l2 := (m : Int)) (M := Mr) hf
  have hg' : gOf (N 82) g := fun a b ha hb' => by rw [h1 _ (idx100 ha hb').1 (idx100 ha hb').2]; exact hg a b ha hb'
  obtain ⟨r, er, hr⟩ := e_isRow (f := f) hf hs hg' hb
  refine ⟨N, ?_⟩
  unfold p_M_laysTour
  rw [eN]
  simp only [Option.bind_some]
  unfold p_M_laysTour_X2
  simp only []
  rw [er]
  simp only [Option.bind_some]
  rcases hr with ⟨r1, r2⟩ | ⟨r1, r2⟩
  · exact absurd r2 hno
  · rw [if_pos r1]
theorem lays_yes {f s m : Nat} {Mc Mr : oM} {g : Nat → Nat → Nat} (hf : 2000 < f) (hm : m ≤ 60) (hs : s < 10) (hgc : gOf (Mc 7) g) (hg : gOf (Mr 58) g) (hb : ∀ a b, a < 10 → b < 10 → g a b ≤ 99) (hok : okRow g s) (htot : totg g = m) :
    ∃ q N, p_R_planTour f (s : Int) (m : Int) Mc = some q ∧ p_M_laysTour f (s : Int) (m : Int) Mr = some (1, N) ∧ ∀ i : Int, 0 ≤ i → i < (m : Int) → q.2 47 i = N 83 i := by
  obtain ⟨N, eN, h1, f1⟩ := copy82 (f := f) (l1 := (s : Int)) (l2 := (m : Int)) (M := Mr) hf
  have hg' : gOf (N 82) g := fun a b ha hb' => by rw [h1 _ (idx100 ha hb').1 (idx100 ha hb').2]; exact hg a b ha hb'
  obtain ⟨r, er, hr⟩ := e_isRow (f := f) hf hs hg' hb
  obtain ⟨q, eq, hq⟩ := okp_ex (tour_rows (f := f) (Mr := N) hf hm hs hgc hg' hb hok htot)
  obtain ⟨q', eq', h2, h3⟩ := okp_ex hq
  refine ⟨q, q'.2, eq, ?_, h2⟩
  unfold p_M_laysTour
  rw [eN]
  simp only [Option.bind_some]
  unfold p_M_laysTour_X2
  simp only []
  rw [er]
  simp only [Option.bind_some]
  rcases hr with ⟨r1, r2⟩ | ⟨r1, r2⟩
  · rw [if_neg (by rw [r1]; decide), eq', ← h3]
  · exact absurd hok r2
theorem tour_B {f T : Nat} {c what : Int} {Mc Mr : oM} (hf : 2000 < f) (h : Rel T c Mc Mr) (hw : (0 ≤ what ∧ what < 60) ∨ (100 ≤ what ∧ what ≤ 102)) : ∃ r N M, p_O_tour_B40 f what (if what < 60 then 1 else 0) Mc = some (r, N) ∧ p_M_tour_B23 f what Mr = some (r, M) := by
  obtain ⟨hp, hd, ho, -⟩ := id h
  obtain ⟨g, g1, g2, g3, g4⟩ := Rel_g h
  have hh := rOk_holder ho
  have c4 : Mc 6 4 = p21 (Mr 58 151) := hd.2.2.2.2.1
  have hall : allS (Mr 58) = (totg g : Int) := allS_tot g1
  have hall' : allS (Mc (6 + 1)) = (totg g : Int) := allS_tot g2
  have e0 := e_D_owedInAll (f := f) (o := 6) (M := Mc) (Nat.lt_trans (by decide) hf) (dC_dOk hd ho)
  have e0' := e_M_owedInAll (f := f) (M := Mr) (Nat.lt_trans (by decide) hf) (rOk_dOk ho)
  rw [hall'] at e0
  rw [hall] at e0'
  unfold p_O_tour_B40 p_M_tour_B23
  rw [c4, bnd_eq (by decide) (by decide)]
  rcases hh with z | z
  · rw [z, if_pos (by decide), if_pos (by decide)]
    exact ⟨_, _, _, rfl, rfl⟩
  obtain ⟨p, hpp⟩ : ∃ p : Nat, Mr 58 151 = p := ⟨(Mr 58 151).toNat, by clear e0 e0' hall hall'; omega⟩
  have hp10 : p < 10 := by clear e0 e0' hall hall'; omega
  have p1 : p21 (Mr 58 151) = (p : Int) := by unfold p21; rw [if_neg (by clear e0 e0' hall hall'; omega)]; exact hpp
  have pneg : ¬ (p : Int) < 0 := Int.not_lt.2 (Int.natCast_nonneg p)
  rw [p1, hpp, if_neg pneg, if_neg pneg, e0, e0']
  simp only [Option.bind_some]
  generalize htot : totg g = m at *
  clear hall hall' e0 e0'
  by_cases hm : (60 : Int) < (m : Int)
  · rw [if_pos hm, if_pos hm]
    exact ⟨_, _, _, rfl, rfl⟩
  have hm60 : m ≤ 60 := by omega
  rw [if_neg hm, if_neg hm]
  by_cases w101 : what = 101
  · rw [if_pos w101, if_pos w101]
    exact ⟨_, _, _, rfl, rfl⟩
  rw [if_neg w101, if_neg w101, bnd_eq (by decide) (by decide), c4, p1, hpp]
  obtain ⟨r, er, hr⟩ := e_isOneRow (f := f) (o := 7) (M := Mc) hf hp10 g2 g3
  rw [er]
  simp only [Option.bind_some]
  rcases hr with ⟨r1, r2⟩ | ⟨r1, r2⟩
  · obtain ⟨q, N, eq, eN, hrow⟩ := lays_yes (f := f) (Mc := Mc) (Mr := Mr) hf hm60 hp10 g2 g1 g3 r2 htot
    have fq := fr_R_planTour (eqo_rfl _ _) _ eq
    have fN := fr_M_laysTour (eqo_rfl _ _) _ eN
    rw [eN]
    simp only [Option.bind_some]
    have n10 : ¬ (1 : Int) = 0 := by decide
    rw [r1, if_neg n10]
    by_cases w100 : what = 100
    · rw [if_pos w100, if_pos w100]
      exact ⟨_, _, _, rfl, rfl⟩
    rw [if_neg w100, if_neg w100]
    have m1 : ((m : Int) = 0) ∨ (0 ≤ w32 ((m : Int) - 1) ∧ w32 ((m : Int) - 1) < 60 ∧ w32 ((m : Int) - 1) < (m : Int)) := by
      by_cases y : m = 0
      · left; omega
      · right; rw [w32_of (by omega) (by omega)]; omega
    unfold p_O_tour_B131 p_M_tour_B107 p_O_tour_B184 p_M_tour_B143
    rw [c4, p1, eq]
    simp only [Option.bind_some]
    rw [fq 6 4 rfl, c4, p1]
    by_cases wp : what < 60
    · rw [if_pos wp, if_neg n10, if_pos (show what < 100 by omega), if_neg (show ¬ what = 102 by omega)]
      by_cases y : what < (m : Int)
      · rw [if_pos y, if_pos y, bnd_eq (by omega) (by omega), if_pos (show what < 100 by omega), bnd_eq (by omega) (by omega)]
        exact ⟨N 83 what, q.2, N, by rw [hrow what (by omega) y, ite_self], by rw [if_neg n10]⟩
      · rw [if_neg y, if_neg y, if_neg n10]
        exact ⟨_, _, _, rfl, rfl⟩
    · have w102 : what = 102 := by omega
      rw [if_neg wp, if_pos rfl, if_neg (show ¬ what < 100 by omega), if_pos w102, if_neg (show ¬ what < 100 by omega)]
      rcases m1 with y | ⟨y1, y2, y3⟩
      · rw [if_pos y, if_pos y, if_neg n10, if_neg n10]
        exact ⟨_, _, _, rfl, rfl⟩
      · have y0 : ¬ (m : Int) = 0 := by omega
        rw [if_neg y0, if_neg y0, bnd_eq y1 y2, bnd_eq y1 y2, bnd_eq (by decide) (by decide), hrow _ y1 y3, show N 58 151 = Mr 58 151 from fN 58 151 rfl, hpp, if_neg n10, if_neg n10]
        by_cases v : N 83 (w32 ((m : Int) - 1)) = (p : Int)
        · rw [if_pos v, if_pos v]
          exact ⟨_, _, _, rfl, rfl⟩
        · rw [if_neg v, if_neg v]
          exact ⟨_, _, _, rfl, rfl⟩
  · obtain ⟨N, eN⟩ := lays_no (f := f) (m := m) hf hp10 g1 g3 r2
    rw [eN]
    simp only [Option.bind_some]
    rw [if_pos r1, if_pos trivial]
    by_cases w100 : what = 100
    · rw [if_pos w100, if_pos w100]
      exact ⟨_, _, _, rfl, rfl⟩
    · rw [if_neg w100, if_neg w100, if_pos r1, if_pos trivial]
      exact ⟨_, _, _, rfl, rfl⟩
theorem call_tour {f T : Nat} {c what : Int} {Mc Mr : oM} (hf : 2000 < f) (h : Rel T c Mc Mr) : Same f c (p_O_tour f what Mc) (p_M_tour f what Mr) := by
  by_cases hw : (0 ≤ what ∧ what < 60) ∨ (100 ≤ what ∧ what ≤ 102)
  · obtain ⟨r, N, M, k1, k2⟩ := tour_B (f := f) hf h hw
    have e1 : p_O_tour f what Mc = some (r, N) := by
      rw [← k1]
      unfold p_O_tour p_O_tour_B14 p_O_tour_B15
      rcases hw with hw | hw
      · rw [if_neg (by omega), if_pos hw.2, if_neg (by decide), if_pos hw.2]
      · rw [if_neg (by omega), if_neg (by omega), if_pos rfl, if_neg (show ¬ what < 60 by omega)]
        by_cases y : what = 100
        · rw [if_pos y]
        · rw [if_neg y]
          by_cases y : what = 101
          · rw [if_pos y]
          · rw [if_neg y, if_pos (by omega)]
    have e2 : p_M_tour f what Mr = some (r, M) := by
      rw [← k2]
      unfold p_M_tour
      rw [e_M_in]
      simp only [Option.bind_some]
      rcases hw with hw | hw
      · rw [in_t (by omega), b01_t, if_neg (by decide)]
      · rw [in_f (by omega), b01_f, if_pos rfl, e_M_in, in_t hw]
        simp only [Option.bind_some]
        rw [b01_t, if_neg (by decide)]
    have x1 := fr_O_tour (eqo_rfl _ _) _ e1
    have x2 := fr_M_tour (eqo_rfl _ _) _ e2
    exact same_upd e1 e2 ⟨T, Rel_try h x1 x2 rfl (fun i _ _ => x2 58 i rfl)⟩
  · refine same_some (r := -1) h ?_ ?_
    · unfold p_O_tour p_O_tour_B14 p_O_tour_B15
      by_cases y : what < 0
      · rw [if_pos y, if_pos rfl, if_neg (by omega), if_neg (by omega), if_neg (by omega)]
      · rw [if_neg y, if_neg (by omega), if_pos rfl, if_neg (by omega), if_neg (by omega), if_neg (by omega)]
    · unfold p_M_tour
      rw [e_M_in, in_f (by omega)]
      simp only [Option.bind_some]
      rw [b01_f, if_pos rfl, e_M_in, in_f (by omega)]
      simp only [Option.bind_some]
      rw [b01_f, if_pos rfl]
