/-! THE LAW's readers: what both hold, a step put by both, what waits -/
def lgC : List (Nat × Int) := [(1, 3), (1, 4), (27, 9), (28, (-1)), (29, (-1))]
def lgM : List (Nat × Int) := [(57, 8), (57, 10), (57, 11), (57, 12), (57, 13), (57, 14), (64, (-1)), (65, (-1))]
def nuR (b : Int → Int) (n : Int) (N0 M0 : oM) (p z e w op : Int) (N M : oM) : Prop := rdC b n N p ∧ rdM b n M p ∧ (p ≤ n ∧ n ≤ 240) ∧ (N 27 9 = z ∧ M 57 13 = z ∧ 0 ≤ z ∧ 0 ≤ e ∧ z + e + 1 ≤ p) ∧ (M 57 14 = w ∧ 0 ≤ w ∧ w ≤ p) ∧ (M 57 12 = op ∧ 0 ≤ op ∧ op ≤ 6) ∧ eqo lgC N0 N ∧ eqo lgM M0 M
def cdR (a z : Int) (N M : oM) : Prop := ∀ i : Int, a ≤ i → i < z → (0 ≤ N 29 i ∧ N 29 i < 1048576) ∧ M 64 i = 1048576 * opn (N 28 i) + N 29 i
def oldE (z : Int) (N M N' M' : oM) : Prop := ∀ i : Int, i < z → N' 28 i = N 28 i ∧ N' 29 i = N 29 i ∧ M' 64 i = M 64 i
def wtE (w : Int) (M M' : oM) : Prop := ∀ j : Int, j < w → M' 65 j = M 65 j
def ext (z z' : Int) (σ σ' : List Bool) (N M N' M' : oM) : Prop := z ≤ z' ∧ oldE z N M N' M' ∧ cdR z z' N' M' ∧ Sg (N' 28) (N' 29) z z' σ σ'
theorem ext_refl {z : Int} {σ : List Bool} {N M N' M' : oM} (h1 : N' 28 = N 28) (h2 : N' 29 = N 29) (h3 : M' 64 = M 64) : ext z z σ σ N M N' M' := ⟨Int.le_refl z, fun i _ => by rw [h1, h2, h3]; exact ⟨rfl, rfl, rfl⟩, fun i h1 h2 => by omega, Sg_refl⟩
theorem ext_trans {z1 z2 z3 : Int} {σ1 σ2 σ3 : List Bool} {N1 M1 N2 M2 N3 M3 : oM} (h : ext z1 z2 σ1 σ2 N1 M1 N2 M2) (h' : ext z2 z3 σ2 σ3 N2 M2 N3 M3) : ext z1 z3 σ1 σ3 N1 M1 N3 M3 := by
  obtain ⟨a1, a2, a3, a4⟩ := h
  obtain ⟨b1, b2, b3, b4⟩ := h'
  refine ⟨by omega, fun i hi => ?_, fun i i0 i1 => ?_, Sg_comp (Sg_congr a4 fun i i0 i1 => ⟨(b2 i i1).1, (b2 i i1).2.1⟩) b4⟩
  · have x := a2 i hi
    have y := b2 i (by omega)
    exact ⟨y.1.trans x.1, y.2.1.trans x.2.1, y.2.2.trans x.2.2⟩
  · by_cases q : i < z2
    · have y := b2 i q
      rw [y.1, y.2.1, y.2.2]; exact a3 i i0 q
    · exact b3 i (by omega) i1
theorem ext_right {z z' : Int} {σ σ' : List Bool} {N M N' M' N2 M2 : oM} (h : ext z z' σ σ' N M N' M') (h1 : N2 28 = N' 28) (h2 : N2 29 = N' 29) (h3 : M2 64 = M' 64) : ext z z' σ σ' N M N2 M2 := by
  unfold ext oldE cdR at h ⊢
  rw [h1, h2, h3]
  exact h
theorem wtE_refl {w : Int} {M M' : oM} (h : M' 65 = M 65) : wtE w M M' := fun j _ => by rw [h]
theorem wtE_trans {w w' : Int} {M1 M2 M3 : oM} (h : wtE w M1 M2) (h' : wtE w' M2 M3) (hw : w ≤ w') : wtE w M1 M3 := fun j hj => (h' j (by omega)).trans (h j hj)
def putN (N : oM) (z x y : Int) : oM := oU (oU (oU N 28 z x) 29 z y) 27 9 (z + 1)
def putM (M : oM) (z c y : Int) : oM := oU (oU M 64 z (1048576 * c + y)) 57 13 (z + 1)
theorem e_put {f : Nat} {z x y : Int} {N : oM} (hz : N 27 9 = z) (h0 : 0 ≤ z ∧ z < 240) : p_L_put f x y N = some (z, putN N z x y) := by
  have a1 : oU N 28 z x 27 9 = z := (oU_o (by decide)).trans hz
  have a2 : oU (oU N 28 z x) 29 z y 27 9 = z := (oU_o (by decide)).trans a1
  have a3 : oU (oU (oU N 28 z x) 29 z y) 27 9 (z + 1) 27 9 = z + 1 := oU_at
  unfold p_L_put putN
  rw [hz, if_pos h0.2, bnd_eq h0.1 h0.2, lt_eq, a1, bnd_eq h0.1 h0.2, lt_eq, a2, w32_of (a := z + 1) (by omega) (by omega), lt_eq, a3, w32_of (a := z + 1 - 1) (by omega) (by omega), show z + 1 - 1 = z from by omega]
theorem e_notes {f : Nat} {z c y : Int} {M : oM} (hz : M 57 13 = z) (h0 : 0 ≤ z ∧ z < 240) (hc : 0 ≤ c ∧ c ≤ 14) (hy : 0 ≤ y ∧ y < 1048576) : p_M_notes f c y M = some (0, putM M z c y) := by
  have a1 : oU M 64 z (1048576 * c + y) 57 13 = z := (oU_o (by decide)).trans hz
  unfold p_M_notes putM
  rw [hz, bnd_eq h0.1 (by omega), w32_of (a := 1048576 * c) (by omega) (by omega), w32_of (a := 1048576 * c + y) (by omega) (by omega), lt_eq, a1, w32_of (a := z + 1) (by omega) (by omega), lt_eq]
theorem rdC_put {b : Int → Int} {n p z x y : Int} {N : oM} (h : rdC b n N p) : rdC b n (putN N z x y) p := rdC_o (rdC_o (rdC_o h (by decide) (by decide)) (by decide) (by decide)) (by decide) (by decide)
theorem rdM_put {b : Int → Int} {n p z c y : Int} {M : oM} (h : rdM b n M p) : rdM b n (putM M z c y) p := rdM_57 (rdM_o h (by decide) (by decide)) (by decide) (by decide)
/-- a step put by both -/
theorem nu_put {b : Int → Int} {n p z e w op e' x y c : Int} {N0 M0 N M : oM} (h : nuR b n N0 M0 p z e w op N M) (he : 0 ≤ e' ∧ z + 1 + e' + 1 ≤ p) : nuR b n N0 M0 p (z + 1) e' w op (putN N z x y) (putM M z c y) := by
  obtain ⟨h1, h2, h3, h4, h5, h6, h7, h8⟩ := h
  refine ⟨rdC_put h1, rdM_put h2, h3, ⟨oU_at, oU_at, by omega, he.1, he.2⟩, ⟨?_, h5.2⟩, ⟨?_, h6.2⟩, ?_, ?_⟩
  · unfold putM; rw [oU_i (by decide), oU_o (by decide)]; exact h5.1
  · unfold putM; rw [oU_i (by decide), oU_o (by decide)]; exact h6.1
  · exact eqo_oU (.tail _ (.tail _ (.head _))) (eqo_oUa (.tail _ (.tail _ (.tail _ (.tail _ (.head _))))) (eqo_oUa (.tail _ (.tail _ (.tail _ (.head _)))) h7))
  · exact eqo_oU (.tail _ (.tail _ (.tail _ (.tail _ (.head _))))) (eqo_oUa (.tail _ (.tail _ (.tail _ (.tail _ (.tail _ (.tail _ (.head _))))))) h8)
theorem ext_put {z x y c : Int} {σ σ' : List Bool} {N M : oM} (hc : opn x = c) (hy : 0 ≤ y ∧ y < 1048576) (hS : ∀ s d : Int → Int, s z = x → d z = y → Sg s d z (z + 1) σ σ') : ext z (z + 1) σ σ' N M (putN N z x y) (putM M z c y) := by
  have e28 : (putN N z x y) 28 z = x := by unfold putN; rw [oU_o (by decide), oU_o (by decide), oU_at]
  have e29 : (putN N z x y) 29 z = y := by unfold putN; rw [oU_o (by decide), oU_at]
  have e64 : (putM M z c y) 64 z = 1048576 * c + y := by unfold putM; rw [oU_o (by decide), oU_at]
  refine ⟨by omega, fun i hi => ?_, fun i i0 i1 => ?_, hS _ _ e28 e29⟩
  · have hne : i ≠ z := by omega
    unfold putN putM
    refine ⟨?_, ?_, ?_⟩
    · rw [oU_o (by decide), oU_o (by decide), oU_i hne]
    · rw [oU_o (by decide), oU_i hne, oU_o (by decide)]
    · rw [oU_o (by decide), oU_i hne]
  · have : i = z := by omega
    subst this
    rw [e28, e29, e64, hc]
    exact ⟨hy, rfl⟩
theorem putM_65 {M : oM} {z c y : Int} : (putM M z c y) 65 = M 65 := by unfold putM; rw [oU_row (by decide), oU_row (by decide)]
theorem td20 {c v : Int} (hc : 0 ≤ c ∧ c ≤ 14) (hv : 0 ≤ v ∧ v < 1048576) : w32 (Int.tdiv (1048576 * c + v) 1048576) = c ∧ Int.tmod (1048576 * c + v) 1048576 = v := by
  have h0 : 0 ≤ 1048576 * c + v := by omega
  rw [Int.tdiv_eq_ediv_of_nonneg h0, Int.tmod_eq_emod_of_nonneg h0]
  refine ⟨?_, by omega⟩
  rw [show (1048576 * c + v) / 1048576 = c from by omega, w32_of (by omega) (by omega)]
/-- what waits on top: -1, or a code -/
def topIs (M : oM) (w t : Int) : Prop := (w = 0 ∧ t = -1) ∨ (1 ≤ w ∧ (0 ≤ t ∧ t ≤ 14) ∧ ∃ v : Int, (0 ≤ v ∧ v < 1048576) ∧ M 65 (w - 1) = 1048576 * t + v)
theorem e_waitTop {f : Nat} {w t : Int} {M : oM} (hw : M 57 14 = w) (hb : 0 ≤ w ∧ w ≤ 250) (h : topIs M w t) : p_M_waitTop f M = some (t, M) := by
  unfold p_M_waitTop
  rw [hw]
  rcases h with ⟨h1, h2⟩ | ⟨h1, h2, v, h3, h4⟩
  · rw [if_pos h1, h2]
  · rw [if_neg (by omega), w32_of (a := w - 1) (by omega) (by omega), bnd_eq (by omega) (by omega), nz_eq (by decide), h4, (td20 h2 h3).1]
/-- the top is put and taken -/
def popM (M : oM) (z c w : Int) : oM := oU (putM M z c 0) 57 14 (w - 1)
theorem nu_pop {b : Int → Int} {n p z e w op x c : Int} {N0 M0 N M : oM} (h : nuR b n N0 M0 p z e w op N M) (he : 1 ≤ e) (hw : 1 ≤ w) : nuR b n N0 M0 p (z + 1) (e - 1) (w - 1) op (putN N z x 0) (popM M z c w) := by
  obtain ⟨h1, h2, h3, h4, h5, h6, h7, h8⟩ := nu_put (e' := e - 1) (x := x) (y := 0) (c := c) h ⟨by omega, by have := h.2.2.2.1.2.2.2.2; omega⟩
  refine ⟨h1, rdM_57 h2 (by decide) (by decide), h3, ⟨h4.1, ?_, h4.2.2⟩, ⟨oU_at, by omega, by omega⟩, ⟨?_, h6.2⟩, h7, eqo_oU (.tail _ (.tail _ (.tail _ (.tail _ (.tail _ (.head _)))))) h8⟩
  · unfold popM; rw [oU_i (by decide)]; exact h4.2.1
  · unfold popM; rw [oU_i (by decide)]; exact h6.1
theorem popM_65 {M : oM} {z c w : Int} : (popM M z c w) 65 = M 65 := by unfold popM; rw [oU_row (by decide)]; exact putM_65
theorem popM_64 {M : oM} {z c w : Int} : (popM M z c w) 64 = (putM M z c 0) 64 := by unfold popM; rw [oU_row (by decide)]
theorem e_B37 {f : Nat} {l z w t : Int} {M : oM} (hw : M 57 14 = w) (hb : 0 ≤ w ∧ w ≤ 250) (h : topIs M w t) (ht : 0 ≤ t ∧ t ≤ 14) (hz : M 57 13 = z) (h0 : 0 ≤ z ∧ z < 240) : p_M_closesSums_B37_0 f l M = some (.inl (popM M z t w)) := by
  have a1 : (putM M z t 0) 57 14 = w := by unfold putM; rw [oU_i (by decide), oU_o (by decide)]; exact hw
  unfold p_M_closesSums_B37_0
  rw [e_waitTop hw hb h, Option.bind_some, show p_M_notes f (t, M).fst 0 (t, M).snd = some (0, putM M z t 0) from e_notes hz h0 ht (by decide), Option.bind_some, show ((0 : Int), putM M z t 0).snd 57 14 = w from a1, w32_of (a := w - 1) (by omega) (by omega), lt_eq]
  rfl
theorem cl_mul {f : Nat} {l z w t : Int} {M : oM} (hw : M 57 14 = w) (hb : 0 ≤ w ∧ w ≤ 250) (h : topIs M w t) (ht : 4 ≤ t ∧ t ≤ 6) (hz : M 57 13 = z) (h0 : 0 ≤ z ∧ z < 240) : p_M_closesSums_L0 f l M = some (.inl (popM M z t w)) := by
  have e1 := e_waitTop (f := f) hw hb h
  unfold p_M_closesSums_L0
  simp only []
  rw [e1, Option.bind_some, if_neg (show ¬ (t, M).fst < 4 from by show ¬ t < 4; omega), show p_M_waitTop f (t, M).snd = some (t, M) from e1, Option.bind_some, if_neg (show ¬ 6 < (t, M).fst from by show ¬ 6 < t; omega)]
  exact e_B37 hw hb h (by omega) hz h0
theorem cl_add {f : Nat} {z w t : Int} {M : oM} (hw : M 57 14 = w) (hb : 0 ≤ w ∧ w ≤ 250) (h : topIs M w t) (ht : t = 2 ∨ t = 3) (hz : M 57 13 = z) (h0 : 0 ≤ z ∧ z < 240) : p_M_closesSums_L0 f 1 M = some (.inl (popM M z t w)) := by
  have e1 := e_waitTop (f := f) hw hb h
  unfold p_M_closesSums_L0 p_M_closesSums_B17_0
  simp only []
  rw [e1, Option.bind_some, if_pos (show (t, M).fst < 4 from by show t < 4; omega), if_neg n10, show p_M_waitTop f (t, M).snd = some (t, M) from e1, Option.bind_some]
  by_cases q : t = 2
  · rw [if_pos (show (t, M).fst = 2 from q)]
    exact e_B37 hw hb h (by omega) hz h0
  · rw [if_neg (show ¬ (t, M).fst = 2 from q), show p_M_waitTop f (t, M).snd = some (t, M) from e1, Option.bind_some, if_pos (show (t, M).fst = 3 from by show t = 3; omega)]
    exact e_B37 hw hb h (by omega) hz h0
theorem cl_stop {f : Nat} {l w t : Int} {M : oM} (hw : M 57 14 = w) (hb : 0 ≤ w ∧ w ≤ 250) (h : topIs M w t) (ht : (l = 0 ∧ (t < 4 ∨ 6 < t)) ∨ (l = 1 ∧ (t < 2 ∨ 6 < t))) : p_M_closesSums_L0 f l M = some (.inr (0, M)) := by
  have e1 := e_waitTop (f := f) hw hb h
  have hB : p_M_closesSums_B17_0 f l M = some (.inr (0, M)) := by
    unfold p_M_closesSums_B17_0
    rcases ht with ⟨h1, h2⟩ | ⟨h1, h2⟩
    · rw [if_pos h1]
    · rw [if_neg (by omega), e1, Option.bind_some, if_neg (show ¬ (t, M).fst = 2 from by show ¬ t = 2; omega), show p_M_waitTop f (t, M).snd = some (t, M) from e1, Option.bind_some, if_neg (show ¬ (t, M).fst = 3 from by show ¬ t = 3; omega)]
  unfold p_M_closesSums_L0
  simp only []
  rw [e1, Option.bind_some]
  by_cases q : t < 4
  · rw [if_pos (show (t, M).fst < 4 from q)]
    exact hB
  · rw [if_neg (show ¬ (t, M).fst < 4 from q), show p_M_waitTop f (t, M).snd = some (t, M) from e1, Option.bind_some, if_pos (show 6 < (t, M).fst from by show 6 < t; omega)]
    exact hB
