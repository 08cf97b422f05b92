/-! THE LAW: what waits of a sum, put by both -/
def cn (x : Int) : Int := if x = -1 then 0 else 1
def isT (x : Int) : Prop := x = -1 ∨ x = 43 ∨ x = 45
def isF (x : Int) : Prop := x = -1 ∨ x = 42 ∨ x = 47 ∨ x = 37
def fsx (x : Int) (σ : List Bool) : List Bool := if x = -1 then σ else false :: σ
def putX (N : oM) (z x : Int) : oM := if x = -1 then N else putN N z x 0
def pnd (M : oM) (w0 wt wf : Int) : Prop := isT wt ∧ isF wf ∧ (wt ≠ -1 → M 65 w0 = 1048576 * opn wt) ∧ (wf ≠ -1 → M 65 (w0 + cn wt) = 1048576 * opn wf)
def botT (M : oM) (w0 : Int) : Prop := ∃ t, topIs M w0 t ∧ (t < 2 ∨ 6 < t)
theorem cn_bd (x : Int) : 0 ≤ cn x ∧ cn x ≤ 1 := by unfold cn; split <;> decide
theorem opn_T {x : Int} (h : isT x) (hx : x ≠ -1) : opn x = 2 ∨ opn x = 3 := by
  rcases h with h | h | h
  · exact absurd h hx
  · rw [h]; exact .inl rfl
  · rw [h]; exact .inr rfl
theorem opn_F {x : Int} (h : isF x) (hx : x ≠ -1) : 4 ≤ opn x ∧ opn x ≤ 6 := by
  rcases h with h | h | h | h
  · exact absurd h hx
  · rw [h]; decide
  · rw [h]; decide
  · rw [h]; decide
theorem op_x {x : Int} (h : isT x ∨ isF x) (hx : x ≠ -1) : x = 43 ∨ x = 45 ∨ x = 42 ∨ x = 47 ∨ x = 37 := by
  unfold isT isF at h; omega
theorem topIs_row {M M' : oM} {w t : Int} (h : topIs M w t) (e : M' 65 = M 65) : topIs M' w t := by
  unfold topIs at h ⊢
  rw [e]; exact h
theorem topIs_at {M : oM} {w c : Int} (hw : 1 ≤ w) (hc : 0 ≤ c ∧ c ≤ 14) (h : M 65 (w - 1) = 1048576 * c) : topIs M w c := .inr ⟨hw, hc, 0, by decide, by rw [h]; omega⟩
theorem ext_bin {z x c : Int} {σ : List Bool} {N M : oM} (hc : opn x = c) (hx : x = 43 ∨ x = 45 ∨ x = 42 ∨ x = 47 ∨ x = 37) (hl : σ.length ≤ 58) : ext z (z + 1) (false :: false :: σ) (false :: σ) N M (putN N z x 0) (putM M z c 0) := ext_put hc (by decide) (fun s d hs _ => Sg_bin hl hs hx)
theorem ext_binp {z x c w : Int} {σ : List Bool} {N M : oM} (hc : opn x = c) (hx : x = 43 ∨ x = 45 ∨ x = 42 ∨ x = 47 ∨ x = 37) (hl : σ.length ≤ 58) : ext z (z + 1) (false :: false :: σ) (false :: σ) N M (putN N z x 0) (popM M z c w) := ext_right (ext_bin hc hx hl) rfl rfl popM_64
/-- what waits as a factor -/
theorem close_F {f : Nat} {b : Int → Int} {n p z e0 w0 op wt wf l : Int} {N0 M0 N M : oM} {σ : List Bool} (hR : nuR b n N0 M0 p z (e0 + cn wt + cn wf) (w0 + cn wt + cn wf) op N M) (he : 0 ≤ e0) (hw0 : 0 ≤ w0) (hp : pnd M w0 wt wf) (hl : (fsx wt σ).length ≤ 58) :
    ∃ M2, nuR b n N0 M0 p (z + cn wf) (e0 + cn wt) (w0 + cn wt) op (putX N z wf) M2 ∧ ext z (z + cn wf) (false :: fsx wf (fsx wt σ)) (false :: fsx wt σ) N M (putX N z wf) M2 ∧ M2 65 = M 65 ∧ (∀ (K : Int) (r : Int × oM), 0 ≤ K → Lm (p_M_closesSums_L0 f l) K M2 r → Lm (p_M_closesSums_L0 f l) (K + 1) M r) := by
  have hct := cn_bd wt
  have hp240 := hR.2.2.1
  by_cases q : wf = -1
  · have e1 : cn wf = 0 := if_pos q
    have e2 : putX N z wf = N := if_pos q
    have e3 : fsx wf (fsx wt σ) = fsx wt σ := if_pos q
    rw [e1, Int.add_zero, Int.add_zero] at hR
    rw [e1, e2, e3, Int.add_zero]
    exact ⟨M, hR, ext_refl rfl rfl rfl, rfl, fun K r hK h => Lm_mono h (by omega)⟩
  · have e1 : cn wf = 1 := if_neg q
    have e2 : putX N z wf = putN N z wf 0 := if_neg q
    have e3 : fsx wf (fsx wt σ) = false :: fsx wt σ := if_neg q
    rw [e1] at hR
    rw [e1, e2, e3]
    have ho := opn_F hp.2.1 q
    have htop : topIs M (w0 + cn wt + 1) (opn wf) := topIs_at (by omega) (by omega) (by rw [show w0 + cn wt + 1 - 1 = w0 + cn wt from by omega]; exact hp.2.2.2 q)
    have hn := nu_pop (x := wf) (c := opn wf) hR (by omega) (by omega)
    rw [show e0 + cn wt + 1 - 1 = e0 + cn wt from by omega, show w0 + cn wt + 1 - 1 = w0 + cn wt from by omega] at hn
    obtain ⟨-, -, -, h4, h5, -⟩ := id hR
    have hs := cl_mul (f := f) (l := l) h5.1 (by omega) htop ho h4.2.1 (by omega)
    exact ⟨_, hn, ext_binp rfl (op_x (.inr hp.2.1) q) hl, popM_65, fun K r hK h => Lm_inl hs h (by omega)⟩
theorem close_T {f : Nat} {b : Int → Int} {n p z e0 w0 op wt : Int} {N0 M0 N M : oM} {σ : List Bool} (hR : nuR b n N0 M0 p z (e0 + cn wt) (w0 + cn wt) op N M) (he : 0 ≤ e0) (hw0 : 0 ≤ w0) (ht : isT wt) (hp : wt ≠ -1 → M 65 w0 = 1048576 * opn wt) (hl : σ.length ≤ 58) :
    ∃ M2, nuR b n N0 M0 p (z + cn wt) e0 w0 op (putX N z wt) M2 ∧ ext z (z + cn wt) (false :: fsx wt σ) (false :: σ) N M (putX N z wt) M2 ∧ M2 65 = M 65 ∧ (∀ (K : Int) (r : Int × oM), 0 ≤ K → Lm (p_M_closesSums_L0 f 1) K M2 r → Lm (p_M_closesSums_L0 f 1) (K + 1) M r) := by
  have hp240 := hR.2.2.1
  by_cases q : wt = -1
  · have e1 : cn wt = 0 := if_pos q
    have e2 : putX N z wt = N := if_pos q
    have e3 : fsx wt σ = σ := if_pos q
    rw [e1, Int.add_zero, Int.add_zero] at hR
    rw [e1, e2, e3, Int.add_zero]
    exact ⟨M, hR, ext_refl rfl rfl rfl, rfl, fun K r hK h => Lm_mono h (by omega)⟩
  · have e1 : cn wt = 1 := if_neg q
    have e2 : putX N z wt = putN N z wt 0 := if_neg q
    have e3 : fsx wt σ = false :: σ := if_neg q
    rw [e1] at hR
    rw [e1, e2, e3]
    have ho := opn_T ht q
    have htop : topIs M (w0 + 1) (opn wt) := topIs_at (by omega) (by omega) (by rw [show w0 + 1 - 1 = w0 from by omega]; exact hp q)
    have hn := nu_pop (x := wt) (c := opn wt) hR (by omega) (by omega)
    rw [show e0 + 1 - 1 = e0 from by omega, show w0 + 1 - 1 = w0 from by omega] at hn
    obtain ⟨-, -, -, h4, h5, -⟩ := id hR
    have hs := cl_add (f := f) h5.1 (by omega) htop ho h4.2.1 (by omega)
    exact ⟨_, hn, ext_binp rfl (op_x (.inl ht) q) hl, popM_65, fun K r hK h => Lm_inl hs h (by omega)⟩
theorem closes_mul {f : Nat} {b : Int → Int} {n p z e0 w0 op wt wf : Int} {N0 M0 N M : oM} {σ : List Bool} (hf : 2000 < f) (hR : nuR b n N0 M0 p z (e0 + cn wt + cn wf) (w0 + cn wt + cn wf) op N M) (he : 0 ≤ e0) (hw0 : 0 ≤ w0) (hp : pnd M w0 wt wf) (hb : botT M w0) (hl : (fsx wt σ).length ≤ 58) :
    ∃ M2, p_M_closesSums f 0 M = some (0, M2) ∧ nuR b n N0 M0 p (z + cn wf) (e0 + cn wt) (w0 + cn wt) op (putX N z wf) M2 ∧ ext z (z + cn wf) (false :: fsx wf (fsx wt σ)) (false :: fsx wt σ) N M (putX N z wf) M2 ∧ M2 65 = M 65 := by
  obtain ⟨M2, h1, h2, h3, h4⟩ := close_F (f := f) (l := 0) hR he hw0 hp hl
  refine ⟨M2, h4 0 _ (Int.le_refl 0) ?_ f (by omega), h1, h2, h3⟩
  have hp240 := hR.2.2.1
  have g5 := h1.2.2.2.2.1
  by_cases q : wt = -1
  · have e1 : cn wt = 0 := if_pos q
    rw [e1, Int.add_zero] at g5
    obtain ⟨t, ht, ht2⟩ := hb
    exact Lm_inr (cl_stop g5.1 (by omega) (topIs_row ht h3) (.inl ⟨rfl, by omega⟩)) (Int.le_refl 0)
  · have e1 : cn wt = 1 := if_neg q
    rw [e1] at g5
    have ho := opn_T hp.1 q
    exact Lm_inr (cl_stop (t := opn wt) g5.1 (by omega) (topIs_at (by omega) (by omega) (by rw [h3, show w0 + 1 - 1 = w0 from by omega]; exact hp.2.2.1 q)) (.inl ⟨rfl, by omega⟩)) (Int.le_refl 0)
theorem closes_all {f : Nat} {b : Int → Int} {n p z e0 w0 op wt wf : Int} {N0 M0 N M : oM} {σ : List Bool} (hf : 2000 < f) (hR : nuR b n N0 M0 p z (e0 + cn wt + cn wf) (w0 + cn wt + cn wf) op N M) (he : 0 ≤ e0) (hw0 : 0 ≤ w0) (hp : pnd M w0 wt wf) (hb : botT M w0) (hl : (fsx wt σ).length ≤ 58) (hl2 : σ.length ≤ 58) :
    ∃ M3, p_M_closesSums f 1 M = some (0, M3) ∧ nuR b n N0 M0 p (z + cn wf + cn wt) e0 w0 op (putX (putX N z wf) (z + cn wf) wt) M3 ∧ ext z (z + cn wf + cn wt) (false :: fsx wf (fsx wt σ)) (false :: σ) N M (putX (putX N z wf) (z + cn wf) wt) M3 ∧ M3 65 = M 65 := by
  obtain ⟨M2, h1, h2, h3, h4⟩ := close_F (f := f) (l := 1) hR he hw0 hp hl
  obtain ⟨M3, g1, g2, g3, g4⟩ := close_T (f := f) h1 he hw0 hp.1 (by rw [h3]; exact hp.2.2.1) hl2
  refine ⟨M3, h4 1 _ (by decide) (g4 0 _ (Int.le_refl 0) ?_) f (by omega), g1, ext_trans h2 g2, g3.trans h3⟩
  have hp240 := hR.2.2.1
  have g5 := g1.2.2.2.2.1
  obtain ⟨t, ht, ht2⟩ := hb
  exact Lm_inr (cl_stop g5.1 (by omega) (topIs_row ht (g3.trans h3)) (.inr ⟨rfl, ht2⟩)) (Int.le_refl 0)
/-! is a bracket open above base -/
theorem ho_no {f : Nat} {base w : Int} {M : oM} (hf : 2000 < f) (hw : M 57 14 = w) (hb : 0 ≤ base ∧ base ≤ w ∧ w ≤ 250) (h : ∀ j : Int, base ≤ j → j < w → ∃ c, (0 ≤ c ∧ c ≤ 14) ∧ c ≠ 14 ∧ M 65 j = 1048576 * c) : p_M_hasOpenSum f base M = some (0, M) := by
  obtain ⟨m, hm⟩ : ∃ m : Nat, (m : Int) = w - base := ⟨(w - base).toNat, by omega⟩
  have hr : okp (p_M_hasOpenSum f base M) (fun q => q = (0, M)) := by
    unfold p_M_hasOpenSum
    refine for_ok m (fun (k : Nat) (s : Int × oM) => s = (base + (k : Int), M)) (fun k s hk hI => ?_) (fun s hI => ?_) f (by omega) (by show (base, M) = _; rw [show base + ((0 : Nat) : Int) = base from Int.add_zero base])
    · subst hI
      obtain ⟨c, h1, h2, h3⟩ := h (base + (k : Int)) (by omega) (by omega)
      unfold p_M_hasOpenSum_L2
      simp only []
      rw [hw, if_pos (by omega), bnd_eq (by omega) (by omega), nz_eq (by decide), h3, show 1048576 * c = 1048576 * c + 0 from (Int.add_zero _).symm, (td20 h1 (by decide)).1, if_neg h2, w32_of (by omega) (by omega), lt_eq]
      show (base + (k : Int) + 1, M) = (base + ((k + 1 : Nat) : Int), M)
      rw [show base + ((k + 1 : Nat) : Int) = base + (k : Int) + 1 from by omega]
    · subst hI
      unfold p_M_hasOpenSum_L2
      simp only []
      rw [hw, if_neg (by omega)]
      rfl
  obtain ⟨q, eq, h1⟩ := okp_ex hr
  rw [eq, h1]
theorem ho_yes {f : Nat} {base w j0 : Int} {M : oM} (hf : 2000 < f) (hw : M 57 14 = w) (hb : 0 ≤ base ∧ base ≤ j0 ∧ j0 < w ∧ w ≤ 250) (h : ∀ j : Int, base ≤ j → j < w → ∃ c, (0 ≤ c ∧ c ≤ 14) ∧ M 65 j = 1048576 * c) (h14 : M 65 j0 = 1048576 * 14) : p_M_hasOpenSum f base M = some (1, M) := by
  obtain ⟨m, hm⟩ : ∃ m : Nat, (m : Int) = j0 - base := ⟨(j0 - base).toNat, by omega⟩
  have hr : okp (p_M_hasOpenSum f base M) (fun q => q = (1, M)) := by
    unfold p_M_hasOpenSum
    refine for_ok m (fun (k : Nat) (s : Int × oM) => s = (base + (k : Int), M)) (fun k s hk hI => ?_) (fun s hI => ?_) f (by omega) (by show (base, M) = _; rw [show base + ((0 : Nat) : Int) = base from Int.add_zero base])
    · subst hI
      obtain ⟨c, h1, h3⟩ := h (base + (k : Int)) (by omega) (by omega)
      unfold p_M_hasOpenSum_L2
      simp only []
      rw [hw, if_pos (by omega), bnd_eq (by omega) (by omega), nz_eq (by decide), h3, show 1048576 * c = 1048576 * c + 0 from (Int.add_zero _).symm, (td20 h1 (by decide)).1]
      by_cases q : c = 14
      · rw [if_pos q]
        rfl
      · rw [if_neg q, w32_of (by omega) (by omega), lt_eq]
        show (base + (k : Int) + 1, M) = (base + ((k + 1 : Nat) : Int), M)
        rw [show base + ((k + 1 : Nat) : Int) = base + (k : Int) + 1 from by omega]
    · subst hI
      unfold p_M_hasOpenSum_L2
      simp only []
      rw [hw, if_pos (by omega), bnd_eq (by omega) (by omega), nz_eq (by decide), show base + (m : Int) = j0 from by omega, h14, show (1048576 * 14 : Int) = 1048576 * 14 + 0 from rfl, (td20 (c := 14) (by decide) (by decide)).1, if_pos rfl]
      rfl
  obtain ⟨q, eq, h1⟩ := okp_ex hr
  rw [eq, h1]
