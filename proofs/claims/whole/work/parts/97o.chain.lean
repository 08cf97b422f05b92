/-! THE LAW: the pieces of a condition; the reference's signs -/
theorem ldN_28 {N : oM} {x z : Int} : (ldN N x z) 28 = N 28 := by
  unfold ldN
  by_cases q : x = -1
  · rw [if_pos q]
  · rw [if_neg q, oU_row (by decide)]
theorem ldN_29 {N : oM} {x z i : Int} (h : i ≠ x) : (ldN N x z) 29 i = N 29 i := by
  unfold ldN
  by_cases q : x = -1
  · rw [if_pos q]
  · rw [if_neg q, oU_i h]
theorem ldN_29at {N : oM} {x z : Int} (h : x ≠ -1) : (ldN N x z) 29 x = z := by
  unfold ldN
  rw [if_neg h, oU_at]
theorem ldM_64 {M : oM} {x z w c i : Int} (h : i ≠ x) : (ldM M x z w c) 64 i = M 64 i := by
  unfold ldM
  by_cases q : x = -1
  · rw [if_pos q]
  · rw [if_neg q, oU_o (by decide), oU_i h]
theorem ldM_64at {M : oM} {x z w c : Int} (h : x ≠ -1) : (ldM M x z w c) 64 x = 1048576 * c + z := by
  unfold ldM
  rw [if_neg h, oU_o (by decide), oU_at]
def stA (z0 lo : Int) : Int := if lo = -1 then z0 else lo + 1
def cdO (z0 z : Int) (lo la : Int) (N M : oM) : Prop := ∀ i : Int, z0 ≤ i → i < z → i ≠ lo → i ≠ la → (0 ≤ N 29 i ∧ N 29 i < 1048576) ∧ M 64 i = 1048576 * opn (N 28 i) + N 29 i
def orJ (z0 z lo : Int) (N M : oM) : Prop := lo ≠ -1 → z0 ≤ lo ∧ lo < z ∧ N 28 lo = 124 ∧ M 64 lo = 1048576 * 12 ∧ Sg (N 28) (N 29) z0 lo [] [true]
def J (z0 z lo la : Int) (N M : oM) : Prop := z0 ≤ z ∧ orJ z0 z lo N M ∧ (la = -1 → z = stA z0 lo) ∧ (la ≠ -1 → stA z0 lo ≤ la ∧ la + 1 = z ∧ N 28 la = 38 ∧ M 64 la = 1048576 * 11 ∧ Sg (N 28) (N 29) (stA z0 lo) la [] [true]) ∧ cdO z0 z lo la N M
def J2 (z0 z lo : Int) (N M : oM) : Prop := z0 ≤ z ∧ orJ z0 z lo N M ∧ Sg (N 28) (N 29) (stA z0 lo) z [] [true] ∧ cdO z0 z lo (-1) N M
theorem stA_le {z0 z lo : Int} {N M : oM} (h : orJ z0 z lo N M) : z0 ≤ stA z0 lo ∧ (lo ≠ -1 → stA z0 lo = lo + 1) := by
  unfold stA
  by_cases q : lo = -1
  · rw [if_pos q]; exact ⟨Int.le_refl z0, fun h => absurd q h⟩
  · rw [if_neg q]
    have := h q
    exact ⟨by omega, fun _ => rfl⟩
theorem J_landA {z0 z z1 lo la w : Int} {N M N1 M1 : oM} (hJ : J z0 z lo la N M) (hx : ext z z1 [] [true] N M N1 M1) (h0 : 0 ≤ z0) (hz1 : z1 ≤ 240) : J2 z0 z1 lo (ldN N1 la z1) (ldM M1 la z1 w 11) := by
  obtain ⟨j1, j2, j3, j4, j5⟩ := hJ
  obtain ⟨x1, x2, x3, x4⟩ := hx
  have hA := stA_le j2
  have hlo : lo ≠ -1 → lo ≠ la := fun q => by
    by_cases ql : la = -1
    · omega
    · have := j4 ql
      have := hA.2 q
      omega
  have hla : la < z := by
    by_cases ql : la = -1
    · omega
    · have := j4 ql
      omega
  have hc1 : ∀ {a c : Int} {σ : List Bool}, Sg (N 28) (N 29) a c [] σ → z0 ≤ a → c ≤ z → (la = -1 ∨ c ≤ la) → Sg (ldN N1 la z1 28) (ldN N1 la z1 29) a c [] σ := fun h a0 c0 c1 => Sg_congr h fun i i0 i1 => by
    have := x2 i (by omega)
    rw [ldN_28, ldN_29 (by omega)]
    exact ⟨this.1, this.2.1⟩
  have hc2 : Sg (ldN N1 la z1 28) (ldN N1 la z1 29) z z1 [] [true] := Sg_congr x4 fun i i0 i1 => by
    rw [ldN_28, ldN_29 (by omega)]
    exact ⟨rfl, rfl⟩
  refine ⟨by omega, fun q => ?_, ?_, fun i i0 i1 i2 i3 => ?_⟩
  · obtain ⟨k1, k2, k3, k4, k5⟩ := j2 q
    have e := x2 lo k2
    refine ⟨k1, by omega, ?_, ?_, hc1 k5 (Int.le_refl z0) (by omega) ?_⟩
    · rw [ldN_28, e.1]; exact k3
    · rw [ldM_64 (hlo q), e.2.2]; exact k4
    · by_cases ql : la = -1
      · exact .inl ql
      · have := j4 ql
        have := hA.2 q
        exact .inr (by omega)
  · by_cases ql : la = -1
    · rw [← j3 ql]; exact hc2
    · obtain ⟨k1, k2, k3, k4, k5⟩ := j4 ql
      have e := x2 la (by omega)
      refine Sg_jump (m := la) (by decide) (hc1 k5 hA.1 (by omega) (.inr (Int.le_refl la))) (.inl ?_) (ldN_29at ql) (by rw [k2]; exact hc2)
      rw [ldN_28, e.1]; exact k3
  · by_cases ql : i = la
    · subst ql
      obtain ⟨k1, k2, k3, k4, k5⟩ := j4 i3
      have e := x2 i (by omega)
      rw [ldN_29at i3, ldM_64at i3, ldN_28, e.1, k3]
      exact ⟨by omega, rfl⟩
    · rw [ldN_29 ql, ldM_64 ql, ldN_28]
      by_cases qz : i < z
      · have e := x2 i qz
        rw [e.1, e.2.1, e.2.2]
        exact j5 i i0 qz i2 ql
      · exact x3 i (by omega) i1
theorem J_landO {z0 z1 lo w : Int} {N M : oM} (hJ : J2 z0 z1 lo N M) (h0 : 0 ≤ z0) (hz1 : z1 ≤ 240) : cdR z0 z1 (ldN N lo z1) (ldM M lo z1 w 12) ∧ Sg (ldN N lo z1 28) (ldN N lo z1 29) z0 z1 [] [true] := by
  obtain ⟨j1, j2, j3, j4⟩ := hJ
  have hA := stA_le j2
  refine ⟨fun i i0 i1 => ?_, ?_⟩
  · by_cases ql : i = lo
    · subst ql
      have i3 : i ≠ -1 := by omega
      obtain ⟨k1, k2, k3, k4, k5⟩ := j2 i3
      rw [ldN_29at i3, ldM_64at i3, ldN_28, k3]
      exact ⟨by omega, rfl⟩
    · rw [ldN_29 ql, ldM_64 ql, ldN_28]
      exact j4 i i0 i1 ql (by omega)
  · by_cases q : lo = -1
    · have e : stA z0 lo = z0 := if_pos q
      rw [e] at j3
      exact Sg_congr j3 fun i i0 i1 => by rw [ldN_28, ldN_29 (by omega)]; exact ⟨rfl, rfl⟩
    · have e : stA z0 lo = lo + 1 := if_neg q
      rw [e] at j3
      obtain ⟨k1, k2, k3, k4, k5⟩ := j2 q
      refine Sg_jump (m := lo) (by decide) (Sg_congr k5 fun i i0 i1 => ?_) (.inr ?_) (ldN_29at q) (Sg_congr j3 fun i i0 i1 => ?_)
      · rw [ldN_28, ldN_29 (by omega)]; exact ⟨rfl, rfl⟩
      · rw [ldN_28]; exact k3
      · rw [ldN_28, ldN_29 (by omega)]; exact ⟨rfl, rfl⟩
def jpM (M : oM) (z c w p : Int) : oM := oU (putM (oU (oU M 65 w (1048576 * c + z)) 57 14 (w + 1)) z c 0) 57 8 (p + 1)
theorem putN_at {N : oM} {z x y : Int} : (putN N z x y) 28 z = x ∧ (putN N z x y) 29 z = y ∧ ∀ i : Int, i ≠ z → (putN N z x y) 28 i = N 28 i ∧ (putN N z x y) 29 i = N 29 i := by
  unfold putN
  refine ⟨by rw [oU_o (by decide), oU_o (by decide), oU_at], by rw [oU_o (by decide), oU_at], fun i h => ⟨by rw [oU_o (by decide), oU_o (by decide), oU_i h], by rw [oU_o (by decide), oU_i h, oU_o (by decide)]⟩⟩
theorem jpM_at {M : oM} {z c w p : Int} : (jpM M z c w p) 64 z = 1048576 * c ∧ (∀ i : Int, i ≠ z → (jpM M z c w p) 64 i = M 64 i) ∧ (jpM M z c w p) 65 w = 1048576 * c + z ∧ ∀ j : Int, j ≠ w → (jpM M z c w p) 65 j = M 65 j := by
  unfold jpM putM
  refine ⟨by rw [oU_o (by decide), oU_o (by decide), oU_at, Int.add_zero], fun i h => by rw [oU_o (by decide), oU_o (by decide), oU_i h, oU_o (by decide), oU_o (by decide)], by rw [oU_o (by decide), oU_o (by decide), oU_o (by decide), oU_o (by decide), oU_at], fun j h => by rw [oU_o (by decide), oU_o (by decide), oU_o (by decide), oU_o (by decide), oU_i h]⟩
theorem J_and {z0 z1 lo w p : Int} {N M : oM} (hJ : J2 z0 z1 lo N M) (h0 : 0 ≤ z0) (hA : stA z0 lo ≤ z1) : J z0 (z1 + 1) lo z1 (putN N z1 38 z1) (jpM M z1 11 w p) := by
  obtain ⟨j1, j2, j3, j4⟩ := hJ
  obtain ⟨n1, n2, n3⟩ := putN_at (N := N) (z := z1) (x := 38) (y := z1)
  obtain ⟨m1, m2, -⟩ := jpM_at (M := M) (z := z1) (c := 11) (w := w) (p := p)
  refine ⟨by omega, fun q => ?_, fun q => by omega, fun q => ⟨hA, rfl, n1, m1, Sg_congr j3 fun i i0 i1 => n3 i (by omega)⟩, fun i i0 i1 i2 i3 => ?_⟩
  · obtain ⟨k1, k2, k3, k4, k5⟩ := j2 q
    exact ⟨k1, by omega, by rw [(n3 lo (by omega)).1]; exact k3, by rw [m2 lo (by omega)]; exact k4, Sg_congr k5 fun i i0 i1 => n3 i (by omega)⟩
  · have e := n3 i i3
    rw [e.1, e.2, m2 i i3]
    exact j4 i i0 (by omega) i2 (by omega)
theorem J_or {z0 z1 w p : Int} {N M : oM} (hc : cdR z0 z1 N M) (hs : Sg (N 28) (N 29) z0 z1 [] [true]) (h0 : 0 ≤ z0) (h1 : z0 ≤ z1) : J z0 (z1 + 1) z1 (-1) (putN N z1 124 z1) (jpM M z1 12 w p) := by
  obtain ⟨n1, n2, n3⟩ := putN_at (N := N) (z := z1) (x := 124) (y := z1)
  obtain ⟨m1, m2, -⟩ := jpM_at (M := M) (z := z1) (c := 12) (w := w) (p := p)
  refine ⟨by omega, fun q => ⟨h1, by omega, n1, m1, Sg_congr hs fun i i0 i1 => n3 i (by omega)⟩, fun _ => ?_, fun q => absurd rfl q, fun i i0 i1 i2 i3 => ?_⟩
  · unfold stA
    rw [if_neg (by omega)]
  · have e := n3 i i2
    rw [e.1, e.2, m2 i i2]
    exact hc i i0 (by omega)
theorem e_jumps {f : Nat} {z c w p : Int} {M : oM} (hw : M 57 14 = w) (hz : M 57 13 = z) (h8 : M 57 8 = p) (hb : 0 ≤ w ∧ w < 250) (hzb : 0 ≤ z ∧ z < 240) (hp : 0 ≤ p ∧ p ≤ 1000) (hc : 0 ≤ c ∧ c ≤ 14) : p_M_jumps f c M = some (0, jpM M z c w p) := by
  have a1 : oU M 65 w (1048576 * c + z) 57 14 = w := (oU_o (by decide)).trans hw
  have a2 : oU (oU M 65 w (1048576 * c + z)) 57 14 (w + 1) 57 13 = z := (oU_i (by decide)).trans ((oU_o (by decide)).trans hz)
  have a3 : putM (oU (oU M 65 w (1048576 * c + z)) 57 14 (w + 1)) z c 0 57 8 = p := by
    unfold putM
    rw [oU_i (by decide), oU_o (by decide), oU_i (by decide), oU_o (by decide)]; exact h8
  unfold p_M_jumps jpM
  rw [hw, bnd_eq hb.1 (by omega), w32_of (a := 1048576 * c) (by omega) (by omega), hz, w32_of (a := 1048576 * c + z) (by omega) (by omega), lt_eq, a1, w32_of (a := w + 1) (by omega) (by omega), lt_eq, e_notes a2 hzb hc (by decide), Option.bind_some, show ((0 : Int), putM (oU (oU M 65 w (1048576 * c + z)) 57 14 (w + 1)) z c 0).snd 57 8 = p from a3, w32_of (a := p + 1) (by omega) (by omega), lt_eq]
theorem nx_jump {b : Int → Int} {n p z e w op x y c : Int} {N0 M0 N M : oM} (h : nuX b n N0 M0 (p + 1) p z (e + 1) w op N M) (he : 0 ≤ e) (hw : w + 1 ≤ p + 1) : nuR b n N0 M0 (p + 1) (z + 1) e (w + 1) op (putN N z x y) (jpM M z c w p) := by
  obtain ⟨h1, h2, h3, h4, h5, h6, h7, h8⟩ := h
  refine ⟨rdC_put h1, rdM_next (rdM_put (rdM_57 (rdM_o h2 (by decide) (by decide)) (by decide) (by decide))) (by omega), h3, ⟨oU_at, ?_, by omega, he, by omega⟩, ⟨?_, by omega, hw⟩, ⟨?_, h6.2⟩, ?_, ?_⟩
  · unfold jpM; rw [oU_i (by decide)]; exact oU_at
  · unfold jpM putM; rw [oU_i (by decide), oU_i (by decide), oU_o (by decide), oU_at]
  · unfold jpM putM; rw [oU_i (by decide), oU_i (by decide), oU_o (by decide), oU_i (by decide), oU_o (by decide)]; exact h6.1
  · exact eqo_oU (.tail _ (.tail _ (.head _))) (eqo_oUa (.tail _ (.tail _ (.tail _ (.tail _ (.head _))))) (eqo_oUa (.tail _ (.tail _ (.tail _ (.head _)))) h7))
  · exact eqo_oU (.head _) (eqo_oU (.tail _ (.tail _ (.tail _ (.tail _ (.head _))))) (eqo_oUa (.tail _ (.tail _ (.tail _ (.tail _ (.tail _ (.tail _ (.head _))))))) (eqo_oU (.tail _ (.tail _ (.tail _ (.tail _ (.tail _ (.head _)))))) (eqo_oUa (.tail _ (.tail _ (.tail _ (.tail _ (.tail _ (.tail _ (.tail _ (.head _)))))))) h8))))
def clM (M : oM) (w op p : Int) : oM := oU (oU (oU M 57 14 (w - 1)) 57 12 (op - 1)) 57 8 (p + 1)
theorem nx_close {b : Int → Int} {n p z e w op : Int} {N0 M0 N M : oM} (h : nuX b n N0 M0 (p + 1) p z e w op N M) (hw : 1 ≤ w) (hop : 1 ≤ op) : nuR b n N0 M0 (p + 1) z e (w - 1) (op - 1) N (clM M w op p) := by
  obtain ⟨h1, h2, h3, h4, h5, h6, h7, h8⟩ := h
  unfold clM
  refine ⟨h1, rdM_next (rdM_57 (rdM_57 h2 (by decide) (by decide)) (by decide) (by decide)) (by omega), h3, ⟨h4.1, ?_, h4.2.2⟩, ⟨?_, by omega, by omega⟩, ⟨?_, by omega, by omega⟩, h7, ?_⟩
  · rw [oU_i (by decide), oU_i (by decide), oU_i (by decide)]; exact h4.2.1
  · rw [oU_i (by decide), oU_i (by decide), oU_at]
  · rw [oU_i (by decide), oU_at]
  · exact eqo_oU (.head _) (eqo_oU (.tail _ (.tail _ (.tail _ (.head _)))) (eqo_oU (.tail _ (.tail _ (.tail _ (.tail _ (.tail _ (.head _)))))) h8))
/-! the reference after a test -/
theorem L92_no {f : Nat} {b : Int → Int} {n p : Int} {M : oM} (h : rdM b n M p) (hc : chT b n p ≠ 41) : p_M_readsCondition_L92 f M = some (.inr (.inr M)) := by
  have hh := e_M_here (f := f) h
  unfold p_M_readsCondition_L92
  simp only []
  rw [hh, Option.bind_some, if_neg (show ¬ (chT b n p, M).fst = 41 from hc)]
theorem TB_and {f : Nat} {b : Int → Int} {n p : Int} {M M2 M9 : oM} {R : Int × oM} (h : rdM b n M p) (hc : chT b n p = 38) (hl : p_M_lands f 0 M = some (0, M2)) (h2 : rdM b n M2 p) (hj : p_M_jumps f 11 M2 = some (0, M9)) (hp : p < 300) (hR : TT f (300 - (p + 1)) M9 R) : TB f (300 - p) M R := by
  have hh := e_M_here (f := f) h
  have hh2 := e_M_here (f := f) h2
  refine ⟨.inr M, Lm_inr (L92_no h (by omega)) (by omega), .inr ⟨M9, ?_, Lm_mono hR (by omega)⟩⟩
  unfold p_M_readsCondition_X92 p_M_readsCondition_B180_40 p_M_readsCondition_B195_40 p_M_readsCondition_B215_40
  simp only []
  rw [hh, Option.bind_some, if_pos (show (chT b n p, M).fst = 38 from hc), show p_M_here f (chT b n p, M).snd = _ from hh, Option.bind_some, if_neg (show ¬ (chT b n p, M).fst = 124 from by show ¬ chT b n p = 124; omega), show p_M_lands f 0 (chT b n p, M).snd = _ from hl, Option.bind_some, show p_M_here f ((0 : Int), M2).snd = _ from hh2, Option.bind_some, if_pos (show (chT b n p, M2).fst = 38 from hc), show p_M_jumps f 11 (chT b n p, M2).snd = _ from hj, Option.bind_some]
theorem TB_or {f : Nat} {b : Int → Int} {n p : Int} {M M2 M9 : oM} {R : Int × oM} (h : rdM b n M p) (hc : chT b n p = 124) (hl : p_M_lands f 1 M = some (0, M2)) (h2 : rdM b n M2 p) (hj : p_M_jumps f 12 M2 = some (0, M9)) (hp : p < 300) (hR : TT f (300 - (p + 1)) M9 R) : TB f (300 - p) M R := by
  have hh := e_M_here (f := f) h
  have hh2 := e_M_here (f := f) h2
  refine ⟨.inr M, Lm_inr (L92_no h (by omega)) (by omega), .inr ⟨M9, ?_, Lm_mono hR (by omega)⟩⟩
  unfold p_M_readsCondition_X92 p_M_readsCondition_B180_40 p_M_readsCondition_B195_40 p_M_readsCondition_B215_40
  simp only []
  rw [hh, Option.bind_some, if_neg (show ¬ (chT b n p, M).fst = 38 from by show ¬ chT b n p = 38; omega), show p_M_here f (chT b n p, M).snd = _ from hh, Option.bind_some, if_pos (show (chT b n p, M).fst = 124 from hc), show p_M_here f (chT b n p, M).snd = _ from hh, Option.bind_some, if_pos (show (chT b n p, M).fst = 124 from hc), show p_M_lands f 1 (chT b n p, M).snd = _ from hl, Option.bind_some, show p_M_here f ((0 : Int), M2).snd = _ from hh2, Option.bind_some, if_neg (show ¬ (chT b n p, M2).fst = 38 from by show ¬ chT b n p = 38; omega), show p_M_jumps f 12 (chT b n p, M2).snd = _ from hj, Option.bind_some]
theorem TB_bad {f : Nat} {b : Int → Int} {n p : Int} {M : oM} (h : rdM b n M p) (hc : chT b n p ≠ 38 ∧ chT b n p ≠ 124 ∧ chT b n p ≠ 41) (hp : p < 300) : TB f (300 - p) M (0, oU M 57 10 (-1000 * 1 - p)) := by
  have hh := e_M_here (f := f) h
  have hp2 := h.2.2.2
  refine ⟨.inr M, Lm_inr (L92_no h hc.2.2) (by omega), .inl ?_⟩
  unfold p_M_readsCondition_X92
  simp only []
  rw [hh, Option.bind_some, if_neg (show ¬ (chT b n p, M).fst = 38 from hc.1), show p_M_here f (chT b n p, M).snd = _ from hh, Option.bind_some, if_neg (show ¬ (chT b n p, M).fst = 124 from hc.2.1), show (chT b n p, M).snd 57 8 = p from hp2.1, e_wrongR (by decide) (by omega)]
theorem L92_close {f : Nat} {b : Int → Int} {n p w op : Int} {M M2 : oM} (h : rdM b n M p) (hc : chT b n p = 41) (hl : p_M_lands f 1 M = some (0, M2)) (h14 : M2 57 14 = w) (h12 : M2 57 12 = op) (h8 : M2 57 8 = p) (hb : 1 ≤ w ∧ w ≤ 250 ∧ 1 ≤ op ∧ op ≤ 6) : p_M_readsCondition_L92 f M = if w - 1 = 0 then some (.inr (.inl (1, clM M2 w op p))) else (p_M_endsPiece f (clM M2 w op p)).bind fun q16 => some (.inl q16.2) := by
  have hh := e_M_here (f := f) h
  have hp2 := h.2.2.2
  have a1 : oU M2 57 14 (w - 1) 57 12 = op := (oU_i (by decide)).trans h12
  have a2 : oU (oU M2 57 14 (w - 1)) 57 12 (op - 1) 57 8 = p := (oU_i (by decide)).trans ((oU_i (by decide)).trans h8)
  have a3 : oU (oU (oU M2 57 14 (w - 1)) 57 12 (op - 1)) 57 8 (p + 1) 57 14 = w - 1 := (oU_i (by decide)).trans ((oU_i (by decide)).trans oU_at)
  unfold p_M_readsCondition_L92
  simp only []
  rw [hh, Option.bind_some, if_pos (show (chT b n p, M).fst = 41 from hc), show p_M_lands f 1 (chT b n p, M).snd = _ from hl, Option.bind_some, show ((0 : Int), M2).snd 57 14 = w from h14, w32_of (a := w - 1) (by omega) (by omega), lt_eq, show oU ((0 : Int), M2).snd 57 14 (w - 1) 57 12 = op from a1, w32_of (a := op - 1) (by omega) (by omega), lt_eq, show oU (oU ((0 : Int), M2).snd 57 14 (w - 1)) 57 12 (op - 1) 57 8 = p from a2, w32_of (a := p + 1) (by omega) (by omega), lt_eq, show oU (oU (oU ((0 : Int), M2).snd 57 14 (w - 1)) 57 12 (op - 1)) 57 8 (p + 1) 57 14 = w - 1 from a3]
  rfl
theorem TB_close1 {f : Nat} {p : Int} {M M15 : oM} (h : p_M_readsCondition_L92 f M = some (.inr (.inl (1, M15)))) (hp : p ≤ 300) : TB f (300 - p) M (1, M15) := ⟨.inl (1, M15), Lm_inr h (by omega), .inl rfl⟩
theorem TB_close2 {f : Nat} {p : Int} {M M2 : oM} {R : Int × oM} (h : p_M_readsCondition_L92 f M = some (.inl M2)) (hp : p < 300) (hR : TB f (300 - (p + 1)) M2 R) : TB f (300 - p) M R := by
  obtain ⟨x, e1, e2⟩ := hR
  refine ⟨x, ?_, e2.imp id fun ⟨M', z1, z2⟩ => ⟨M', z1, Lm_mono z2 (by omega)⟩⟩
  have := Lm_inl h e1 (by omega)
  rw [show 300 - (p + 1) + 1 = 300 - p from by omega] at this
  exact this
