/-! THE LAW: a rule by both, from its kind on -/
theorem nu_refl {b : Int → Int} {n p z e w op : Int} {N0 M0 N M : oM} (h : nuR b n N0 M0 p z e w op N M) : nuR b n N M p z e w op N M := ⟨h.1, h.2.1, h.2.2.1, h.2.2.2.1, h.2.2.2.2.1, h.2.2.2.2.2.1, fun _ _ _ => rfl, fun _ _ _ => rfl⟩
def krN (N1 : oM) (k c z : Int) : oM := oU (oU N1 30 k c) 31 k z
def krM (M : oM) (k c z p : Int) : oM := oU (oU (oU (oU (oU M 66 k c) 57 8 (p + 1)) 67 k z) 57 12 0) 57 14 0
theorem rule_pre {f : Nat} {b : Int → Int} {n p k z c p1 z1 : Int} {N0 M0 N M N1 N4 M4 : oM} (hf : 2000 < f) (hR : lwR b n N0 M0 p k z N M) (hk : k < 16) (a3 : eqo [(1, 3), (1, 4)] N N1) (hp : p < p1) (h4 : nuR b n (krN N1 k c z) (krM M k c z p) p1 z1 0 0 0 N4 M4) (ho : oldE z (krN N1 k c z) (krM M k c z p) N4 M4) (hz : z ≤ z1) (hcd : cdR z z1 N4 M4) (hS : c ≠ 115 → Sg (N4 28) (N4 29) z z1 [] [false]) :
    okp (p_LR_readRule_B104 f k 0 N4) (fun q => okp (p_M_readsRule_B116 f M4) (fun q' => flQ lwC lwM N0 M0 (rlP b n N0 M0 p k) q q')) := by
  obtain ⟨r1, r2, r3, r4, r5, r6, r7, r8, r9⟩ := hR
  obtain ⟨c1, c2, c3, c4, c5, c6, c7, c8⟩ := id h4
  have n28 : krN N1 k c z 28 = N 28 := by unfold krN; rw [oU_row (by decide), oU_row (by decide), eqo_a a3 28 rfl]
  have n29 : krN N1 k c z 29 = N 29 := by unfold krN; rw [oU_row (by decide), oU_row (by decide), eqo_a a3 29 rfl]
  have n30k : N4 30 k = c := by rw [eqo_a c7 30 rfl]; unfold krN; rw [oU_o (by decide), oU_at]
  have n30 : ∀ i : Int, i ≠ k → N4 30 i = N 30 i := fun i hi => by rw [eqo_a c7 30 rfl]; unfold krN; rw [oU_o (by decide), oU_i hi, eqo_a a3 30 rfl]
  have n31k : N4 31 k = z := by rw [eqo_a c7 31 rfl]; unfold krN; rw [oU_at]
  have n31 : ∀ i : Int, i ≠ k → N4 31 i = N 31 i := fun i hi => by rw [eqo_a c7 31 rfl]; unfold krN; rw [oU_i hi, oU_o (by decide), eqo_a a3 31 rfl]
  have n32 : N4 32 = N 32 := by rw [eqo_a c7 32 rfl]; unfold krN; rw [oU_row (by decide), oU_row (by decide), eqo_a a3 32 rfl]
  have n33 : N4 33 = N 33 := by rw [eqo_a c7 33 rfl]; unfold krN; rw [oU_row (by decide), oU_row (by decide), eqo_a a3 33 rfl]
  have n10' : N4 27 10 = k := by rw [eqo_f c7 27 10 rfl]; unfold krN; rw [oU_o (by decide), oU_o (by decide), eqo_f a3 27 10 rfl]; exact r5.1
  have m64 : krM M k c z p 64 = M 64 := by unfold krM; rw [oU_row (by decide), oU_row (by decide), oU_row (by decide), oU_row (by decide), oU_row (by decide)]
  have m66k : M4 66 k = c := by rw [eqo_a c8 66 rfl]; unfold krM; rw [oU_o (by decide), oU_o (by decide), oU_o (by decide), oU_o (by decide), oU_at]
  have m66 : ∀ i : Int, i ≠ k → M4 66 i = M 66 i := fun i hi => by rw [eqo_a c8 66 rfl]; unfold krM; rw [oU_o (by decide), oU_o (by decide), oU_o (by decide), oU_o (by decide), oU_i hi]
  have m67k : M4 67 k = z := by rw [eqo_a c8 67 rfl]; unfold krM; rw [oU_o (by decide), oU_o (by decide), oU_at]
  have m67 : ∀ i : Int, i ≠ k → M4 67 i = M 67 i := fun i hi => by rw [eqo_a c8 67 rfl]; unfold krM; rw [oU_o (by decide), oU_o (by decide), oU_i hi, oU_o (by decide), oU_o (by decide)]
  have m68 : M4 68 = M 68 := by rw [eqo_a c8 68 rfl]; unfold krM; rw [oU_row (by decide), oU_row (by decide), oU_row (by decide), oU_row (by decide), oU_row (by decide)]
  have m69 : M4 69 = M 69 := by rw [eqo_a c8 69 rfl]; unfold krM; rw [oU_row (by decide), oU_row (by decide), oU_row (by decide), oU_row (by decide), oU_row (by decide)]
  have m15 : M4 57 15 = k := by rw [eqo_f c8 57 15 rfl]; unfold krM; rw [oU_i (by decide), oU_i (by decide), oU_o (by decide), oU_i (by decide), oU_o (by decide)]; exact r5.2.1
  have hold : ∀ i : Int, i < z → N4 28 i = N 28 i ∧ N4 29 i = N 29 i ∧ M4 64 i = M 64 i := fun i hi => by
    have := ho i hi
    rw [n28, n29, m64] at this
    exact this
  have hSg : ∀ {a e : Int} {σ : List Bool}, Sg (N 28) (N 29) a e [] σ → e ≤ z → Sg (N4 28) (N4 29) a e [] σ := fun h hcz => Sg_congr h fun i i0 i1 => ⟨(hold i (by omega)).1, (hold i (by omega)).2.1⟩
  refine rule_cond hf hp (nu_refl h4) ⟨n10', m15, r5.2.2.1, hk⟩ (by rw [m66k, n30k]) ⟨by rw [m67k, n31k], by rw [n31k]; exact r4.2.2.1, by rw [n31k]; exact hz⟩ (fun h => ?_) (fun i i0 i1 => ?_) (fun i i0 i1 => ?_) (lg_lwC ?_ c7) (lg_lwM ?_ c8)
  · rw [n31k]; rw [n30k] at h; exact hS h
  · by_cases q : i < z
    · have e := hold i q
      rw [e.1, e.2.1, e.2.2]
      exact r6 i i0 q
    · exact hcd i (by omega) i1
  · obtain ⟨k1, k2, k3, k4, k5, k6, k7⟩ := r7 i i0 i1
    have hne : i ≠ k := by omega
    unfold rl1
    rw [m66 i hne, m67 i hne, m68, m69, n30 i hne, n31 i hne, n32, n33]
    exact ⟨k1, k2, k3, k4, by omega, fun h => hSg (k6 h) (by omega), hSg k7 (by omega)⟩
  · unfold krN
    exact eqo_oUa (.tail _ (.tail _ (.tail _ (.tail _ (.tail _ (.tail _ (.tail _ (.head _)))))))) (eqo_oUa (.tail _ (.tail _ (.tail _ (.tail _ (.tail _ (.tail _ (.head _))))))) (eqo_tr (subw_cons (.head _) (subw_cons (.tail _ (.head _)) subw_nil)) r8 a3))
  · unfold krM
    exact eqo_oU (.tail _ (.tail _ (.tail _ (.tail _ (.tail _ (.head _)))))) (eqo_oU (.tail _ (.tail _ (.tail _ (.head _)))) (eqo_oUa (.tail _ (.tail _ (.tail _ (.tail _ (.tail _ (.tail _ (.tail _ (.tail _ (.tail _ (.tail _ (.head _))))))))))) (eqo_oU (.head _) (eqo_oUa (.tail _ (.tail _ (.tail _ (.tail _ (.tail _ (.tail _ (.tail _ (.tail _ (.tail _ (.head _)))))))))) r9))))
theorem rule_kind {f : Nat} {b : Int → Int} {n p k z c : Int} {N0 M0 N M : oM} (hf : 2000 < f) (hR : lwR b n N0 M0 p k z N M) (hcc : chT b n p = c) (hc : c ≠ -1) : okp (p_LR_readRule_B41 f k c N) (fun q => okp (p_M_readsRule_B39 f c M) (fun q' => flQ lwC lwM N0 M0 (rlP b n N0 M0 p k) q q')) := by
  obtain ⟨r1, r2, r3, r4, r5, r6, r7, r8, r9⟩ := id hR
  have hch := rdC_ch r1
  have hp2 := r2.2.2.2
  have hpn : p < n := chT_in (b := b) (p := p) (by omega)
  unfold p_LR_readRule_B41 p_M_readsRule_B39
  by_cases q16 : k < 16
  · obtain ⟨N1, a1, a2, a3⟩ := e_T_step1 (f := f) r1 hpn
    have e9 : oU N1 30 k c 27 9 = z := (oU_o (by decide)).trans ((eqo_f a3 27 9 rfl).trans r4.1)
    have m8 : oU M 66 k c 57 8 = p := (oU_o (by decide)).trans hp2.1
    have m15 : oU (oU M 66 k c) 57 8 (p + 1) 57 15 = k := (oU_i (by decide)).trans ((oU_o (by decide)).trans r5.2.1)
    have m13 : oU (oU M 66 k c) 57 8 (p + 1) 57 13 = z := (oU_i (by decide)).trans ((oU_o (by decide)).trans r4.2.1)
    rw [if_pos q16, a1, Option.bind_some, bnd_eq r5.2.2.1 q16, lt_eq, bnd_eq r5.2.2.1 q16, show oU ((0 : Int), N1).snd 30 k c 27 9 = z from e9, lt_eq, show oU (oU ((0 : Int), N1).snd 30 k c) 31 k z = krN N1 k c z from rfl]
    rw [r5.2.1, if_neg (show ¬ k = 16 by omega), bnd_eq r5.2.2.1 q16, lt_eq, m8, w32_of (a := p + 1) (by omega) (by omega), lt_eq, m15, bnd_eq r5.2.2.1 q16, m13, lt_eq, lt_eq, lt_eq, show oU (oU (oU (oU (oU M 66 k c) 57 8 (p + 1)) 67 k z) 57 12 0) 57 14 0 = krM M k c z p from rfl]
    have hnu : nuR b n (krN N1 k c z) (krM M k c z p) (p + 1) z 0 0 0 (krN N1 k c z) (krM M k c z p) := by
      refine ⟨?_, ?_, by omega, ⟨?_, ?_, by omega, by decide, by omega⟩, ⟨?_, by decide, by omega⟩, ⟨?_, by decide, by decide⟩, fun _ _ _ => rfl, fun _ _ _ => rfl⟩
      · unfold krN; exact rdC_o (rdC_o a2 (by decide) (by decide)) (by decide) (by decide)
      · unfold krM; exact rdM_57 (rdM_57 (rdM_o (rdM_next (rdM_o r2 (by decide) (by decide)) (by omega)) (by decide) (by decide)) (by decide) (by decide)) (by decide) (by decide)
      · unfold krN; rw [oU_o (by decide)]; exact e9
      · unfold krM; rw [oU_i (by decide), oU_i (by decide), oU_o (by decide)]; exact m13
      · unfold krM; rw [oU_at]
      · unfold krM; rw [oU_i (by decide), oU_at]
    by_cases q115 : c = 115
    · rw [if_pos q115, if_pos q115]
      exact rule_pre hf hR q16 a3 (by omega) hnu (fun i _ => ⟨rfl, rfl, rfl⟩) (Int.le_refl z) (fun i i0 i1 => by omega) (fun h => absurd q115 h)
    · rw [if_neg q115, if_neg q115]
      refine okp_bind' (okp_mono (sum_ok (σ := []) hf hnu ⟨-1, .inl ⟨rfl, rfl⟩, .inl (by decide)⟩ (by decide)) fun q hq => ?_)
      rcases hq with ⟨g1, g2, M'', g3, g4, g5⟩ | ⟨g1, p', z', Mc, g2, g3, g4, g5, g6⟩
      · unfold p_LR_readRule_B104
        rw [if_neg (Int.ne_of_lt g1), g3, Option.bind_some, if_pos (show ((0 : Int), M'').fst = 0 from rfl)]
        refine Or.inl ⟨g1, rfl, g4, lg_lwC ?_ g2.1, lg_lwM ?_ g5⟩
        · unfold krN
          exact eqo_oUa (.tail _ (.tail _ (.tail _ (.tail _ (.tail _ (.tail _ (.tail _ (.head _)))))))) (eqo_oUa (.tail _ (.tail _ (.tail _ (.tail _ (.tail _ (.tail _ (.head _))))))) (eqo_tr (subw_cons (.head _) (subw_cons (.tail _ (.head _)) subw_nil)) r8 a3))
        · unfold krM
          exact eqo_oU (.tail _ (.tail _ (.tail _ (.tail _ (.tail _ (.head _)))))) (eqo_oU (.tail _ (.tail _ (.tail _ (.head _)))) (eqo_oUa (.tail _ (.tail _ (.tail _ (.tail _ (.tail _ (.tail _ (.tail _ (.tail _ (.tail _ (.tail _ (.head _))))))))))) (eqo_oU (.head _) (eqo_oUa (.tail _ (.tail _ (.tail _ (.tail _ (.tail _ (.tail _ (.tail _ (.tail _ (.tail _ (.head _)))))))))) r9))))
      · rw [g1, g3, Option.bind_some, if_neg (show ¬ ((1 : Int), Mc).fst = 0 from n10)]
        exact rule_pre hf hR q16 a3 (by omega) g4 g5.2.1 g5.1 g5.2.2.1 (fun _ => g5.2.2.2)
  · rw [if_neg q16, e_T_fault hch.2.1 (by decide) hch.2.2.2.1, Option.bind_some, r5.2.1, if_pos (show k = 16 by omega), hp2.1, e_wrongB (by decide) (by omega)]
    exact Or.inl ⟨by show -1000 * 4 - p < 0; omega, rfl, at_snd (x := 0), r8, eqo_oU (.tail _ (.head _)) r9⟩
theorem rule_ok {f : Nat} {b : Int → Int} {n p k z : Int} {N0 M0 N M : oM} (hf : 2000 < f) (hR : lwR b n N0 M0 p k z N M) : okp (p_LR_readRule f k N) (fun q => okp (p_M_readsRule f M) (fun q' => flQ lwC lwM N0 M0 (rlP b n N0 M0 p k) q q')) := by
  obtain ⟨r1, r2, r3, r4, r5, r6, r7, r8, r9⟩ := id hR
  have hch := rdC_ch r1
  have hh := e_M_here (f := f) r2
  have hp2 := r2.2.2.2
  unfold p_LR_readRule p_M_readsRule
  rw [e_next r1, Option.bind_some, hh, Option.bind_some]
  by_cases q1 : chT b n p = 101
  · rw [if_pos (show (chT b n p, N).fst = 101 from q1), if_pos (show (chT b n p, M).fst = 101 from q1)]
    exact rule_kind hf hR rfl (by show chT b n p ≠ -1; omega)
  · rw [if_neg (show ¬ (chT b n p, N).fst = 101 from q1), if_neg (show ¬ (chT b n p, M).fst = 101 from q1)]
    by_cases q2 : chT b n p = 105
    · rw [if_pos (show (chT b n p, N).fst = 105 from q2), if_pos (show (chT b n p, M).fst = 105 from q2)]
      exact rule_kind hf hR rfl (by show chT b n p ≠ -1; omega)
    · rw [if_neg (show ¬ (chT b n p, N).fst = 105 from q2), if_neg (show ¬ (chT b n p, M).fst = 105 from q2)]
      by_cases q3 : chT b n p = 114
      · rw [if_pos (show (chT b n p, N).fst = 114 from q3), if_pos (show (chT b n p, M).fst = 114 from q3)]
        exact rule_kind hf hR rfl (by show chT b n p ≠ -1; omega)
      · rw [if_neg (show ¬ (chT b n p, N).fst = 114 from q3), if_neg (show ¬ (chT b n p, M).fst = 114 from q3)]
        by_cases q4 : chT b n p = 115
        · rw [if_pos (show (chT b n p, N).fst = 115 from q4), if_pos (show (chT b n p, M).fst = 115 from q4)]
          exact rule_kind hf hR rfl (by show chT b n p ≠ -1; omega)
        · rw [if_neg (show ¬ (chT b n p, N).fst = 115 from q4), if_neg (show ¬ (chT b n p, M).fst = 115 from q4), show p_T_fault f 1 (chT b n p, N).snd = _ from e_T_fault hch.2.1 (by decide) hch.2.2.2.1, Option.bind_some, show (chT b n p, M).snd 57 8 = p from hp2.1, e_wrongB (by decide) (by omega)]
          exact Or.inl ⟨by show -1000 * 1 - p < 0; omega, rfl, at_snd (x := 0), r8, eqo_oU (.tail _ (.head _)) r9⟩
