/-! THE LAW: a condition by both, from its bracket on -/
theorem cond_ok {f : Nat} {b : Int → Int} {n : Int} {N0 M0 : oM} (hf : 2000 < f) : ∀ (lv : Nat) (op p0 z0 e w0 : Int) (Ns Ms : oM), 6 - op < (lv : Int) → 1 ≤ op → nuR b n N0 M0 p0 z0 e w0 op Ns Ms → 1 ≤ w0 → Ms 65 (w0 - 1) = 1048576 * 13 → okp (p_LR_readCondition f lv op Ns) (cndQ f b n N0 M0 p0 z0 e w0 op Ns Ms) := by
  intro lv
  induction lv with
  | zero =>
    intro op p0 z0 e w0 Ns Ms hl hop hR hw h13
    have := hR.2.2.2.2.2.1
    have e0 : ((0 : Nat) : Int) = 0 := rfl
    exfalso; omega
  | succ lv ih =>
    intro op p0 z0 e w0 Ns Ms hl hop hR hw h13
    have h3 := hR.2.2.1
    have h4 := hR.2.2.2.1
    have h6 := hR.2.2.2.2.2.1
    have hrec : chQ f b n N0 M0 op (p_LR_readCondition f lv) := fun op1 p1 z1 e1 w1 N1 M1 ho hR1 hw1 h131 => ih op1 p1 z1 e1 w1 N1 M1 (by omega) (by omega) hR1 hw1 h131
    have hp0 : 0 ≤ p0 := hR.2.1.2.2.2.2.1
    unfold p_LR_readCondition p_LR_readCondition_F
    refine for_ok 121 (cdI f b n N0 M0 p0 z0 e w0 op Ns Ms) (fun k s hk hI => cd_step hf hp0 h4.2.2.2.1 h4.2.2.1 hw ⟨hop, h6.2.2⟩ hrec hI) (fun s hI => ?_) f (by omega) ?_
    · obtain ⟨-, p, z, M, j1, j2, -⟩ := hI
      have := j2.2.2.1
      exfalso
      have e121 : ((121 : Nat) : Int) = 121 := rfl
      omega
    · refine ⟨rfl, p0, z0, Ms, by show p0 + 2 * ((0 : Nat) : Int) ≤ p0; omega, ?_, ⟨Int.le_refl z0, fun q => absurd rfl q, fun _ => rfl, fun q => absurd rfl q, fun i i0 i1 => by omega⟩, fun i _ => ⟨rfl, rfl, rfl⟩, wtE_refl rfl, ⟨h13, fun q => absurd rfl q, fun q => absurd rfl q⟩, fun R h => h⟩
      show nuR b n N0 M0 p0 z0 e (w0 + 0 + 0) op Ns Ms
      rw [Int.add_zero, Int.add_zero]
      exact hR
theorem e_crM {f : Nat} {b : Int → Int} {n p : Int} {M M9 : oM} {R : Int × oM} (hf : 2000 < f) (h : rdM b n M p) (hc : chT b n p = 40) (ho : p_M_opens f 13 (oU (oU M 57 12 0) 57 14 0) = some (1, M9)) (hp : 0 ≤ p ∧ p ≤ 240) (hR : TT f (300 - (p + 1)) M9 R) : p_M_readsCondition f M = some R := by
  have hh := e_M_here (f := f) h
  unfold p_M_readsCondition
  rw [hh, Option.bind_some, if_pos (show (chT b n p, M).fst = 40 from hc), lt_eq, lt_eq, show p_M_opens f 13 (oU (oU (chT b n p, M).snd 57 12 0) 57 14 0) = _ from ho, Option.bind_some, if_neg (show ¬ ((1 : Int), M9).fst = 0 from n10)]
  exact hR f (by omega)
theorem e_crM0 {f : Nat} {b : Int → Int} {n p : Int} {M : oM} (h : rdM b n M p) (hc : chT b n p ≠ 40) : p_M_readsCondition f M = some (0, oU M 57 10 (-1000 * 1 - p)) := by
  have hh := e_M_here (f := f) h
  have hp := h.2.2.2
  unfold p_M_readsCondition
  rw [hh, Option.bind_some, if_neg (show ¬ (chT b n p, M).fst = 40 from hc), show (chT b n p, M).snd 57 8 = p from hp.1, e_wrongB (by decide) (by omega)]
def crQ (f : Nat) (b : Int → Int) (n : Int) (N0 M0 : oM) (p z e : Int) (N M : oM) (q : Int × oM) : Prop := (q.1 < 0 ∧ (eqo lgC N0 q.2 ∧ 0 ≤ q.2 27 9) ∧ ∃ M'', p_M_readsCondition f M = some (0, M'') ∧ M'' 57 10 = q.1 ∧ eqo lgM M0 M'') ∨
  (q.1 = 0 ∧ ∃ p' z' Mc, p < p' ∧ p_M_readsCondition f M = some (1, Mc) ∧ nuR b n N0 M0 p' z' e 0 0 q.2 Mc ∧ ext z z' [] [true] N M q.2 Mc)
theorem cr_ok {f : Nat} {b : Int → Int} {n p z e w op : Int} {N0 M0 N M : oM} (hf : 2000 < f) (hR : nuR b n N0 M0 p z e w op N M) (hc : chT b n p = 40) : ∃ N1, p_T_step f N = some (0, N1) ∧ N1 27 9 = z ∧ eqo [(1, 3), (1, 4)] N N1 ∧ ∀ N2 : oM, eqo [(32, (-1))] N1 N2 → okp (p_LR_readCondition f 9 1 N2) (fun q => crQ f b n N2 M0 p z e N M q) := by
  have hpn : p < n := chT_in (b := b) (p := p) (by omega)
  have h4 := hR.2.2.2.1
  have hn240 := hR.2.2.1
  have hp0 : 0 ≤ p := hR.2.1.2.2.2.2.1
  have hR0 : nuR b n N0 M0 p z e 0 0 N (oU (oU M 57 12 0) 57 14 0) := by
    obtain ⟨h1, h2, h3, h4, h5, h6, h7, h8⟩ := hR
    refine ⟨h1, rdM_57 (rdM_57 h2 (by decide) (by decide)) (by decide) (by decide), h3, ⟨h4.1, ?_, h4.2.2⟩, ⟨oU_at, by decide, by omega⟩, ⟨?_, by decide, by decide⟩, h7, eqo_oU (.tail _ (.tail _ (.tail _ (.tail _ (.tail _ (.head _)))))) (eqo_oU (.tail _ (.tail _ (.tail _ (.head _)))) h8)⟩
    · rw [oU_i (by decide), oU_i (by decide)]; exact h4.2.1
    · rw [oU_i (by decide), oU_at]
  obtain ⟨N1, M9, a1, a2, a3, a4, a5, a6, a7, a8⟩ := nu_open (f := f) (e' := e) (c := 13) hR0 hpn (by decide) (by omega) (by decide)
  obtain ⟨N1', b1, b2, b3⟩ := e_T_step1 (f := f) hR.1 hpn
  have eN : N1' = N1 := by
    have h := b1.symm.trans a1
    exact congrArg (fun x : Option (Int × oM) => (x.getD (0, N1)).2) h
  rw [eN] at b3
  refine ⟨N1, a1, a3.2.2.2.1.1, b3, fun N2 hN2 => ?_⟩
  obtain ⟨c1, c2, c3, c4, c5, c6, c7, c8⟩ := id a3
  have r1 : N2 1 = N1 1 := eqo_a hN2 1 rfl
  have r2 : N2 2 = N1 2 := eqo_a hN2 2 rfl
  have r28 : N2 28 = N1 28 := eqo_a hN2 28 rfl
  have r29 : N2 29 = N1 29 := eqo_a hN2 29 rfl
  have r27 : N2 27 9 = N1 27 9 := eqo_f hN2 27 9 rfl
  have hR2 : nuR b n N2 M0 (p + 1) z e (0 + 1) (0 + 1) N2 M9 := by
    refine ⟨?_, c2, c3, ⟨r27.trans c4.1, c4.2⟩, c5, c6, fun _ _ _ => rfl, c8⟩
    unfold rdC at c1 ⊢
    rw [r1, r2]
    exact c1
  have e64 : M9 64 = M 64 := a6.trans (by rw [oU_row (by decide), oU_row (by decide)])
  refine okp_mono (cond_ok hf 9 1 (p + 1) z e 1 N2 M9 (by decide) (by decide) hR2 (by decide) a7) fun q hq => ?_
  rcases hq with ⟨g1, g2, M'', g3, g4, g5⟩ | ⟨g1, p', z', M', g2, g3, g4, g5, g6, g7⟩
  · exact .inl ⟨g1, g2, M'', e_crM hf hR.2.1 hc a2 ⟨hp0, by omega⟩ g3, g4, g5⟩
  · exact .inr ⟨g1, p', z', M', by omega, e_crM hf hR.2.1 hc a2 ⟨hp0, by omega⟩ (g6 (by decide)), g3, ext_left g4 (r28.trans a4) (r29.trans a5) e64⟩
