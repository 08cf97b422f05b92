/-! THE LAW: a number by both -/
theorem fsx_len (x : Int) (σ : List Bool) : (fsx x σ).length ≤ σ.length + 1 := by
  unfold fsx
  split
  · exact Nat.le_succ _
  · exact Nat.le_refl _
theorem pnd_codes {M : oM} {w0 wt wf : Int} (h : pnd M w0 wt wf) : ∀ j : Int, w0 ≤ j → j < w0 + cn wt + cn wf → ∃ c, (0 ≤ c ∧ c ≤ 14) ∧ c ≠ 14 ∧ M 65 j = 1048576 * c := by
  obtain ⟨h1, h2, h3, h4⟩ := h
  intro j j0 j1
  by_cases qt : wt = -1
  · have e1 : cn wt = 0 := if_pos qt
    rw [e1] at j1 h4
    by_cases qf : wf = -1
    · have e2 : cn wf = 0 := if_pos qf
      rw [e2] at j1; omega
    · have e2 : cn wf = 1 := if_neg qf
      rw [e2] at j1
      have ho := opn_F h2 qf
      have : j = w0 + 0 := by omega
      exact ⟨opn wf, by omega, by omega, by rw [this]; exact h4 qf⟩
  · have e1 : cn wt = 1 := if_neg qt
    rw [e1] at j1 h4
    by_cases qj : j = w0
    · have ho := opn_T h1 qt
      exact ⟨opn wt, by omega, by omega, by rw [qj]; exact h3 qt⟩
    · by_cases qf : wf = -1
      · have e2 : cn wf = 0 := if_pos qf
        rw [e2] at j1; omega
      · have e2 : cn wf = 1 := if_neg qf
        rw [e2] at j1
        have ho := opn_F h2 qf
        have : j = w0 + 1 := by omega
        exact ⟨opn wf, by omega, by omega, by rw [this]; exact h4 qf⟩
theorem pnd_wt {M M' : oM} {w0 wt wf : Int} (h : pnd M w0 wt wf) (hw : wtE (w0 + cn wt + cn wf) M M') : pnd M' w0 wt wf := by
  have b1 := cn_bd wt
  have b2 := cn_bd wf
  refine ⟨h.1, h.2.1, fun q => ?_, fun q => ?_⟩
  · have e1 : cn wt = 1 := if_neg q
    rw [hw w0 (by omega)]; exact h.2.2.1 q
  · have e2 : cn wf = 1 := if_neg q
    rw [hw (w0 + cn wt) (by omega)]; exact h.2.2.2 q
theorem botT_wt {M M' : oM} {w0 : Int} (h : botT M w0) (hw : wtE w0 M M') : botT M' w0 := by
  obtain ⟨t, ht, ht2⟩ := h
  refine ⟨t, ?_, ht2⟩
  unfold topIs at ht ⊢
  rw [hw (w0 - 1) (by omega)]
  exact ht
theorem nu_push {f : Nat} {b : Int → Int} {n p z e w op c : Int} {N0 M0 N M : oM} (h : nuR b n N0 M0 p z e w op N M) (hp : p < n) : ∃ N' M9, p_T_step f N = some (0, N') ∧ M9 = oU (oU (oU M 65 w (1048576 * c)) 57 14 (w + 1)) 57 8 (p + 1) ∧ nuR b n N0 M0 (p + 1) z (e + 1) (w + 1) op N' M9 ∧ N' 28 = N 28 ∧ N' 29 = N 29 ∧ M9 64 = M 64 ∧ M9 65 w = 1048576 * c ∧ (∀ j : Int, j ≠ w → M9 65 j = M 65 j) := by
  obtain ⟨h1, h2, h3, h4, h5, h6, h7, h8⟩ := h
  obtain ⟨N', a1, a2, a3⟩ := e_T_step1 (f := f) h1 hp
  refine ⟨N', _, a1, rfl, ⟨a2, rdM_next (rdM_57 (rdM_o h2 (by decide) (by decide)) (by decide) (by decide)) (by omega), ⟨by omega, h3.2⟩, ⟨(eqo_f a3 27 9 rfl).trans h4.1, ?_, by omega, by omega, by omega⟩, ⟨?_, by omega, by omega⟩, ⟨?_, h6.2⟩, ?_, ?_⟩, eqo_a a3 28 rfl, eqo_a a3 29 rfl, ?_, ?_, fun j hj => ?_⟩
  · rw [oU_i (by decide), oU_i (by decide), oU_o (by decide)]; exact h4.2.1
  · rw [oU_i (by decide), oU_at]
  · rw [oU_i (by decide), oU_i (by decide), oU_o (by decide)]; exact h6.1
  · exact eqo_tr (subw_cons (.head _) (subw_cons (.tail _ (.head _)) subw_nil)) h7 a3
  · exact eqo_oU (.head _) (eqo_oU (.tail _ (.tail _ (.tail _ (.tail _ (.tail _ (.head _)))))) (eqo_oUa (.tail _ (.tail _ (.tail _ (.tail _ (.tail _ (.tail _ (.tail _ (.head _)))))))) h8))
  · rw [oU_row (by decide), oU_row (by decide), oU_row (by decide)]
  · rw [oU_o (by decide), oU_o (by decide), oU_at]
  · rw [oU_o (by decide), oU_o (by decide), oU_i hj]
def numI (f : Nat) (b : Int → Int) (n : Int) (N0 M0 : oM) (base p0 z0 e0 w0 op : Int) (σ : List Bool) (Ns Ms : oM) (k : Nat) (s : Int × Int × Int × oM) : Prop := s.2.2.1 = (k : Int) ∧ ∃ p z M, p0 + 2 * (k : Int) ≤ p ∧ nuR b n N0 M0 p z (e0 + cn s.2.1 + cn s.1) (w0 + cn s.2.1 + cn s.1) op s.2.2.2 M ∧ pnd M w0 s.2.1 s.1 ∧ ext z0 z σ (fsx s.1 (fsx s.2.1 σ)) Ns Ms s.2.2.2 M ∧ wtE w0 Ms M ∧ ∀ R, SF f base (300 - p) M R → SF f base (300 - p0) Ms R
theorem e_B47put {f : Nat} {rec : Int → oM → Option (Int × oM)} {op wf wt k z : Int} {N : oM} (hz : N 27 9 = z) (h0 : 0 ≤ z ∧ z < 240) : (if wf = (-1) then p_LR_readNumber_B47_7 f rec op wf wt k N else (p_L_put f wf 0 N).bind fun q7 => p_LR_readNumber_B47_7 f rec op (-1) wt k q7.2) = p_LR_readNumber_B47_7 f rec op (-1) wt k (putX N z wf) := by
  unfold putX
  by_cases q : wf = -1
  · rw [if_pos q, if_pos q, q]
  · rw [if_neg q, if_neg q, e_put hz h0, Option.bind_some]
theorem e_B47mul {f : Nat} {rec : Int → oM → Option (Int × oM)} {b : Int → Int} {n p op wt k : Int} {N N' : oM} (h : rdC b n N p) (hc : chT b n p = 42 ∨ chT b n p = 47 ∨ chT b n p = 37) (hs : p_T_step f N = some (0, N')) (hk : 0 ≤ k ∧ k < 240) : p_LR_readNumber_B47_7 f rec op (-1) wt k N = some (.inl (chT b n p, wt, k + 1, N')) := by
  have hB : p_LR_readNumber_B77_7 f rec op wt k (chT b n p) N = some (.inl (chT b n p, wt, k + 1, N')) := by
    unfold p_LR_readNumber_B77_7 p_LR_readNumber_B117_7
    rw [hs, Option.bind_some, w32_of (a := k + 1) (by omega) (by omega), lt_eq]
  unfold p_LR_readNumber_B47_7
  rw [e_next h, Option.bind_some]
  by_cases q1 : chT b n p = 42
  · rw [if_pos (show (chT b n p, N).fst = 42 from q1)]
    exact hB
  · rw [if_neg (show ¬ (chT b n p, N).fst = 42 from q1)]
    by_cases q2 : chT b n p = 47
    · rw [if_pos (show (chT b n p, N).fst = 47 from q2)]
      exact hB
    · rw [if_neg (show ¬ (chT b n p, N).fst = 47 from q2), if_pos (show (chT b n p, N).fst = 37 from by show chT b n p = 37; omega)]
      exact hB
theorem e_B47other {f : Nat} {rec : Int → oM → Option (Int × oM)} {b : Int → Int} {n p op wt k z : Int} {N : oM} (h : rdC b n N p) (hc : ¬ (chT b n p = 42 ∨ chT b n p = 47 ∨ chT b n p = 37)) (hz : N 27 9 = z) (h0 : 0 ≤ z ∧ z < 240) : p_LR_readNumber_B47_7 f rec op (-1) wt k N = p_LR_readNumber_B98_7 f rec op (-1) k (chT b n p) (putX N z wt) := by
  unfold p_LR_readNumber_B47_7
  rw [e_next h, Option.bind_some, if_neg (show ¬ (chT b n p, N).fst = 42 from by show ¬ chT b n p = 42; omega), if_neg (show ¬ (chT b n p, N).fst = 47 from by show ¬ chT b n p = 47; omega), if_neg (show ¬ (chT b n p, N).fst = 37 from by show ¬ chT b n p = 37; omega)]
  unfold putX
  by_cases q : wt = -1
  · rw [if_pos q, if_pos q]
  · rw [if_neg q, if_neg q, show p_L_put f wt 0 (chT b n p, N).snd = _ from e_put hz h0, Option.bind_some]
theorem num_step {f k : Nat} {b : Int → Int} {n p0 z0 e0 w0 op base : Int} {N0 M0 Ns Ms : oM} {σ : List Bool} {rec : Int → oM → Option (Int × oM)} {s : Int × Int × Int × oM} (hf : 2000 < f) (hp0 : 0 ≤ p0) (hbs : 0 ≤ base ∧ base ≤ w0) (he0 : 0 ≤ e0) (hbo : bsOk Ms base w0) (hbt : botT Ms w0) (hl : σ.length + 2 * (7 - op) ≤ 58) (hop : 0 ≤ op ∧ op ≤ 6)
    (hrec : op < 6 → ∀ (e : Int) (σ' : List Bool), 0 ≤ e → σ'.length + 2 * (6 - op) ≤ 58 → nhQ f b n N0 M0 base e op σ' rec) (hI : numI f b n N0 M0 base p0 z0 e0 w0 op σ Ns Ms k s) :
    okp (p_LR_readNumber_L7 f rec op s) (psum (numI f b n N0 M0 base p0 z0 e0 w0 op σ Ns Ms (k + 1)) (numQ f b n N0 M0 base p0 z0 e0 w0 op σ Ns Ms)) := by
  obtain ⟨wf, wt, k', N⟩ := s
  obtain ⟨i1, p, z, M, i2, i3, i4, i5, i6, i7⟩ := hI
  simp only at i1 i2 i3 i4 i5 i6 i7
  subst i1
  have bt := cn_bd wt
  have bf := cn_bd wf
  have lt1 := fsx_len wt σ
  have lf1 := fsx_len wf (fsx wt σ)
  have hn240 := i3.2.2.1
  have hk : (k : Int) < 240 := by omega
  have hcod := pnd_codes i4
  have hbo' : bsOk M base (w0 + cn wt + cn wf) := fun j j0 j1 => by
    by_cases q : j < w0
    · rw [i6 j q]; exact hbo j j0 q
    · obtain ⟨c, c1, -, c2⟩ := hcod j (by omega) j1
      exact ⟨c, c1, c2⟩
  unfold p_LR_readNumber_L7
  simp only []
  rw [if_pos hk]
  refine okp_bind' (okp_mono (fac_ok (base := base) (σ := fsx wf (fsx wt σ)) hf i3 ⟨hbs.1, by omega⟩ hbo' (by omega) (fun h => hrec h _ _ (by omega) (by omega))) fun q hq => ?_)
  rcases hq with ⟨g1, g2, M'', g3, g4, g5⟩ | ⟨g1, p1, z1, M1, g2, g3, g4, g5, g6⟩
  · rw [if_neg (Int.ne_of_lt g1)]
    exact Or.inl ⟨g1, g2, M'', g3, g4, i7 _ g5⟩
  · have hp1 := pnd_wt i4 g5
    have w01 : wtE w0 Ms M1 := wtE_trans i6 g5 (by omega)
    have hb1 := botT_wt hbt w01
    have hx := ext_trans i5 g4
    obtain ⟨k1, k2, k3, k4, k5, k6, k7, k8⟩ := id g3
    obtain ⟨M2, a1, a2, a3, a4⟩ := closes_mul (f := f) (σ := σ) hf g3 he0 (by omega) hp1 hb1 (by omega)
    obtain ⟨c1, c2, c3, c4, c5, c6, c7, c8⟩ := id a2
    rw [if_pos g1, e_B47put (z := z1) k4.1 (by omega)]
    by_cases qm : chT b n p1 = 42 ∨ chT b n p1 = 47 ∨ chT b n p1 = 37
    · have hpn : p1 < n := chT_in (b := b) (p := p1) (by omega)
      obtain ⟨N3, M9, s1, s2, s3, s4, s5, s6, s7, s8⟩ := nu_push (f := f) (c := opn (chT b n p1)) a2 hpn
      rw [e_B47mul c1 qm s1 (by omega)]
      have hF : isF (chT b n p1) := .inr qm
      have hne : chT b n p1 ≠ -1 := by omega
      have ec : cn (chT b n p1) = 1 := if_neg hne
      have ho := opn_F hF hne
      refine ⟨by show (k : Int) + 1 = ((k + 1 : Nat) : Int); omega, p1 + 1, z1 + cn wf, M9, by omega, ?_, ⟨i4.1, hF, fun q => ?_, fun q => s7⟩, ?_, fun j hj => ?_, fun R hS => ?_⟩
      · show nuR b n N0 M0 (p1 + 1) (z1 + cn wf) (e0 + cn wt + cn (chT b n p1)) (w0 + cn wt + cn (chT b n p1)) op N3 M9
        rw [ec]; exact s3
      · have e1 : cn wt = 1 := if_neg q
        rw [s8 w0 (by omega), a4]; exact hp1.2.2.1 q
      · show ext z0 (z1 + cn wf) σ (fsx (chT b n p1) (fsx wt σ)) Ns Ms N3 M9
        have e2 : fsx (chT b n p1) (fsx wt σ) = false :: fsx wt σ := if_neg hne
        rw [e2]
        exact ext_right (ext_trans hx a3) s4 s5 s6
      · rw [s8 j (by omega), a4]; exact w01 j hj
      · refine i7 R (g6 R ?_)
        have := SL_sign (f := f) (w := w0 + cn wt) (base := base) (K := 300 - (p1 + 1)) hf k2 rfl (by omega) (by rw [if_neg (by omega)]; exact a1) c5.1 (by omega) c2.2.2.2.1 s2 (by rw [s3.2.2.2.2.2.1.1]; exact hop.1) (by omega) hS
        rw [show 300 - (p1 + 1) + 1 = 300 - p1 from by omega] at this
        exact this
    · obtain ⟨M3, d1, d2, d3, d4⟩ := closes_all (f := f) (σ := σ) hf g3 he0 (by omega) hp1 hb1 (by omega) (by omega)
      obtain ⟨f1, f2, f3, f4, f5, f6, f7, f8⟩ := id d2
      rw [e_B47other (z := z1 + cn wf) c1 qm c4.1 (by omega)]
      unfold p_LR_readNumber_B98_7 p_LR_readNumber_B114_7 p_LR_readNumber_B117_7
      by_cases qa : chT b n p1 = 43 ∨ chT b n p1 = 45
      · have hpn : p1 < n := chT_in (b := b) (p := p1) (by omega)
        obtain ⟨N3, M9, s1, s2, s3, s4, s5, s6, s7, s8⟩ := nu_push (f := f) (c := opn (chT b n p1)) d2 hpn
        have hT : isT (chT b n p1) := .inr qa
        have hne : chT b n p1 ≠ -1 := by omega
        have ec : cn (chT b n p1) = 1 := if_neg hne
        have ho := opn_T hT hne
        have hgo : (if chT b n p1 = 43 then ((p_T_step f (putX (putX q.2 z1 wf) (z1 + cn wf) wt)).bind fun q1 => lt (w32 ((k : Int) + 1)) fun x2 => some (Sum.inl (β := Int × oM) ((-1 : Int), chT b n p1, x2, q1.2))) else (if chT b n p1 = 45 then ((p_T_step f (putX (putX q.2 z1 wf) (z1 + cn wf) wt)).bind fun q1 => lt (w32 ((k : Int) + 1)) fun x2 => some (Sum.inl ((-1 : Int), chT b n p1, x2, q1.2))) else some (.inr ((0 : Int), putX (putX q.2 z1 wf) (z1 + cn wf) wt)))) = some (.inl ((-1 : Int), chT b n p1, (k : Int) + 1, N3)) := by
          rw [s1, Option.bind_some, w32_of (a := (k : Int) + 1) (by omega) (by omega), lt_eq]
          by_cases q43 : chT b n p1 = 43
          · rw [if_pos q43]
          · rw [if_neg q43, if_pos (by omega)]
        rw [hgo]
        refine ⟨by show (k : Int) + 1 = ((k + 1 : Nat) : Int); omega, p1 + 1, z1 + cn wf + cn wt, M9, by omega, ?_, ⟨hT, .inl rfl, fun _ => s7, fun q => absurd rfl q⟩, ?_, fun j hj => ?_, fun R hS => ?_⟩
        · show nuR b n N0 M0 (p1 + 1) (z1 + cn wf + cn wt) (e0 + cn (chT b n p1) + 0) (w0 + cn (chT b n p1) + 0) op N3 M9
          rw [ec, Int.add_zero, Int.add_zero]; exact s3
        · show ext z0 (z1 + cn wf + cn wt) σ (fsx (chT b n p1) σ) Ns Ms N3 M9
          have e2 : fsx (chT b n p1) σ = false :: σ := if_neg hne
          rw [e2]
          exact ext_right (ext_trans hx d3) s4 s5 s6
        · rw [s8 j (by omega), d4]; exact w01 j hj
        · refine i7 R (g6 R ?_)
          have := SL_sign (f := f) (w := w0) (base := base) (K := 300 - (p1 + 1)) hf k2 rfl (by omega) (by rw [if_pos (by omega)]; exact d1) f5.1 (by omega) f2.2.2.2.1 s2 (by rw [s3.2.2.2.2.2.1.1]; exact hop.1) (by omega) hS
          rw [show 300 - (p1 + 1) + 1 = 300 - p1 from by omega] at this
          exact this
      · rw [if_neg (show ¬ chT b n p1 = 43 from by omega), if_neg (show ¬ chT b n p1 = 45 from by omega)]
        refine Or.inr ⟨rfl, p1, z1 + cn wf + cn wt, w0 + cn wt + cn wf, M1, M3, by omega, d2, ext_trans hx d3, fun j hj => by rw [d4]; exact w01 j hj, d1, k2, k5.1, by omega, pnd_codes hp1, w01, ⟨by omega, by omega, by omega, by omega, by omega⟩, k8, fun R hS => i7 R (g6 R hS)⟩
theorem num_ok {f : Nat} {b : Int → Int} {n base : Int} {N0 M0 : oM} (hf : 2000 < f) (hb0 : 0 ≤ base) : ∀ (r : Nat) (p0 z0 e0 w0 op : Int) (σ : List Bool) (Ns Ms : oM) (lv : Nat), op + (r : Int) = 6 → r < lv → nuR b n N0 M0 p0 z0 e0 w0 op Ns Ms → base ≤ w0 → bsOk Ms base w0 → botT Ms w0 → σ.length + 2 * (7 - op) ≤ 58 → okp (p_LR_readNumber f lv op Ns) (numQ f b n N0 M0 base p0 z0 e0 w0 op σ Ns Ms) := by
  have key : ∀ (lv : Nat) (p0 z0 e0 w0 op : Int) (σ : List Bool) (Ns Ms : oM), (op < 6 → ∀ (e : Int) (σ' : List Bool), 0 ≤ e → σ'.length + 2 * (6 - op) ≤ 58 → nhQ f b n N0 M0 base e op σ' (p_LR_readNumber f lv)) → nuR b n N0 M0 p0 z0 e0 w0 op Ns Ms → base ≤ w0 → bsOk Ms base w0 → botT Ms w0 → σ.length + 2 * (7 - op) ≤ 58 → okp (p_LR_readNumber f (lv + 1) op Ns) (numQ f b n N0 M0 base p0 z0 e0 w0 op σ Ns Ms) := by
    intro lv p0 z0 e0 w0 op σ Ns Ms hrec hR hbw hbo hbt hl
    obtain ⟨h1, h2, h3, h4, h5, h6, h7, h8⟩ := id hR
    have hpp := h2.2.2.2.2
    unfold p_LR_readNumber p_LR_readNumber_F
    refine for_ok 121 (numI f b n N0 M0 base p0 z0 e0 w0 op σ Ns Ms) (fun k s hk hI => num_step hf hpp.1 ⟨hb0, hbw⟩ h4.2.2.2.1 hbo hbt hl h6.2 hrec hI) (fun s hI => ?_) f (by omega) ?_
    · obtain ⟨-, p, z, M, j1, j2, -⟩ := hI
      have := j2.2.2.1
      exfalso
      have e121 : ((121 : Nat) : Int) = 121 := rfl
      omega
    · refine ⟨rfl, p0, z0, Ms, by show p0 + 2 * ((0 : Nat) : Int) ≤ p0; omega, ?_, ⟨.inl rfl, .inl rfl, fun q => absurd rfl q, fun q => absurd rfl q⟩, ext_refl rfl rfl rfl, wtE_refl rfl, fun R h => h⟩
      show nuR b n N0 M0 p0 z0 (e0 + 0 + 0) (w0 + 0 + 0) op Ns Ms
      rw [Int.add_zero, Int.add_zero, Int.add_zero, Int.add_zero]
      exact hR
  intro r
  induction r with
  | zero =>
    intro p0 z0 e0 w0 op σ Ns Ms lv hop hlv hR hbw hbo hbt hl
    match lv, hlv with
    | lv + 1, _ => exact key lv p0 z0 e0 w0 op σ Ns Ms (fun h => by omega) hR hbw hbo hbt hl
  | succ r ih =>
    intro p0 z0 e0 w0 op σ Ns Ms lv hop hlv hR hbw hbo hbt hl
    match lv, hlv with
    | lv + 1, hlv => exact key lv p0 z0 e0 w0 op σ Ns Ms (fun h e σ' he hl' p1 z1 w1 N1 M1 hR1 hbw1 hbo1 hbt1 => ih p1 z1 e w1 (op + 1) σ' N1 M1 lv (by omega) (by omega) hR1 hbw1 hbo1 hbt1 (by omega)) hR hbw hbo hbt hl
