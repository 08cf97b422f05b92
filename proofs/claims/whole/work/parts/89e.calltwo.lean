/-! two coins: the loops over the shares, the call -/
def twI (n : Nat) (N0 M0 : oM) (S : Nat) (s s' : Int × Int × oM) : Prop := s.2.1 = (S : Int) ∧ s'.2.1 = (S : Int) ∧ s.1 = s'.1 ∧ s.1 ≤ 1000000 ∧ eqo [(43, (-1)), (44, (-1))] N0 s.2.2 ∧ eqo [(82, (-1))] M0 s'.2.2
def twQ (r r' : Int × oM) : Prop := r.1 ≤ 1000000 ∧ r'.1 = if r.1 = 1000000 then -4 else r.1
theorem tw_step {f n p h S : Nat} {N0 M0 : oM} {s s' : Int × Int × oM} {cf ct : Nat → Nat} (hf : 2000 < f) (hn : n ≤ 8) (hp : p < 10) (hh : h < 10) (hS : S < 2 ^ n) (hC : isC N0 45 n cf ct) (hM : isM M0 n cf ct) (hX : spotOk (N0 4)) (hY : spotOk (N0 5)) (hX' : spotOk (M0 61)) (hY' : spotOk (M0 62)) (hXY : ∀ i : Int, 0 ≤ i → i < 10 → N0 4 i = M0 61 i ∧ N0 5 i = M0 62 i) (h64 : N0 6 4 = (h : Int)) (h151 : M0 58 151 = (h : Int)) (hI : twI n N0 M0 S s s') :
    okp (p_R_sharedHours_L16 f p n s) (fun y => okp (p_M_two_L52 f p ((2 ^ n - 1 : Nat) : Int) s') (fun y' => psum2 (twI n N0 M0 (S + 1)) twQ y y')) := by
  obtain ⟨x, i, N⟩ := s
  obtain ⟨x', i', M⟩ := s'
  obtain ⟨h1, h2, h3, h4, h5, h6⟩ := hI
  simp only at h1 h2 h3 h4 h5 h6
  subst h1 h2 h3
  have p2 : 2 ^ n ≤ 2 ^ 8 := Nat.pow_le_pow_right (by decide) hn
  have hS8 : S < 256 := Nat.lt_of_lt_of_le hS p2
  have hS31 : S < 2147483648 := Nat.lt_trans hS8 (by decide)
  have hn12 : n ≤ 12 := Nat.le_trans hn (by decide)
  have w1 : w32 ((S : Int) + 1) = ((S + 1 : Nat) : Int) := w32nat (Nat.lt_trans hS8 (by decide))
  have hcc : ∀ k, k < n → cf k < 10 ∧ ct k < 10 := fun k hk => ⟨(hC k hk).1, (hC k hk).2.1⟩
  have hC1 : isC N 45 n cf ct := fun j hj => ⟨(hC j hj).1, (hC j hj).2.1, (congrFun (eqo_a h5 45 rfl) _).trans (hC j hj).2.2⟩
  have hM1 : isM M n cf ct := ⟨(eqo_f h6 57 50 rfl).trans hM.1, fun j hj => ⟨(hM.2 j hj).1, (hM.2 j hj).2.1, (congrFun (eqo_a h6 84 rfl) _).trans (hM.2 j hj).2.2.1, (congrFun (eqo_a h6 85 rfl) _).trans (hM.2 j hj).2.2.2⟩⟩
  have hB1 : ∀ k : Nat, k < n → iand (ishr (S : Int) k) 1 = b01 (S.testBit k) := fun k hk => by
    rw [bit_ask hS31 (Nat.lt_trans (Nat.lt_of_lt_of_le hk hn) (by decide))]; rfl
  have hB2 : ∀ k : Nat, k < n → iand (ishr (ixor (S : Int) (-1)) k) 1 = b01 (!S.testBit k) := fun k hk => notbit (Nat.lt_trans (Nat.lt_of_lt_of_le hk hn) (by decide))
  generalize hU : (2 ^ n - 1) ^^^ ((2 ^ n - 1) &&& S) = U
  have hUb : ∀ k, k < n → (!S.testBit k) = U.testBit k := fun k hk => by rw [← hU, all_bit, decide_eq_true hk, Bool.true_and]
  have hU31 : U < 2147483648 := by rw [← hU]; exact all_lt hn12
  have eU : iand ((2 ^ n - 1 : Nat) : Int) (ixor (S : Int) (-1)) = (U : Int) := by
    rw [andn_nat (Nat.lt_of_le_of_lt (Nat.sub_le _ _) (Nat.lt_of_le_of_lt p2 (by decide))), hU]
  have c1 := e_hoursOf (f := f) (M := N) hf hn hB1 hC1 ((eqo_a h5 4 rfl) ▸ hX) ((eqo_a h5 5 rfl) ▸ hY)
  have c2 := e_hoursOf (f := f) (M := N) hf hn hB2 hC1 ((eqo_a h5 4 rfl) ▸ hX) ((eqo_a h5 5 rfl) ▸ hY)
  have d1 := e_M_hoursOf (f := f) (M := M) hf hn12 hS31 hM1 ((eqo_a h6 61 rfl) ▸ hX') ((eqo_a h6 62 rfl) ▸ hY')
  have d2 := e_M_hoursOf (f := f) (M := M) hf hn12 hU31 hM1 ((eqo_a h6 61 rfl) ▸ hX') ((eqo_a h6 62 rfl) ▸ hY')
  have hXY1 : ∀ i : Int, 0 ≤ i → i < 10 → M 61 i = N 4 i ∧ M 62 i = N 5 i := fun i i0 i1 => by
    rw [eqo_a h5 4 rfl, eqo_a h5 5 rfl, eqo_a h6 61 rfl, eqo_a h6 62 rfl]
    exact ⟨(hXY i i0 i1).1.symm, (hXY i i0 i1).2.symm⟩
  rw [sumN_hr hXY1 (fun k _ => rfl) hcc] at d1
  rw [sumN_hr hXY1 (fun k hk => (hUb k hk).symm) hcc] at d2
  generalize sumN (hrS (N 4) (N 5) S.testBit cf ct) n = u at c1 d1
  generalize sumN (hrS (N 4) (N 5) (fun k => !S.testBit k) cf ct) n = v at c2 d2
  have hlt : ¬ ((2 ^ n - 1 : Nat) : Int) < (S : Int) := nat_nlt (Nat.le_sub_one_of_lt hS)
  have hpw : (S : Int) < ishl 1 (n : Int) := by
    rw [ishl1 (Nat.lt_of_le_of_lt hn (by decide))]; exact nat_lt hS
  have e64 : N 6 4 = (h : Int) := (eqo_f h5 6 4 rfl).trans h64
  have e151 : M 58 151 = (h : Int) := (eqo_f h6 58 151 rfl).trans h151
  have stay : ∀ {N' M' : oM} (x : Int), x ≤ 1000000 → eqo [(43, (-1)), (44, (-1))] N0 N' → eqo [(82, (-1))] M0 M' →
      okp (p_R_sharedHours_B105_16 f p n x S N') (fun y => okp (p_M_two_B119_52 f p ((2 ^ n - 1 : Nat) : Int) x S M') (fun y' => psum2 (twI n N0 M0 (S + 1)) twQ y y')) := by
    intro N' M' x hx k1 k2
    unfold p_R_sharedHours_B105_16 p_M_two_B119_52
    rw [lt_eq, lt_eq, w1]
    exact ⟨rfl, rfl, rfl, hx, k1, k2⟩
  unfold p_R_sharedHours_L16 p_M_two_L52
  simp only []
  rw [if_pos hpw, if_neg hlt, c1, d1, eU]
  simp only [Option.bind_some]
  rw [c2, d2]
  simp only [Option.bind_some]
  rw [lt_eq, e_M_max, imax_mx]
  simp only [Option.bind_some]
  generalize (if v < u then u else v) = z
  by_cases hz : z < x
  · rw [if_pos hz, if_pos hz, bnd_eq (by decide) (by decide), e151]
    obtain ⟨A1, a1, a2, a3⟩ := e_setShare (f := f) (o := 43) (M := N) hf hn rfl hB1 hC1
    have hCA : isC A1 45 n cf ct := fun j hj => ⟨(hC1 j hj).1, (hC1 j hj).2.1, (congrFun (eqo_a a3 45 rfl) _).trans (hC1 j hj).2.2⟩
    obtain ⟨A2, b1, b2, b3⟩ := e_setShare (f := f) (o := 44) (M := A1) hf hn rfl hB2 hCA
    obtain ⟨r, M2, r1, r2, r3⟩ := e_isRowOf (f := f) (p := h) (S := S) (M := M) hf hn12 hh hS31 hM1
    have hM2 : isM M2 n cf ct := ⟨(eqo_f r3 57 50 rfl).trans hM1.1, fun j hj => ⟨(hM1.2 j hj).1, (hM1.2 j hj).2.1, (congrFun (eqo_a r3 84 rfl) _).trans (hM1.2 j hj).2.2.1, (congrFun (eqo_a r3 85 rfl) _).trans (hM1.2 j hj).2.2.2⟩⟩
    obtain ⟨t, M3, t1, t2, t3⟩ := e_isRowOf (f := f) (p := p) (S := U) (M := M2) hf hn12 hp hU31 hM2
    have hb99 : ∀ (B : Nat → Bool) (a b : Nat), a < 10 → b < 10 → cng B cf ct n a b ≤ 99 := fun B a b _ _ => Nat.le_trans (cng_le n) (Nat.le_trans hn (by decide))
    obtain ⟨r', r1', r2'⟩ := e_isOneRow (f := f) (o := 43) (s := h) (M := A2) (g := cng S.testBit cf ct n) hf hh ((eqo_a b3 43 rfl) ▸ a2) (hb99 _)
    obtain ⟨t', t1', t2'⟩ := e_isOneRow (f := f) (o := 44) (s := p) (M := A2) hf hp b2 (hb99 _)
    have eA : A2 6 4 = (h : Int) := (eqo_f b3 6 4 rfl).trans ((eqo_f a3 6 4 rfl).trans e64)
    have k1 : eqo [(43, (-1)), (44, (-1))] N0 A2 := eqo_tr (subw_cons (.tail _ (.head _)) subw_nil) (eqo_tr (subw_cons (.head _) subw_nil) h5 a3) b3
    have k2 : eqo [(82, (-1))] M0 M2 := eqo_tt h6 r3
    have k3 : eqo [(82, (-1))] M0 M3 := eqo_tt k2 t3
    rw [cng_congr hUb] at t2'
    have er : r' = r := by
      rcases r2 with q | q <;> rcases r2' with q' | q'
      · rw [q.1, q'.1]
      · exact absurd q.2 q'.2
      · exact absurd q'.2 q.2
      · rw [q.1, q'.1]
    have et : t' = t := by
      rcases t2 with q | q <;> rcases t2' with q' | q'
      · rw [q.1, q'.1]
      · exact absurd q.2 q'.2
      · exact absurd q'.2 q.2
      · rw [q.1, q'.1]
    rw [a1, r1]
    simp only [Option.bind_some]
    rw [b1]
    simp only [Option.bind_some]
    rw [eA, r1', er]
    simp only [Option.bind_some]
    by_cases hr0 : r = 0
    · rw [if_pos hr0, if_pos hr0]
      exact stay x h4 k1 k2
    · rw [if_neg hr0, if_neg hr0, t1', t1, et]
      simp only [Option.bind_some]
      by_cases ht0 : t = 0
      · rw [if_pos ht0, if_pos ht0]
        exact stay x h4 k1 k3
      · rw [if_neg ht0, if_neg ht0]
        exact stay z (Int.le_trans (Int.le_of_lt hz) h4) k1 k3
  · rw [if_neg hz, if_neg hz]
    exact stay x h4 h5 h6
theorem tw_end {f n p : Nat} {N0 M0 : oM} {s s' : Int × Int × oM} (hn : n ≤ 8) (hI : twI n N0 M0 (2 ^ n) s s') :
    okp (p_R_sharedHours_L16 f p n s) (fun y => okp (p_M_two_L52 f p ((2 ^ n - 1 : Nat) : Int) s') (fun y' => psum2 (fun _ _ => False) twQ y y')) := by
  obtain ⟨x, i, N⟩ := s
  obtain ⟨x', i', M⟩ := s'
  obtain ⟨h1, h2, h3, h4, h5, h6⟩ := hI
  simp only at h1 h2 h3 h4 h5 h6
  subst h1 h2 h3
  have hpw : ¬ ((2 ^ n : Nat) : Int) < ishl 1 (n : Int) := by
    rw [ishl1 (Nat.lt_of_le_of_lt hn (by decide))]; exact Int.lt_irrefl _
  have hlt : ((2 ^ n - 1 : Nat) : Int) < ((2 ^ n : Nat) : Int) := nat_lt (Nat.sub_lt (Nat.two_pow_pos n) (by decide))
  unfold p_R_sharedHours_L16 p_M_two_L52
  simp only []
  rw [if_neg hpw, if_pos hlt]
  by_cases hx : x = 1000000
  · rw [if_pos hx]
    exact ⟨h4, by show (-4 : Int) = if x = 1000000 then -4 else x; rw [if_pos hx]⟩
  · rw [if_neg hx]
    exact ⟨h4, by show x = if x = 1000000 then -4 else x; rw [if_neg hx]⟩
theorem two_B {f T : Nat} {c : Int} {p : Int} {Mc Mr : oM} (hf : 2000 < f) (h : Rel T c Mc Mr) : ∃ r N M, p_O_two f p Mc = some (r, N) ∧ p_M_two f p Mr = some (r, M) := by
  obtain ⟨hp, hd, ho, -⟩ := id h
  have hh := rOk_holder ho
  have c4 : Mc 6 4 = p21 (Mr 58 151) := hd.2.2.2.2.1
  have hall : allS (Mr 58) = allS (Mc (6 + 1)) := allS_congr (fun i i0 i1 => (hd.1 i i0 i1).symm)
  have e0 := e_D_owedInAll (f := f) (o := 6) (M := Mc) (Nat.lt_trans (by decide) hf) (dC_dOk hd ho)
  have hcs := cs_all (dC_dOk hd ho)
  have hcs' := cs_all (rOk_dOk ho)
  unfold p_O_two p_M_two
  rw [e_P_has hp.2.1 hp.1, e_M_isPerson hp.2.2.1 hp.1]
  simp only [Option.bind_some]
  cases ht : tldb T p
  · rw [b01_f, if_pos rfl, if_pos rfl]
    exact ⟨_, _, _, rfl, rfl⟩
  have n10 : ¬ (1 : Int) = 0 := by decide
  rw [b01_t, if_neg n10, if_neg n10, c4, bnd_eq (by decide) (by decide)]
  have hp10 := tldb_rng ht
  obtain ⟨k, hk⟩ : ∃ k : Nat, p = k := ⟨p.toNat, (Int.toNat_of_nonneg hp10.1).symm⟩
  subst hk
  have hk10 : k < 10 := Int.ofNat_lt.mp hp10.2
  rcases hh with z | z
  · rw [z, if_pos (by decide), if_pos (by decide)]
    exact ⟨_, _, _, rfl, rfl⟩
  obtain ⟨w, hw⟩ : ∃ w : Nat, Mr 58 151 = w := ⟨(Mr 58 151).toNat, (Int.toNat_of_nonneg z.1).symm⟩
  have hw10 : w < 10 := Int.ofNat_lt.mp (hw ▸ z.2)
  have p1 : p21 (Mr 58 151) = (w : Int) := by unfold p21; rw [if_neg (by clear e0 hall hcs hcs'; omega)]; exact hw
  have pneg : ¬ (w : Int) < 0 := Int.not_lt.2 (Int.natCast_nonneg w)
  rw [p1, hw, if_neg pneg, if_neg pneg, e0]
  simp only [Option.bind_some]
  by_cases h8 : (8 : Int) < allS (Mc (6 + 1))
  · rw [if_pos h8, e_M_laysCoins_no hf (rOk_dOk ho) (hall ▸ h8)]
    simp only [Option.bind_some]
    rw [if_pos trivial]
    exact ⟨_, _, _, rfl, rfl⟩
  · rw [if_neg h8]
    have hn8 : cs (Mc (6 + 1)) 100 ≤ 8 := Int.ofNat_le.mp (by rw [hcs]; exact Int.not_lt.mp h8)
    obtain ⟨M1, m1, m2, m3, m4⟩ := e_M_laysCoins (f := f) (m := 8) (M := Mr) hf (rOk_dOk ho) (hall ▸ h8) (by decide)
    obtain ⟨N1, n1, n2, n3⟩ := e_listCoins (f := f) (o := 45) (m := 8) (M := Mc) (by decide) hf rfl (dC_dOk hd ho) hn8
    obtain ⟨cf, ct, hcc, -⟩ := coins_both (dC_dOk hd ho) (fun i i0 i1 => (hd.1 i i0 i1).symm) n2 m3
    have ecs : cs (Mr 58) 100 = cs (Mc (6 + 1)) 100 := cs_congr 100 (fun i hi => (hd.1 i (Int.natCast_nonneg _) (by clear e0 hall hcs hcs' hn8 h8; omega)).symm)
    rw [ecs] at m2
    generalize hn : cs (Mc (6 + 1)) 100 = n at *
    have hC : isC N1 45 n cf ct := fun j hj => ⟨(hcc j hj).1, (hcc j hj).2.1, (hcc j hj).2.2.1⟩
    have hM : isM M1 n cf ct := ⟨m2, fun j hj => ⟨(hcc j hj).1, (hcc j hj).2.1, (hcc j hj).2.2.2.1, (hcc j hj).2.2.2.2⟩⟩
    have hsp := pplR_spotR hp
    have p2 : 2 ^ n ≤ 2 ^ 8 := Nat.pow_le_pow_right (by decide) hn8
    have p0 : 0 < 2 ^ n := Nat.two_pow_pos n
    have loop := for2_ok (step := p_R_sharedHours_L16 f k n) (step' := p_M_two_L52 f k ((2 ^ n - 1 : Nat) : Int)) (Q := twQ) (2 ^ n) (twI n N1 M1)
      (fun S s s' hS hI => tw_step (cf := cf) (ct := ct) (h := w) hf hn8 hk10 hw10 hS hC hM ((eqo_a n3 4 rfl) ▸ hp.2.2.2.1) ((eqo_a n3 5 rfl) ▸ hp.2.2.2.2.1) ((eqo_a m4 61 rfl) ▸ hsp.1) ((eqo_a m4 62 rfl) ▸ hsp.2)
        (fun i i0 i1 => by rw [eqo_a n3 4 rfl, eqo_a n3 5 rfl, eqo_a m4 61 rfl, eqo_a m4 62 rfl]; exact ⟨(hp.2.2.2.2.2 i i0 i1).1.symm, (hp.2.2.2.2.2 i i0 i1).2.symm⟩)
        ((eqo_f n3 6 4 rfl).trans (c4.trans p1)) ((eqo_f m4 58 151 rfl).trans hw) hI)
      (fun s s' hI => tw_end hn8 hI) f f (Nat.lt_of_le_of_lt p2 (Nat.lt_trans (by decide) hf)) (Nat.lt_of_le_of_lt p2 (Nat.lt_trans (by decide) hf)) (s := (1000000, 0, N1)) (s' := (1000000, 0, M1)) ⟨rfl, rfl, rfl, Int.le_refl _, eqo_rfl _ _, eqo_rfl _ _⟩
    obtain ⟨r, er, hr⟩ := okp_ex loop
    obtain ⟨r', er', hr'⟩ := okp_ex hr
    have wall : w32 (ishl 1 (n : Int) - 1) = ((2 ^ n - 1 : Nat) : Int) := by
      rw [ishl1 (Nat.lt_of_le_of_lt hn8 (by decide))]
      clear e0 hall hcs hcs' loop er er'
      have : 2 ^ n ≤ 256 := p2
      generalize 2 ^ n = P at *
      rw [w32_of (by omega) (by omega)]
      omega
    rw [m1]
    simp only [Option.bind_some]
    rw [if_neg n10, m2, wall, lt_eq, er']
    unfold p_R_sharedHours
    have n1' : p_D_listCoins f 45 8 Mc = some ((n : Int), N1) := n1
    rw [n1']
    simp only [Option.bind_some]
    rw [er]
    simp only [Option.bind_some]
    by_cases hr1 : r.1 < 1000000
    · rw [if_pos hr1]
      refine ⟨r.1, _, r'.2, rfl, ?_⟩
      rw [← show r'.1 = r.1 from by rw [hr'.2, if_neg (Int.ne_of_lt hr1)]]
    · rw [if_neg hr1]
      refine ⟨-4, _, r'.2, rfl, ?_⟩
      rw [← show r'.1 = -4 from by rw [hr'.2, if_pos (Int.le_antisymm hr'.1 (Int.not_lt.mp hr1))]]
theorem call_two {f T : Nat} {c p : Int} {Mc Mr : oM} (hf : 2000 < f) (h : Rel T c Mc Mr) : Same f c (p_O_two f p Mc) (p_M_two f p Mr) := by
  obtain ⟨r, N, M, e1, e2⟩ := two_B (f := f) (p := p) hf h
  have x1 := fr_O_two (eqo_rfl _ _) _ e1
  have x2 := fr_M_two (eqo_rfl _ _) _ e2
  exact same_upd e1 e2 ⟨T, Rel_try h x1 x2 rfl (fun i _ _ => x2 58 i rfl)⟩
