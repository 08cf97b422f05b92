/-! walking a row, by both; the hours of it -/
def wcW (o : Nat) : List (Nat × Int) := [(o, 3), (o, 4), (o, 5), (o, 6), (o, 7), (o + 1, (-1)), (o + 3, (-1))]
def wmW : List (Nat × Int) := [(57, 44), (57, 45), (58, (-1))]
def wkI (T : Nat) (h : Int) (o : Nat) (N0 M0 : oM) (H len : Int) (row : Nat → Int) (k : Nat) (s : Int × oM) (M : oM) : Prop := s.1 = (k : Int) ∧ dR T h o s.2 M ∧ M 58 151 = pvw H row k ∧ M 57 44 = (k : Int) ∧ M 57 45 = hhw (M0 61) (M0 62) H row k ∧ eqo (wcW o) N0 s.2 ∧ eqo wmW M0 M
def wkQ (T : Nat) (h : Int) (o : Nat) (N0 M0 : oM) (H len : Int) (row : Nat → Int) (q : Int × oM) (q' : Int × oM) : Prop := q'.1 = 0 ∧ ∃ k : Nat, (k : Int) ≤ len ∧ wkI T h o N0 M0 H len row k (q.1, q.2) q'.2
theorem hhw_bd {X Y : Int → Int} {H : Int} {row : Nat → Int} (hX : spotOk X) (hY : spotOk Y) (hH : 0 ≤ H ∧ H < 10) : ∀ k : Nat, (∀ j, j < k → 0 ≤ row j ∧ row j < 10) → 0 ≤ hhw X Y H row k ∧ hhw X Y H row k ≤ 18 * (k : Int) := by
  intro k hr
  refine sumN_bd k fun j hj => ?_
  have hpv : 0 ≤ pvw H row j ∧ pvw H row j < 10 := by
    cases j with
    | zero => exact hH
    | succ j => exact hr j (by omega)
  have := wayS_bd hX hY hpv (hr j hj)
  omega
theorem wk_step {f T k : Nat} {h H len : Int} {o : Nat} {N0 M0 : oM} {row : Nat → Int} {s : Int × oM} {M : oM} (hf : 2000 < f) (ho : o = 6 ∨ o = 14) (hk : (k : Int) < len) (hl : len ≤ 60) (hN : N0 39 2 = len) (hM : M0 57 40 = len) (hrow : ∀ j : Nat, (j : Int) < len → N0 40 (j : Int) = row j ∧ M0 78 (j : Int) = row j ∧ 0 ≤ row j ∧ row j < 10) (hH : 0 ≤ H ∧ H < 10) (hX : spotOk (M0 61)) (hY : spotOk (M0 62)) (hI : wkI T h o N0 M0 H len row k s M) :
    okp (p_RR_walkedBy_L2 f o s) (fun y => okp (p_M_walksRoute_L10 f M) (fun y' => psum2 (wkI T h o N0 M0 H len row (k + 1)) (wkQ T h o N0 M0 H len row) y y')) := by
  obtain ⟨j, N⟩ := s
  obtain ⟨i1, i2, i3, i4, i5, i6, i7⟩ := hI
  simp only at i1 i2 i6
  subst i1
  have hr := hrow k hk
  have hpv : 0 ≤ pvw H row k ∧ pvw H row k < 10 := by
    cases k with
    | zero => exact hH
    | succ k => exact (hrow k (by omega)).2.2
  have e39 : N 39 2 = len := by
    refine (?_ : N 39 2 = N0 39 2).trans hN
    rcases ho with rfl | rfl
    · exact i6 39 2 rfl
    · exact i6 39 2 rfl
  have e40 : N 40 (k : Int) = row k := by
    refine (?_ : N 40 (k : Int) = N0 40 (k : Int)).trans hr.1
    rcases ho with rfl | rfl
    · exact i6 40 k rfl
    · exact i6 40 k rfl
  have m40 : M 57 40 = len := (eqo_f i7 57 40 rfl).trans hM
  have m78 : M 78 (k : Int) = row k := (congrFun (eqo_a i7 78 rfl) _).trans hr.2.1
  have eh : N o 4 = pvw H row k := by
    have h4 := i2.1.2.2.2.2.1
    rw [i3] at h4
    rw [h4]
    unfold p21
    rw [if_neg (by omega)]
  have k60 : (k : Int) < 60 := by omega
  have ed : N (o + 1) (10 * pvw H row k + row k) = M 58 (10 * pvw H row k + row k) := i2.1.1 _ (by omega) (by omega)
  unfold p_RR_walkedBy_L2 p_M_walksRoute_L10
  simp only []
  rw [e39, if_pos hk, if_pos k60, bnd_nat k60, eh, e40, e_D_debtOf hpv ⟨hr.2.2.1, hr.2.2.2⟩, Option.bind_some, ed, i4, m40, if_pos hk, bnd_eq (n := 159) (i := 151) (by decide) (by decide), i3, lt_eq, bnd_nat k60, bnd_nat k60, m78, lt_eq, e_M_debtOf hpv ⟨hr.2.2.1, hr.2.2.2⟩, Option.bind_some]
  by_cases q : M 58 (10 * pvw H row k + row k) = 0
  · rw [if_pos (show (M 58 (10 * pvw H row k + row k), N).fst = 0 from q), if_pos (show (M 58 (10 * pvw H row k + row k), M).fst = 0 from q)]
    exact ⟨rfl, k, by omega, rfl, i2, i3, i4, i5, i6, i7⟩
  · have hk1 := i2.2.1 (10 * pvw H row k + row k) (by omega) (by omega)
    have htl := i2.2.2.1 (pvw H row k) (row k) hpv.1 hpv.2 hr.2.2.1 hr.2.2.2 (by omega)
    rw [if_neg (show ¬ (M 58 (10 * pvw H row k + row k), N).fst = 0 from q), if_neg (show ¬ (M 58 (10 * pvw H row k + row k), M).fst = 0 from q)]
    have e61 : M 61 = M0 61 := eqo_a i7 61 rfl
    have e62 : M 62 = M0 62 := eqo_a i7 62 rfl
    have hw := e_M_wayOf (f := f) (M := M) (a := pvw H row k) (b := row k) (e61 ▸ hX) (e62 ▸ hY) hpv ⟨hr.2.2.1, hr.2.2.2⟩
    rw [e61, e62] at hw
    have hwb := wayS_bd hX hY hpv ⟨hr.2.2.1, hr.2.2.2⟩
    have hhb := hhw_bd (H := H) (row := row) hX hY hH k (fun j hj => (hrow j (by omega)).2.2)
    generalize hv : wayS (M0 61) (M0 62) (pvw H row k) (row k) = v at *
    generalize hM7 : oU M 57 45 (hhw (M0 61) (M0 62) H row k + v) = M7
    have hd7 : dR T h o N M7 := by
      have e58 : M7 58 = M 58 := by rw [← hM7]; exact oU_row (by decide)
      unfold dR
      rw [e58]
      exact i2
    obtain ⟨a, ea, ha⟩ := okp_ex (pay_pays (f := f) (by omega) hd7 htl.1 htl.2.1)
    obtain ⟨a', ea', ha'⟩ := okp_ex ha
    have hph := pay_holder (f := f) ho a ea
    have fa := fr_D_pay (eqo_rfl _ _) _ ea
    have fa' := fr_M_pays (eqo_rfl _ _) _ ea'
    have h151 : a'.2 58 151 = row k := by
      have h4 := ha'.1.2.2.2.2.1
      rw [hph] at h4
      unfold p21 at h4
      by_cases z : a'.2 58 151 = -2
      · rw [if_pos z] at h4; omega
      · rw [if_neg z] at h4; exact h4.symm
    have e44 : a'.2 57 44 = (k : Int) := (eqo_f fa' 57 44 rfl).trans (by rw [← hM7, oU_i (by decide)]; exact i4)
    have e45 : a'.2 57 45 = hhw (M0 61) (M0 62) H row k + v := (eqo_f fa' 57 45 rfl).trans (by rw [← hM7, oU_at])
    rw [show (M 58 (10 * pvw H row k + row k), N).snd o 4 = pvw H row k from eh, show (M 58 (10 * pvw H row k + row k), N).snd 40 (k : Int) = row k from e40, show p_D_pay f o (pvw H row k) (row k) (M 58 (10 * pvw H row k + row k), N).snd = some a from ea, Option.bind_some, lt_eq, w32nat (Nat.lt_trans (show k < 60 by omega) (by decide)), show p_M_wayOf f (pvw H row k) (row k) (M 58 (10 * pvw H row k + row k), M).snd = some (v, M) from hw, Option.bind_some, show (M 58 (10 * pvw H row k + row k), M).snd 57 45 = hhw (M0 61) (M0 62) H row k from i5, show w32 (hhw (M0 61) (M0 62) H row k + (v, M).fst) = hhw (M0 61) (M0 62) H row k + v from w32_of (by show -2147483648 ≤ hhw (M0 61) (M0 62) H row k + v; omega) (by show hhw (M0 61) (M0 62) H row k + v < 2147483648; omega), lt_eq, show oU (v, M).snd 57 45 (hhw (M0 61) (M0 62) H row k + v) = M7 from hM7, ea', Option.bind_some, e44, w32nat (Nat.lt_trans (show k < 60 by omega) (by decide)), lt_eq]
    refine ⟨rfl, ?_, ?_, oU_at, ?_, eqo_tt i6 fa, ?_⟩
    · show dR T h o a.2 (oU a'.2 57 44 ((k + 1 : Nat) : Int))
      unfold dR
      rw [oU_row (by decide)]
      exact ha'
    · show oU a'.2 57 44 ((k + 1 : Nat) : Int) 58 151 = row k
      rw [oU_o (by decide)]; exact h151
    · show oU a'.2 57 44 ((k + 1 : Nat) : Int) 57 45 = sumN _ k + wayS (M0 61) (M0 62) (pvw H row k) (row k)
      rw [oU_i (by decide), e45, hv]
      rfl
    · refine eqo_oU (.head _) (eqo_tr (subw_cons (.tail _ (.tail _ (.head _))) subw_nil) ?_ fa')
      rw [← hM7]
      exact eqo_oU (.tail _ (.head _)) i7
theorem wk_end {f T k : Nat} {h H len : Int} {o : Nat} {N0 M0 : oM} {row : Nat → Int} {s : Int × oM} {M : oM} (ho : o = 6 ∨ o = 14) (hk : (k : Int) = len) (hN : N0 39 2 = len) (hM : M0 57 40 = len) (hI : wkI T h o N0 M0 H len row k s M) :
    okp (p_RR_walkedBy_L2 f o s) (fun y => okp (p_M_walksRoute_L10 f M) (fun y' => psum2 (fun _ _ => False) (wkQ T h o N0 M0 H len row) y y')) := by
  obtain ⟨j, N⟩ := s
  obtain ⟨i1, i2, i3, i4, i5, i6, i7⟩ := hI
  simp only at i1 i2 i6
  subst i1
  have e39 : N 39 2 = len := by
    refine (?_ : N 39 2 = N0 39 2).trans hN
    rcases ho with rfl | rfl
    · exact i6 39 2 rfl
    · exact i6 39 2 rfl
  have m40 : M 57 40 = len := (eqo_f i7 57 40 rfl).trans hM
  unfold p_RR_walkedBy_L2 p_M_walksRoute_L10
  simp only []
  rw [e39, if_neg (by omega), i4, m40, if_neg (by omega)]
  exact ⟨rfl, k, by omega, hk.symm, i2, i3, i4, i5, i6, i7⟩
theorem walk_ok {f T : Nat} {h H len : Int} {o : Nat} {N M : oM} (hf : 2000 < f) (ho : o = 6 ∨ o = 14) (hE : rwE N M len) (hd : dR T h o N M) (hH : M 58 151 = H) (hH0 : 0 ≤ H ∧ H < 10) (hX : spotOk (M 61)) (hY : spotOk (M 62)) :
    ∃ k : Nat, ∃ N' M', p_RR_walkedBy f o N = some ((k : Int), N') ∧ p_M_walksRoute f M = some (0, M') ∧ (k : Int) ≤ len ∧ dR T h o N' M' ∧ (∃ row : Nat → Int, (∀ j : Nat, (j : Int) < len → N 40 (j : Int) = row j ∧ 0 ≤ row j ∧ row j < 10) ∧ M' 58 151 = pvw H row k ∧ M' 57 44 = (k : Int) ∧ M' 57 45 = hhw (M 61) (M 62) H row k) ∧ eqo (wcW o) N N' ∧ eqo wmW M M' := by
  obtain ⟨h1, h2, h3, h4⟩ := hE
  obtain ⟨L, hL⟩ : ∃ L : Nat, (L : Int) = len := ⟨len.toNat, Int.toNat_of_nonneg h3.1⟩
  generalize hMb : oU (oU M 57 44 0) 57 45 0 = Mb
  have f1 : eqo wmW M Mb := by rw [← hMb]; exact eqo_oU (.tail _ (.head _)) (eqo_oU (.head _) (eqo_rfl _ _))
  have e58 : Mb 58 = M 58 := by rw [← hMb, oU_row (by decide), oU_row (by decide)]
  have e61 : Mb 61 = M 61 := by rw [← hMb, oU_row (by decide), oU_row (by decide)]
  have e62 : Mb 62 = M 62 := by rw [← hMb, oU_row (by decide), oU_row (by decide)]
  have e78 : Mb 78 = M 78 := by rw [← hMb, oU_row (by decide), oU_row (by decide)]
  have hrow : ∀ j : Nat, (j : Int) < len → N 40 (j : Int) = (fun j : Nat => N 40 (j : Int)) j ∧ Mb 78 (j : Int) = (fun j : Nat => N 40 (j : Int)) j ∧ 0 ≤ (fun j : Nat => N 40 (j : Int)) j ∧ (fun j : Nat => N 40 (j : Int)) j < 10 := fun j hj => by
    have := h4 (j : Int) (Int.natCast_nonneg j) hj
    rw [e78]
    exact ⟨rfl, this.1.symm, this.2⟩
  have hI : wkI T h o N Mb H len (fun j : Nat => N 40 (j : Int)) 0 (0, N) Mb := ⟨rfl, by unfold dR; rw [e58]; exact hd, by rw [e58]; exact hH, by rw [← hMb, oU_i (by decide), oU_at]; rfl, by rw [← hMb, oU_at]; rfl, eqo_rfl _ _, eqo_rfl _ _⟩
  obtain ⟨q, e1, g1⟩ := okp_ex (for2_ok (step := p_RR_walkedBy_L2 f o) (step' := p_M_walksRoute_L10 f) (Q := wkQ T h o N Mb H len (fun j : Nat => N 40 (j : Int))) L (wkI T h o N Mb H len (fun j : Nat => N 40 (j : Int)))
    (fun k s s' hk hI => wk_step hf ho (by omega) h3.2 h1 (by rw [← hMb, oU_i (by decide), oU_i (by decide)]; exact h2) hrow hH0 (e61 ▸ hX) (e62 ▸ hY) hI)
    (fun s s' hI => wk_end ho hL h1 (by rw [← hMb, oU_i (by decide), oU_i (by decide)]; exact h2) hI) f f (by omega) (by omega) hI)
  obtain ⟨q', e2, g2, k, k1, i1, i2, i3, i4, i5, i6, i7⟩ := okp_ex g1
  refine ⟨k, q.2, q'.2, ?_, ?_, k1, i2, ⟨(fun j : Nat => N 40 (j : Int)), fun j hj => ⟨rfl, (hrow j hj).2.2⟩, i3, i4, by rw [i5, e61, e62]⟩, i6, eqo_tt f1 i7⟩
  · unfold p_RR_walkedBy
    rw [e1, ← i1]
  · unfold p_M_walksRoute
    rw [lt_eq, lt_eq, hMb, e2, ← g2]
theorem e_P_hoursOf {f k : Nat} {H len : Int} {N : oM} {X Y : Int → Int} {row : Nat → Int} (hf : 2000 < f) (hk : (k : Int) ≤ len) (hl : len ≤ 60) (hX : spotOk (N 4)) (hY : spotOk (N 5)) (hrow : ∀ j : Nat, (j : Int) < len → N 40 (j : Int) = row j ∧ 0 ≤ row j ∧ row j < 10) (hH : 0 ≤ H ∧ H < 10) (hXY : ∀ i : Int, 0 ≤ i → i < 10 → N 4 i = X i ∧ N 5 i = Y i) : p_P_hoursOf f k H N = some (hhw X Y H row k, N) := by
  have hpv : ∀ j, j < k → 0 ≤ pvw H row j ∧ pvw H row j < 10 := by
    intro j hj
    cases j with
    | zero => exact hH
    | succ j => exact (hrow j (by omega)).2
  have ew : ∀ j, j < k → wayS (N 4) (N 5) (pvw H row j) (row j) = wayS X Y (pvw H row j) (row j) := fun j hj => wayS_congr (hpv j hj) (hrow j (by omega)).2 hXY
  unfold p_P_hoursOf
  refine iter_up k (fun j => (hhw X Y H row j, pvw H row j, (j : Int), N)) _ ?_ ?_ f (by omega)
  · intro j hj
    have hr := hrow j (by omega)
    have j60 : (j : Int) < 60 := by omega
    have hb : 0 ≤ hhw (N 4) (N 5) H row j ∧ hhw (N 4) (N 5) H row j ≤ 18 * (j : Int) := hhw_bd hX hY hH j (fun i hi => (hrow i (by omega)).2)
    have heq : hhw X Y H row j = hhw (N 4) (N 5) H row j := sumN_congr j fun i hi => (ew i (by omega)).symm
    have hwb := wayS_bd hX hY (hpv j hj) hr.2
    show p_P_hoursOf_L9 f k (hhw X Y H row j, pvw H row j, (j : Int), N) = _
    unfold p_P_hoursOf_L9
    simp only []
    rw [if_pos (nat_lt hj), if_pos j60, bnd_nat j60, hr.1, e_P_way hX hY (hpv j hj) hr.2, Option.bind_some, show w32 (hhw X Y H row j + (wayS (N 4) (N 5) (pvw H row j) (row j), N).fst) = hhw X Y H row j + wayS (N 4) (N 5) (pvw H row j) (row j) from w32_of (by show -2147483648 ≤ hhw X Y H row j + wayS (N 4) (N 5) (pvw H row j) (row j); omega) (by show hhw X Y H row j + wayS (N 4) (N 5) (pvw H row j) (row j) < 2147483648; omega), lt_eq, bnd_nat j60, show (wayS (N 4) (N 5) (pvw H row j) (row j), N).snd 40 (j : Int) = row j from hr.1, lt_eq, lt_eq, w32nat (Nat.lt_trans (show j < 60 by omega) (by decide)), ew j hj]
    rfl
  · show p_P_hoursOf_L9 f k (_, _, (k : Int), N) = _
    unfold p_P_hoursOf_L9
    simp only []
    rw [if_neg (Int.lt_irrefl _)]
