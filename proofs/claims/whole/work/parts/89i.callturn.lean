/-! debts turned round: the loops over the sets, the call -/
def tnI (N0 M0 : oM) (S : Nat) (s : Int × Int × Int × oM) (s' : Int × Int × oM) : Prop :=
  s.2.2.1 = (S : Int) ∧ s'.2.1 = (S : Int) ∧ ((s.1 = -1 ∧ s.2.1 = 13 ∧ s'.1 = -2) ∨ ∃ X : Nat, X < 4096 ∧ s.1 = (X : Int) ∧ s'.1 = (X : Int) ∧ s.2.1 = ((bcn X 12 : Nat) : Int)) ∧ eqo [(51, (-1))] N0 s.2.2.2 ∧ s'.2.2 = M0
def tnQ (what : Int) (r r' : Int × oM) : Prop := (r.1 = -1 ∧ r'.1 = -2) ∨ ∃ X : Nat, X < 4096 ∧ r.1 = (X : Int) ∧ r'.1 = if what = 1 then (X : Int) else ((bcn X 12 : Nat) : Int)
theorem tn_step {f n S : Nat} {what : Int} {N0 M0 : oM} {s : Int × Int × Int × oM} {s' : Int × Int × oM} {w : Nat → Int} {cf ct : Nat → Nat} (hf : 5000 < f) (hn : n ≤ 12) (hS : S < 2 ^ n) (hC : isC N0 55 n cf ct) (hM : isM M0 n cf ct) (hw : ∀ p, p < 10 → -990 ≤ w p ∧ w p ≤ 990) (h50 : ∀ p : Nat, p < 10 → N0 50 (p : Int) = w p) (hs : ∀ p, p < 10 → w p = sumN (fun j => i01 (ct j) p - i01 (cf j) p) n) (hI : tnI N0 M0 S s s') :
    okp (p_B_leastTurned_L23 f n s) (fun y => okp (p_M_turned_L28 f what s') (fun y' => psum2 (tnI N0 M0 (S + 1)) (tnQ what) y y')) := by
  obtain ⟨x, u, i, N⟩ := s
  obtain ⟨x', i', M⟩ := s'
  obtain ⟨h1, h2, h3, h4, h5⟩ := hI
  simp only at h1 h2 h3 h4 h5
  subst h1 h2 h5
  have hf2 : 2000 < f := Nat.lt_trans (by decide) hf
  have p2 : 2 ^ n ≤ 2 ^ 12 := Nat.pow_le_pow_right (by decide) hn
  have hS12 : S < 4096 := Nat.lt_of_lt_of_le hS p2
  have hS31 : S < 2147483648 := Nat.lt_trans hS12 (by decide)
  have w1 : w32 ((S : Int) + 1) = ((S + 1 : Nat) : Int) := by
    rw [w32_of (by omega) (by omega)]; rfl
  have hpw : (S : Int) < ishl 1 (n : Int) := by
    rw [ishl1 (Nat.lt_of_le_of_lt hn (by decide))]; exact nat_lt hS
  have hC1 : isC N 55 n cf ct := fun j hj => ⟨(hC j hj).1, (hC j hj).2.1, (congrFun (eqo_a h4 55 rfl) _).trans (hC j hj).2.2⟩
  obtain ⟨r, N1, a1, a2, a3⟩ := e_isEvenTurned (f := f) (M := N) hf2 hn hS31 hC1 hw (fun p hp => (congrFun (eqo_a h4 50 rfl) _).trans (h50 p hp)) hs
  obtain ⟨t, b1, b2⟩ := e_isEven (f := f) (M := M) hf2 hn hS31 hM
  have ert : r = t := by
    rcases a2 with q | q <;> rcases b2 with q' | q'
    · rw [q.1, q'.1]
    · exact absurd q.2 q'.2
    · exact absurd q'.2 q.2
    · rw [q.1, q'.1]
  subst ert
  have hbc : bcn S 12 ≤ 12 := bcn_le S 12
  have k1 : eqo [(51, (-1))] N0 N1 := eqo_tt h4 a3
  have stay : ∀ {N' : oM}, eqo [(51, (-1))] N0 N' → okp (p_B_leastTurned_B61_23 f n x u S N') (fun y => okp (p_M_turned_B68_28 f what x' S M) (fun y' => psum2 (tnI N0 M (S + 1)) (tnQ what) y y')) := by
    intro N' k
    unfold p_B_leastTurned_B61_23 p_M_turned_B68_28
    rw [lt_eq, lt_eq, w1]
    exact ⟨rfl, rfl, h3, k, rfl⟩
  have both : okp ((p_B_isEvenTurned f S n N).bind fun q3 => if q3.1 = 0 then (p_B_leastTurned_B61_23 f n x u S q3.2) else ((p_JI_bitCount f S q3.2).bind fun q4 => p_B_leastTurned_B61_23 f n S q4.1 S q4.2)) (fun y => okp (p_M_turned_B55_28 f what x' S M) (fun y' => psum2 (tnI N0 M (S + 1)) (tnQ what) y y')) := by
    unfold p_M_turned_B55_28
    rw [a1, b1]
    simp only [Option.bind_some]
    by_cases hr : r = 0
    · rw [if_pos hr, if_pos hr]
      exact stay k1
    · rw [if_neg hr, if_neg hr, e_JI_bitCount hS12]
      simp only [Option.bind_some]
      unfold p_B_leastTurned_B61_23 p_M_turned_B68_28
      rw [lt_eq, lt_eq, w1]
      exact ⟨rfl, rfl, .inr ⟨S, hS12, rfl, rfl, rfl⟩, k1, rfl⟩
  unfold p_B_leastTurned_L23 p_M_turned_L28
  simp only []
  rw [if_pos hpw, hM.1, if_pos hpw, e_JI_bitCount hS12]
  simp only [Option.bind_some]
  rcases h3 with ⟨g1, g2, g3⟩ | ⟨X, gX, g1, g2, g3⟩
  · rw [g2, if_pos (show ((bcn S 12 : Nat) : Int) < 13 from nat_lt (Nat.lt_succ_of_le hbc)), if_pos g3]
    rw [g2] at both
    exact both
  · rw [if_neg (show ¬ x' = -2 from by rw [g2]; clear both stay; omega), e_M_bits12 hf2 hS12]
    simp only [Option.bind_some]
    rw [show p_M_bits f x' M = some (((bcn X 12 : Nat) : Int), M) from by rw [g2]; exact e_M_bits12 hf2 gX]
    simp only [Option.bind_some]
    by_cases hlt : ((bcn S 12 : Nat) : Int) < ((bcn X 12 : Nat) : Int)
    · rw [g3, if_pos hlt, if_pos hlt]
      rw [g3] at both
      exact both
    · rw [g3, if_neg hlt, if_neg hlt]
      rw [g3] at stay
      exact stay h4
theorem tn_end {f n : Nat} {what : Int} {N0 M0 : oM} {s : Int × Int × Int × oM} {s' : Int × Int × oM} (hf : 5000 < f) (hn : n ≤ 12) (hM : M0 57 50 = (n : Int)) (hI : tnI N0 M0 (2 ^ n) s s') :
    okp (p_B_leastTurned_L23 f n s) (fun y => okp (p_M_turned_L28 f what s') (fun y' => psum2 (fun _ _ => False) (tnQ what) y y')) := by
  obtain ⟨x, u, i, N⟩ := s
  obtain ⟨x', i', M⟩ := s'
  obtain ⟨h1, h2, h3, h4, h5⟩ := hI
  simp only at h1 h2 h3 h4 h5
  subst h1 h2 h5
  have hf2 : 2000 < f := Nat.lt_trans (by decide) hf
  have hpw : ¬ ((2 ^ n : Nat) : Int) < ishl 1 (n : Int) := by
    rw [ishl1 (Nat.lt_of_le_of_lt hn (by decide))]; exact Int.lt_irrefl _
  unfold p_B_leastTurned_L23 p_M_turned_L28 p_M_turned_B85_28
  simp only []
  rw [if_neg hpw, hM, if_neg hpw]
  rcases h3 with ⟨g1, g2, g3⟩ | ⟨X, gX, g1, g2, g3⟩
  · rw [if_pos g3]
    by_cases hw : what = 1
    · rw [if_pos hw]
      exact .inl ⟨g1, g3⟩
    · rw [if_neg hw]
      exact .inl ⟨g1, g3⟩
  · rw [if_neg (show ¬ x' = -2 from by rw [g2]; omega)]
    by_cases hw : what = 1
    · rw [if_pos hw]
      exact .inr ⟨X, gX, g1, by rw [if_pos hw]; exact g2⟩
    · rw [if_neg hw, show p_M_bits f x' M = some (((bcn X 12 : Nat) : Int), M) from by rw [g2]; exact e_M_bits12 hf2 gX]
      exact .inr ⟨X, gX, g1, by rw [if_neg hw]⟩
theorem turned_B {f T : Nat} {c : Int} {what : Int} {Mc Mr : oM} (hf : 5000 < f) (h : Rel T c Mc Mr) (hw : what = 0 ∨ what = 1) : ∃ r N M, p_O_turned f what Mc = some (r, N) ∧ p_M_turned f what Mr = some (r, M) := by
  obtain ⟨hp, hd, ho, -⟩ := id h
  have hf2 : 2000 < f := Nat.lt_trans (by decide) hf
  have hall : allS (Mr 58) = allS (Mc (6 + 1)) := allS_congr (fun i i0 i1 => (hd.1 i i0 i1).symm)
  have e0 := e_D_owedInAll (f := f) (o := 6) (M := Mc) (Nat.lt_trans (by decide) hf) (dC_dOk hd ho)
  have hcs := cs_all (dC_dOk hd ho)
  have eO : p_O_turned f what Mc = p_O_turned_B11 f what Mc := by
    unfold p_O_turned
    rcases hw with q | q
    · rw [if_pos q]
    · rw [if_neg (by omega), if_pos q]
  unfold p_M_turned
  rw [eO, e_M_in, in_t (show 0 ≤ what ∧ what ≤ 1 by omega)]
  simp only [Option.bind_some]
  rw [b01_t, if_neg (by decide)]
  unfold p_O_turned_B11
  rw [e0]
  simp only [Option.bind_some]
  by_cases h12 : (12 : Int) < allS (Mc (6 + 1))
  · rw [if_pos h12, e_M_laysCoins_no hf2 (rOk_dOk ho) (hall ▸ h12)]
    simp only [Option.bind_some]
    rw [if_pos trivial]
    exact ⟨_, _, _, rfl, rfl⟩
  · rw [if_neg h12]
    have hn12 : cs (Mc (6 + 1)) 100 ≤ 12 := Int.ofNat_le.mp (by rw [hcs]; exact Int.not_lt.mp h12)
    obtain ⟨M1, m1, m2, m3, m4⟩ := e_M_laysCoins (f := f) (m := 12) (M := Mr) hf2 (rOk_dOk ho) (hall ▸ h12) (by decide)
    obtain ⟨N0, n1, n2, n3⟩ := e_weigh (f := f) (M := Mc) hf2 (dC_dOk hd ho)
    have e7 : N0 7 = Mc (6 + 1) := eqo_a n3 7 rfl
    obtain ⟨N1, g1, g2, g3⟩ := e_listCoins (f := f) (o := 55) (m := 12) (M := N0) (by decide) hf2 rfl (e7 ▸ dC_dOk hd ho) (e7 ▸ hn12)
    rw [e7] at g1 g2
    obtain ⟨cf, ct, hcc, hW⟩ := coins_both (dC_dOk hd ho) (fun i i0 i1 => (hd.1 i i0 i1).symm) g2 m3
    have ecs : cs (Mr 58) 100 = cs (Mc (6 + 1)) 100 := cs_congr 100 (fun i hi => (hd.1 i (Int.natCast_nonneg _) (by clear e0 hall hcs hn12 h12; omega)).symm)
    rw [ecs] at m2
    have hsum : ∀ p, p < 10 → wOf (Mc (6 + 1)) p = sumN (fun j => i01 (ct j) p - i01 (cf j) p) (cs (Mc (6 + 1)) 100) := fun p hp => wOf_sum hp hW
    have hwb : ∀ p, p < 10 → -990 ≤ wOf (Mc (6 + 1)) p ∧ wOf (Mc (6 + 1)) p ≤ 990 := fun p hp => wOf_bd (dC_dOk hd ho) hp
    clear hW
    have h50 : ∀ p : Nat, p < 10 → N1 50 (p : Int) = wOf (Mc (6 + 1)) p := fun p hp => (congrFun (eqo_a g3 50 rfl) _).trans (n2 p hp)
    clear n2
    generalize wOf (Mc (6 + 1)) = w at *
    generalize hn : cs (Mc (6 + 1)) 100 = n at *
    have hC : isC N1 55 n cf ct := fun j hj => ⟨(hcc j hj).1, (hcc j hj).2.1, (hcc j hj).2.2.1⟩
    have hM : isM M1 n cf ct := ⟨m2, fun j hj => ⟨(hcc j hj).1, (hcc j hj).2.1, (hcc j hj).2.2.2.1, (hcc j hj).2.2.2.2⟩⟩
    have p2 : 2 ^ n ≤ 2 ^ 12 := Nat.pow_le_pow_right (by decide) hn12
    have loop := for2_ok (step := p_B_leastTurned_L23 f n) (step' := p_M_turned_L28 f what) (Q := tnQ what) (2 ^ n) (tnI N1 M1)
      (fun S s s' hS hI => tn_step (cf := cf) (ct := ct) hf hn12 hS hC hM hwb h50 hsum hI)
      (fun s s' hI => tn_end hf hn12 m2 hI) f f (Nat.lt_of_le_of_lt p2 (Nat.lt_trans (by decide) hf)) (Nat.lt_of_le_of_lt p2 (Nat.lt_trans (by decide) hf)) (s := ((-1), 13, 0, N1)) (s' := ((-2), 0, M1)) ⟨rfl, rfl, .inl ⟨rfl, rfl, rfl⟩, eqo_rfl _ _, rfl⟩
    obtain ⟨r, er, hr⟩ := okp_ex loop
    obtain ⟨r', er', hr'⟩ := okp_ex hr
    rw [m1]
    simp only [Option.bind_some]
    rw [if_neg (by decide), er']
    unfold p_B_leastTurned
    rw [n1]
    simp only [Option.bind_some]
    have g1' : p_D_listCoins f 55 12 N0 = some ((n : Int), N1) := g1
    rw [g1']
    simp only [Option.bind_some]
    rw [er]
    simp only [Option.bind_some]
    rcases hr' with ⟨q1, q2⟩ | ⟨X, qX, q1, q2⟩
    · rw [q1, if_pos (by decide)]
      exact ⟨_, _, r'.2, rfl, by rw [← q2]⟩
    · rw [q1, if_neg (Int.not_lt.mpr (Int.natCast_nonneg X))]
      by_cases hw1 : what = 1
      · rw [if_pos hw1]
        rw [if_pos hw1] at q2
        exact ⟨_, _, r'.2, rfl, by rw [← q2]⟩
      · rw [if_neg hw1, e_JI_bitCount qX]
        rw [if_neg hw1] at q2
        exact ⟨_, _, r'.2, rfl, by rw [← q2]⟩
theorem call_turned {f T : Nat} {c what : Int} {Mc Mr : oM} (hf : 5000 < f) (h : Rel T c Mc Mr) : Same f c (p_O_turned f what Mc) (p_M_turned f what Mr) := by
  by_cases hw : what = 0 ∨ what = 1
  · obtain ⟨r, N, M, e1, e2⟩ := turned_B hf h hw
    have x1 := fr_O_turned (eqo_rfl _ _) _ e1
    have x2 := fr_M_turned (eqo_rfl _ _) _ e2
    exact same_upd e1 e2 ⟨T, Rel_try h x1 x2 rfl (fun i _ _ => x2 58 i rfl)⟩
  · refine same_some (r := -1) h ?_ ?_
    · unfold p_O_turned
      rw [if_neg (fun z => hw (.inl z)), if_neg (fun z => hw (.inr z))]
    · unfold p_M_turned
      rw [e_M_in, in_f (by omega)]
      simp only [Option.bind_some]
      rw [b01_f, if_pos rfl]
