/-! the reference's table of groups -/
theorem e_M_setOffOf {f p : Nat} {M : oM} (hf : 2000 < f) (hp : p < 10) (h : dOk (M 58)) : p_M_setOffOf f p M = some (wOf (M 58) p, M) := by
  unfold p_M_setOffOf
  rw [e_M_getsAll (Nat.lt_trans (by decide) hf) (nat9 hp) h]
  simp only [Option.bind_some]
  rw [e_M_owesAll (Nat.lt_trans (by decide) hf) (nat9 hp) h]
  simp only [Option.bind_some]
  rw [w32sub (getS_bd h (nat9 hp)) (oweS_bd h (nat9 hp))]
  rfl
theorem mx_nat {a b : Nat} : (if (b : Int) < (a : Int) then (a : Int) else (b : Int)) = ((max a b : Nat) : Int) := by
  split <;> omega
theorem grm_no {f S k : Nat} {M : oM} (hS : S < 1024) (hk : k < 10) (hb : ¬ S.testBit k = true) : p_M_laysGroups_L25 f S (k, M) = some (.inl ((k : Int) + 1, M)) := by
  unfold p_M_laysGroups_L25
  simp only []
  rw [if_pos (nat9 hk).2, e_M_has (lt31 hS) (Nat.lt_trans hk (by decide))]
  simp only [Option.bind_some]
  rw [Bool.not_eq_true] at hb
  rw [hb, if_pos (show b01 false = 0 from rfl)]
  unfold p_M_laysGroups_B87_25
  rw [lt_eq, w32s (Nat.le_of_lt (Nat.lt_trans hk (by decide)))]; rfl
theorem grm_yes {f S k A B : Nat} {a x : Int} {M : oM} (hf : 2000 < f) (hS : S < 1024) (hk : k < 10) (hb : S.testBit k = true) (hd : dOk (M 58)) (hx : wOf (M 58) k = x) (h93 : M 93 (S : Int) = a) (ha : w32 (a + x) = a + x) (h94 : M 94 (S : Int) = (A : Int)) (h94' : M 94 ((S ^^^ 2 ^ k : Nat) : Int) = (B : Int)) : p_M_laysGroups_L25 f S (k, M) = some (.inl ((k : Int) + 1, oU (oU M 93 S (a + x)) 94 S ((max A B : Nat) : Int))) := by
  unfold p_M_laysGroups_L25
  simp only []
  rw [if_pos (nat9 hk).2, e_M_has (lt31 hS) (Nat.lt_trans hk (by decide))]
  simp only [Option.bind_some]
  rw [hb, if_neg (show ¬ b01 true = 0 by decide), bnd_eq (Int.natCast_nonneg _) (nat1024 hS), e_M_setOffOf hf hk hd]
  simp only [Option.bind_some]
  rw [bnd_eq (Int.natCast_nonneg _) (nat1024 hS), lt_eq, bnd_eq (Int.natCast_nonneg _) (nat1024 hS), ishl1 (Nat.lt_trans hk (by decide)), andn_nat (lt31 hS), clr_bit hb, bnd_eq (Int.natCast_nonneg _) (nat1024 (Nat.lt_trans (xor_lt hb) hS)), oU_o (by decide), oU_o (by decide), h94, h94', h93, hx, ha, e_M_max]
  simp only [Option.bind_some]
  rw [bnd_eq (Int.natCast_nonneg _) (nat1024 hS), lt_eq, mx_nat]
  unfold p_M_laysGroups_B87_25
  rw [lt_eq, w32s (Nat.le_of_lt (Nat.lt_trans hk (by decide)))]; rfl
theorem grm_row {f S : Nat} {M : oM} {w : Nat → Int} (hf : 2000 < f) (hS : S < 1024) (hd : dOk (M 58)) (hwd : ∀ p, p < 10 → wOf (M 58) p = w p) (hw : ∀ p, p < 10 → -990 ≤ w p ∧ w p ≤ 990) (h93 : M 93 (S : Int) = 0) (h94s : M 94 (S : Int) = 0) (h94 : ∀ k : Nat, k < S → M 94 k = ((gG w k : Nat) : Int)) : ∃ N, iter (p_M_laysGroups_L25 f S) f (0, M) = some N ∧ N 93 (S : Int) = smB w S 10 ∧ N 94 (S : Int) = ((gP w S 10 : Nat) : Int) ∧ (∀ k : Nat, k < S → N 94 k = ((gG w k : Nat) : Int)) ∧ eqo [(93, (-1)), (94, (-1))] M N := by
  have hr : okp (iter (p_M_laysGroups_L25 f S) f (0, M)) (fun N => N 93 (S : Int) = smB w S 10 ∧ N 94 (S : Int) = ((gP w S 10 : Nat) : Int) ∧ (∀ k : Nat, k < S → N 94 k = ((gG w k : Nat) : Int)) ∧ eqo [(93, (-1)), (94, (-1))] M N) := by
    refine for_ok 10 (fun k s => ∃ N : oM, s = ((k : Int), N) ∧ N 93 (S : Int) = smB w S k ∧ N 94 (S : Int) = ((gP w S k : Nat) : Int) ∧ (∀ k : Nat, k < S → N 94 k = ((gG w k : Nat) : Int)) ∧ eqo [(93, (-1)), (94, (-1))] M N) (fun k s hk hI => ?_) (fun s hI => ?_) f (Nat.lt_trans (by decide) hf) ⟨M, rfl, h93, h94s, h94, eqo_rfl _ _⟩
    · obtain ⟨N, hs, g1, g2, g3, g4⟩ := hI
      have e58 : N 58 = M 58 := eqo_a g4 58 rfl
      rw [hs]
      by_cases hb : S.testBit k = true
      · rw [grm_yes hf hS hk hb (e58 ▸ hd) (e58 ▸ hwd k hk) g1 (sm32 hk (smB_bd hw k (Nat.le_of_lt hk)) (hw k hk)) g2 (g3 _ (xor_lt hb)), ← gP_yes hb, ← smB_yes hb]
        refine ⟨_, rfl, ?_, oU_at, fun j hj => ?_, eqo_oUa (.tail _ (.head _)) (eqo_oUa (.head _) g4)⟩
        · rw [oU_o (by decide), oU_at]
        · rw [oU_i (ne_cast hj), oU_o (by decide)]; exact g3 j hj
      · rw [grm_no hS hk hb]
        refine ⟨N, rfl, ?_, ?_, g3, g4⟩
        · rw [smB_no hb]; exact g1
        · rw [gP_no hb]; exact g2
    · obtain ⟨N, hs, g1, g2, g3, g4⟩ := hI
      rw [hs]
      unfold p_M_laysGroups_L25
      simp only []
      rw [if_neg (show ¬ (((10 : Nat) : Int) < 10) by decide)]
      exact ⟨g1, g2, g3, g4⟩
  obtain ⟨N, eq, h1, h2, h3, h4⟩ := okp_ex hr
  exact ⟨N, eq, h1, h2, h3, h4⟩
