/-! the class's fewest -/
theorem gG0 (w : Nat → Int) : gG w 0 = 0 := Nat.le_zero.mp (gG_le 0)
theorem gP_lt {w : Nat → Int} {S : Nat} (hS : S < 1024) : gP w S 10 < 1024 := by
  by_cases h0 : S = 0
  · refine Nat.lt_of_le_of_lt (mxN_le (b := 0) 10 fun p _ => ?_) (by decide)
    rw [h0, Nat.zero_testBit]
    exact Nat.le_refl _
  · have h1 := gG_row (w := w) h0
    have h2 := gG_le (w := w) S
    exact Nat.lt_of_le_of_lt (Nat.le_trans (h1 ▸ Nat.le_add_right _ _) h2) hS
theorem w32nat {a : Nat} (h : a < 2000) : w32 ((a : Int) + 1) = ((a + 1 : Nat) : Int) := by
  rw [w32_of (by omega) (by omega)]; rfl
theorem tbl_put {f S : Nat} {v : Int} {M : oM} (hS : S < 1024) : p_B_fewestPayings_B93_7 f S S v M = some (.inl (((S + 1 : Nat) : Int), oU M 56 S v)) := by
  unfold p_B_fewestPayings_B93_7
  rw [bnd_eq (Int.natCast_nonneg _) (nat1024 hS), lt_eq, lt_eq, w32nat (Nat.lt_trans hS (by decide))]
theorem tbl_step {f S : Nat} {M : oM} {w : Nat → Int} (hf : 2000 < f) (h0 : S ≠ 0) (hS : S < 1024) (hw : ∀ p, p < 10 → -990 ≤ w p ∧ w p ≤ 990) (h50 : ∀ p : Nat, p < 10 → M 50 p = w p) (h56 : ∀ k : Nat, k < S → M 56 k = gG w k) : p_B_fewestPayings_L7 f (S, M) = some (.inl (((S + 1 : Nat) : Int), oU M 56 S (gG w S : Int))) := by
  unfold p_B_fewestPayings_L7
  simp only []
  rw [if_pos (nat1024 hS), grp_row hf hS hw h50 h56]
  simp only [Option.bind_some]
  unfold p_B_fewestPayings_X22
  simp only []
  rw [gG_row h0]
  by_cases q : smB w S 10 = 0
  · rw [if_pos q, if_pos q, tbl_put hS, w32nat (Nat.lt_trans (gP_lt hS) (by decide))]
  · rw [if_neg q, if_neg q, tbl_put hS, Nat.add_zero (gP w S 10)]
theorem e_fewestPayings {f : Nat} {M : oM} (hf : 2000 < f) (h : dOk (M 7)) (h0 : M 56 0 = 0) : ∃ N, p_B_fewestPayings f M = some ((10 : Int) - (gG (wOf (M 7)) 1023 : Int), N) ∧ N 56 0 = 0 ∧ eqo [(50, (-1)), (56, (-1))] M N := by
  obtain ⟨N0, e0, hN0, q0⟩ := e_weigh hf h
  have hw : ∀ p, p < 10 → -990 ≤ wOf (M 7) p ∧ wOf (M 7) p ≤ 990 := fun p hp => wOf_bd h hp
  generalize wOf (M 7) = w at *
  have q1 : eqo [(50, (-1)), (56, (-1))] M N0 := fun o i z => q0 o i (by
    simp only [outw, List.all_cons, List.all_nil, Bool.and_true, Bool.and_eq_true] at z ⊢
    exact z.1)
  have h56 : N0 56 0 = 0 := by rw [eqo_a q0 56 rfl]; exact h0
  have hr : okp (p_B_fewestPayings f M) (fun q => q.1 = (10 : Int) - (gG w 1023 : Int) ∧ q.2 56 0 = 0 ∧ eqo [(50, (-1)), (56, (-1))] M q.2) := by
    unfold p_B_fewestPayings
    rw [e0]
    simp only [Option.bind_some]
    refine for_ok 1023 (fun k s => ∃ N : oM, s = (((k + 1 : Nat) : Int), N) ∧ (∀ p : Nat, p < 10 → N 50 p = w p) ∧ (∀ j : Nat, j < k + 1 → N 56 j = ((gG w j : Nat) : Int)) ∧ eqo [(50, (-1)), (56, (-1))] M N) (fun k s hk hI => ?_) (fun s hI => ?_) f (Nat.lt_trans (by decide) hf) ⟨N0, rfl, hN0, fun j hj => ?_, q1⟩
    · obtain ⟨N, hs, h1, h2, h3⟩ := hI
      rw [hs, tbl_step hf (Nat.succ_ne_zero k) (Nat.succ_lt_succ hk) hw h1 h2]
      refine ⟨_, rfl, fun p hp => ?_, fun j hj => ?_, eqo_oUa (.tail _ (.head _)) h3⟩
      · rw [oU_o (by decide)]; exact h1 p hp
      · rcases Nat.lt_or_ge j (k + 1) with y | y
        · rw [oU_i (ne_cast y)]; exact h2 j y
        · rw [Nat.le_antisymm (Nat.le_of_lt_succ hj) y, oU_at]
    · obtain ⟨N, hs, h1, h2, h3⟩ := hI
      have hb : (gG w 1023 : Int) ≤ 1023 := Int.ofNat_le.mpr (gG_le 1023)
      have e1 : N 56 (1023 : Int) = (gG w 1023 : Int) := h2 1023 (by decide)
      have e2 : N 56 (0 : Int) = (gG w 0 : Int) := h2 0 (by decide)
      rw [gG0] at e2
      rw [hs]
      unfold p_B_fewestPayings_L7
      simp only []
      rw [if_neg (show ¬ (((1023 + 1 : Nat) : Int) < 1024) by decide), bnd_eq (by decide) (by decide), e1]
      generalize gG w 1023 = a at *
      refine ⟨w32_of (by clear h1 h2 h3; omega) (by clear h1 h2 h3; omega), e2, h3⟩
    · rw [Nat.lt_one_iff.mp hj, gG0]; exact h56
  obtain ⟨q, eq, h1, h2, h3⟩ := okp_ex hr
  obtain ⟨r, N⟩ := q
  simp only at h1 h2 h3
  subst h1
  exact ⟨N, eq, h2, h3⟩
