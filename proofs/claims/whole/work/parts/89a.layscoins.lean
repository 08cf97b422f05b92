/-! laysCoins, whole -/
theorem cs_sum {d : Int → Int} (h : dOk d) : ∀ n : Nat, n ≤ 100 → ((cs d n : Nat) : Int) = sumN (fun i => d (i : Int)) n := by
  intro n
  induction n with
  | zero => intro _; rfl
  | succ n ih =>
    intro hn
    have hb := h n (Int.natCast_nonneg _) (by clear ih; omega)
    show ((cs d n + (d n).toNat : Nat) : Int) = sumN (fun i => d (i : Int)) n + d (n : Int)
    rw [← ih (Nat.le_of_succ_le hn), Int.natCast_add, Int.toNat_of_nonneg hb.1]
theorem cs_all {d : Int → Int} (h : dOk d) : ((cs d 100 : Nat) : Int) = allS d := by
  rw [cs_sum h 100 (Nat.le_refl _)]
  exact sumN_rows 10
theorem e_M_laysCoins_no {f : Nat} {m : Int} {M : oM} (hf : 2000 < f) (hd : dOk (M 58)) (ht : m < allS (M 58)) : p_M_laysCoins f m M = some (0, oU M 57 50 0) := by
  unfold p_M_laysCoins
  rw [lt_eq, e_M_owedInAll (M := oU M 57 50 0) (Nat.lt_trans (by decide) hf) hd]
  simp only [Option.bind_some]
  rw [if_pos (show m < allS ((oU M 57 50 0) 58) from ht)]
theorem e_M_laysCoins {f : Nat} {m : Int} {M : oM} (hf : 2000 < f) (hd : dOk (M 58)) (ht : ¬ m < allS (M 58)) (hm : m ≤ 12) : ∃ N, p_M_laysCoins f m M = some (1, N) ∧ N 57 50 = ((cs (M 58) 100 : Nat) : Int) ∧ lsM (M 58) N 100 0 ∧ eqo [(84, (-1)), (85, (-1)), (57, 50)] M N := by
  have e58 : (oU M 57 50 0) 58 = M 58 := rfl
  have hc : cs (M 58) 100 ≤ 12 := by
    have := cs_all hd
    generalize cs (M 58) 100 = c at *
    generalize allS (M 58) = t at *
    omega
  obtain ⟨N, e1, g1, g2, g3⟩ := coinm_all (f := f) (M := oU M 57 50 0) hf hd hc oU_at
  refine ⟨N, ?_, g1, g2, eqo_tt (eqo_oU (.tail _ (.tail _ (.head _))) (eqo_rfl _ _)) g3⟩
  unfold p_M_laysCoins
  rw [lt_eq, e_M_owedInAll (M := oU M 57 50 0) (Nat.lt_trans (by decide) hf) hd]
  simp only [Option.bind_some]
  rw [if_neg (show ¬ m < allS ((oU M 57 50 0) 58) from ht), e1]
