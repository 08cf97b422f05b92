/-! the reference's coins one by one -/
def lsM (d : Int → Int) (M : oM) (n u : Nat) : Prop := (∀ i j : Nat, i < n → cs d i ≤ j → j < cs d (i + 1) → M 84 j = ((i / 10 : Nat) : Int) ∧ M 85 j = ((i % 10 : Nat) : Int)) ∧ ∀ j : Nat, cs d n ≤ j → j < cs d n + u → M 84 j = ((n / 10 : Nat) : Int) ∧ M 85 j = ((n % 10 : Nat) : Int)
theorem lsM_next {d : Int → Int} {M : oM} {n : Nat} (h : lsM d M n (d n).toNat) : lsM d M (n + 1) 0 := by
  refine ⟨fun i j hi h1 h2 => ?_, fun j h1 h2 => absurd h2 (Nat.not_lt.mpr h1)⟩
  rcases Nat.lt_or_ge i n with y | y
  · exact h.1 i j y h1 h2
  · have e : i = n := Nat.le_antisymm (Nat.le_of_lt_succ hi) y
    subst e
    exact h.2 j h1 h2
theorem lsM_put {d : Int → Int} {M : oM} {n u : Nat} {v : Int} (h : lsM d M n u) : lsM d (oU (oU (oU M 84 ((cs d n + u : Nat) : Int) ((n / 10 : Nat) : Int)) 85 ((cs d n + u : Nat) : Int) ((n % 10 : Nat) : Int)) 57 50 v) n (u + 1) := by
  refine ⟨fun i j hi h1 h2 => ?_, fun j h1 h2 => ?_⟩
  · have h3 : j < cs d n + u := Nat.lt_of_lt_of_le h2 (Nat.le_trans (cs_le hi) (Nat.le_add_right _ _))
    rw [oU_o (by decide), oU_o (by decide), oU_i (ne_cast h3), oU_o (by decide), oU_i (ne_cast h3), oU_o (by decide)]
    exact h.1 i j hi h1 h2
  · rcases Nat.lt_or_ge j (cs d n + u) with y | y
    · rw [oU_o (by decide), oU_o (by decide), oU_i (ne_cast y), oU_o (by decide), oU_i (ne_cast y), oU_o (by decide)]
      exact h.2 j h1 y
    · have e : j = cs d n + u := Nat.le_antisymm (Nat.le_of_lt_succ h2) y
      rw [e, oU_o (by decide), oU_o (by decide), oU_at, oU_o (by decide), oU_at]
      exact ⟨rfl, rfl⟩
theorem coinm_put {f a b u A : Nat} {x : Int} {M : oM} (ha : a < 10) (hb : b < 10) (hx : M 58 (10 * (a : Int) + (b : Int)) = x) (hu : (u : Int) < x) (hA : M 57 50 = (A : Int)) (hA' : A < 12) (hu' : u < 100) : p_M_laysCoins_L34 f a b ((u : Int), M) = some (.inl (((u + 1 : Nat) : Int), oU (oU (oU M 84 (A : Int) (a : Int)) 85 (A : Int) (b : Int)) 57 50 ((A + 1 : Nat) : Int))) := by
  unfold p_M_laysCoins_L34
  simp only []
  rw [e_M_debtOf (nat9 ha) (nat9 hb)]
  simp only [Option.bind_some]
  rw [hx, if_pos hu, hA, bnd_eq (Int.natCast_nonneg _) (show (A : Int) < 12 by clear hx hu hA; omega), lt_eq, oU_o (by decide), hA, bnd_eq (Int.natCast_nonneg _) (show (A : Int) < 12 by clear hx hu hA; omega), lt_eq, oU_o (by decide), oU_o (by decide), hA, lt_eq, lt_eq, w32nat (Nat.lt_trans hA' (by decide)), w32nat (Nat.lt_trans hu' (by decide))]
theorem coinm_end {f a b u : Nat} {x : Int} {M : oM} (ha : a < 10) (hb : b < 10) (hx : M 58 (10 * (a : Int) + (b : Int)) = x) (hu : ¬ (u : Int) < x) : p_M_laysCoins_L34 f a b ((u : Int), M) = some (.inr M) := by
  unfold p_M_laysCoins_L34
  simp only []
  rw [e_M_debtOf (nat9 ha) (nat9 hb)]
  simp only [Option.bind_some]
  rw [hx, if_neg hu]
