/-! the reference's coins, all -/
theorem coinm_cell {f a b : Nat} {M : oM} (hf : 2000 < f) (ha : a < 10) (hb : b < 10) (hd : dOk (M 58)) (ht : cs (M 58) (10 * a + b + 1) ≤ 12) (hA : M 57 50 = ((cs (M 58) (10 * a + b) : Nat) : Int)) (h : lsM (M 58) M (10 * a + b) 0) : ∃ N, iter (p_M_laysCoins_L34 f a b) f (0, M) = some N ∧ N 57 50 = ((cs (M 58) (10 * a + b + 1) : Nat) : Int) ∧ lsM (M 58) N (10 * a + b + 1) 0 ∧ eqo [(84, (-1)), (85, (-1)), (57, 50)] M N := by
  have hbd := hd ((10 * a + b : Nat) : Int) (Int.natCast_nonneg _) (by clear ht hA h; omega)
  have ex : M 58 (10 * (a : Int) + (b : Int)) = (((M 58 ((10 * a + b : Nat) : Int)).toNat : Nat) : Int) := by
    rw [Int.toNat_of_nonneg hbd.1]
    rfl
  have ec : cs (M 58) (10 * a + b + 1) = cs (M 58) (10 * a + b) + (M 58 ((10 * a + b : Nat) : Int)).toNat := rfl
  have ea : (10 * a + b) / 10 = a := by clear ht hA h ex ec; omega
  have eb : (10 * a + b) % 10 = b := by clear ht hA h ex ec; omega
  obtain ⟨N, e, h1, h2, h3⟩ := coinm_row (f := f) (fun N u => lsM (M 58) N (10 * a + b) u) (fun N u hN => by
    have hp := lsM_put (v := ((cs (M 58) (10 * a + b) + u + 1 : Nat) : Int)) hN
    rw [ea, eb] at hp
    exact hp) hf ha hb ex (ec ▸ ht) hA h
  exact ⟨N, e, by rw [ec]; exact h1, lsM_next h2, h3⟩
