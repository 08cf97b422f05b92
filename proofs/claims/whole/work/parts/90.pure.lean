/-! WHAT IS LEFT: the walked programs as functions agree, on every script -/
theorem pure_law {L : Nat} (hL : L ≤ 3072) (xs : Nat → Int) (hxs : ∀ k, inR (xs k)) : ∃ f : Nat, okp (p_W_law f L xs 0 oM0) (fun q => q.1 = 1) := by
  sorry
