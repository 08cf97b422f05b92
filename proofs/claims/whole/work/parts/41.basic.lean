/-! small methods of the class -/
theorem e_O_isOne {f : Nat} {p : Int} {M : oM} : p_O_isOne f p M = some (if 0 ≤ p ∧ p < 10 then 1 else 0, M) := by
  unfold p_O_isOne
  by_cases h0 : p < 0
  · rw [if_pos h0, if_neg (by omega)]
  · rw [if_neg h0]
    by_cases h1 : p < 10
    · rw [if_pos h1, if_pos (by omega)]
    · rw [if_neg h1, if_neg (by omega)]
theorem e_D_owedBy {f : Nat} {o : Nat} {p : Nat} {M : oM} (hf : 10 < f) (hp : p < 10) (hM : ∀ k : Nat, k < 100 → 0 ≤ M (o + 1) k ∧ M (o + 1) k ≤ 99) : p_D_owedBy f o p M = some (sumN (fun k => M (o + 1) ((10 * p + k : Nat) : Int)) 10, M) := by
  have hb : ∀ i : Nat, i ≤ 10 → 0 ≤ sumN (fun k => M (o + 1) ((10 * p + k : Nat) : Int)) i ∧ sumN (fun k => M (o + 1) ((10 * p + k : Nat) : Int)) i ≤ 99 * i := fun i hi => sumN_bd i (fun k hk => hM (10 * p + k) (by omega))
  unfold p_D_owedBy
  refine iter_up 10 (fun i => (sumN (fun k => M (o + 1) ((10 * p + k : Nat) : Int)) i, (i : Int), M)) _ ?_ ?_ f hf
  · intro i hi
    have h1 := hb i (by omega)
    have h2 := hM (10 * p + i) (by omega)
    have h3 := hb (i + 1) (by omega)
    show p_D_owedBy_L4 f o p (_, _, M) = _
    unfold p_D_owedBy_L4
    simp only []
    rw [if_pos (by omega), w32_nn (a := (p : Int) * 10) (by omega) (by omega), w32_nn (by omega) (by omega), bnd_eq (by omega) (by omega), lt_eq, lt_eq, w32_nn (a := (i : Int) + 1) (by omega) (by omega)]
    rw [show (p : Int) * 10 + i = ((10 * p + i : Nat) : Int) from by omega]
    rw [w32_nn (by omega) (by omega)]
    rfl
  · show p_D_owedBy_L4 f o p (_, _, M) = _
    unfold p_D_owedBy_L4
    simp only []
    rw [if_neg (by omega)]
