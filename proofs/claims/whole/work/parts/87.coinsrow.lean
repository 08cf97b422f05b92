/-! the reference's coins, a row: v coins of the cell (a, b), from place A on -/
theorem coinm_row {f a b v A : Nat} {M : oM} (P : oM → Nat → Prop) (hput : ∀ (N : oM) (u : Nat), P N u → P (oU (oU (oU N 84 ((A + u : Nat) : Int) (a : Int)) 85 ((A + u : Nat) : Int) (b : Int)) 57 50 ((A + u + 1 : Nat) : Int)) (u + 1)) (hf : 2000 < f) (ha : a < 10) (hb : b < 10) (ex : M 58 (10 * (a : Int) + (b : Int)) = (v : Int)) (ht : A + v ≤ 12) (hA : M 57 50 = (A : Int)) (h : P M 0) : ∃ N, iter (p_M_laysCoins_L34 f a b) f (0, M) = some N ∧ N 57 50 = ((A + v : Nat) : Int) ∧ P N v ∧ eqo [(84, (-1)), (85, (-1)), (57, 50)] M N := by
  have hl : v ≤ 12 := Nat.le_trans (Nat.le_add_left _ _) ht
  have hr : okp (iter (p_M_laysCoins_L34 f a b) f (0, M)) (fun N => N 57 50 = ((A + v : Nat) : Int) ∧ P N v ∧ eqo [(84, (-1)), (85, (-1)), (57, 50)] M N) := by
    have step : ∀ (u : Nat) (N : oM), u < v → N 57 50 = ((A + u : Nat) : Int) → P N u → eqo [(84, (-1)), (85, (-1)), (57, 50)] M N → p_M_laysCoins_L34 f a b ((u : Int), N) = some (.inl (((u + 1 : Nat) : Int), oU (oU (oU N 84 ((A + u : Nat) : Int) (a : Int)) 85 ((A + u : Nat) : Int) (b : Int)) 57 50 ((A + u + 1 : Nat) : Int))) := by
      intro u N hu h0 h1 h2
      have e7 : N 58 (10 * (a : Int) + (b : Int)) = (v : Int) := (congrFun (eqo_a h2 58 rfl) _).trans ex
      exact coinm_put ha hb e7 (Int.ofNat_lt.mpr hu) h0 (Nat.lt_of_lt_of_le (Nat.add_lt_add_left hu _) ht) (Nat.lt_of_lt_of_le hu (Nat.le_trans hl (by decide)))
    refine for_ok v (fun (u : Nat) (s : Int × oM) => s.1 = (u : Int) ∧ s.2 57 50 = ((A + u : Nat) : Int) ∧ P s.2 u ∧ eqo [(84, (-1)), (85, (-1)), (57, 50)] M s.2) ?_ ?_ f (Nat.lt_of_le_of_lt hl (Nat.lt_trans (by decide) hf)) ⟨rfl, hA, h, eqo_rfl _ _⟩
    · intro u s hu hI
      have e : s = ((u : Int), s.2) := Prod.ext hI.1 rfl
      have e3 := step u s.2 hu hI.2.1 hI.2.2.1 hI.2.2.2
      rw [← e] at e3
      rw [e3]
      exact ⟨rfl, oU_at (M := oU (oU s.2 84 ((A + u : Nat) : Int) (a : Int)) 85 ((A + u : Nat) : Int) (b : Int)) (o := 57) (i := 50) (v := ((A + u + 1 : Nat) : Int)), hput _ _ hI.2.2.1, eqo_oU (.tail _ (.tail _ (.head _))) (eqo_oUa (.tail _ (.head _)) (eqo_oUa (.head _) hI.2.2.2))⟩
    · intro s hI
      have e : s = ((v : Int), s.2) := Prod.ext hI.1 rfl
      have e7 : s.2 58 (10 * (a : Int) + (b : Int)) = (v : Int) := (congrFun (eqo_a hI.2.2.2 58 rfl) _).trans ex
      have e3 := coinm_end (f := f) ha hb e7 (Int.lt_irrefl _)
      rw [← e] at e3
      rw [e3]
      exact hI.2
  exact okp_ex hr
