/-! the reference's coins, the loops over the cells -/
theorem coinm_line {f a : Nat} {M : oM} (hf : 2000 < f) (ha : a < 10) (hd : dOk (M 58)) (ht : cs (M 58) 100 ≤ 12) (hA : M 57 50 = ((cs (M 58) (10 * a) : Nat) : Int)) (h : lsM (M 58) M (10 * a) 0) : ∃ N, iter (p_M_laysCoins_L25 f a) f (0, M) = some N ∧ N 57 50 = ((cs (M 58) (10 * a + 10) : Nat) : Int) ∧ lsM (M 58) N (10 * a + 10) 0 ∧ eqo [(84, (-1)), (85, (-1)), (57, 50)] M N := by
  have hr : okp (iter (p_M_laysCoins_L25 f a) f (0, M)) (fun N => N 57 50 = ((cs (M 58) (10 * a + 10) : Nat) : Int) ∧ lsM (M 58) N (10 * a + 10) 0 ∧ eqo [(84, (-1)), (85, (-1)), (57, 50)] M N) := by
    refine for_ok 10 (fun (b : Nat) (s : Int × oM) => s.1 = (b : Int) ∧ s.2 57 50 = ((cs (M 58) (10 * a + b) : Nat) : Int) ∧ lsM (M 58) s.2 (10 * a + b) 0 ∧ eqo [(84, (-1)), (85, (-1)), (57, 50)] M s.2) ?_ ?_ f (Nat.lt_trans (by decide) hf) ⟨rfl, hA, h, eqo_rfl _ _⟩
    · intro b s hb hI
      have e : s = ((b : Int), s.2) := Prod.ext hI.1 rfl
      have e8 : s.2 58 = M 58 := eqo_a hI.2.2.2 58 rfl
      have hle : 10 * a + b + 1 ≤ 100 := by clear hI e e8 hA h ht; omega
      obtain ⟨N, e1, g1, g2, g3⟩ := coinm_cell (f := f) (M := s.2) hf ha hb (e8 ▸ hd) (e8 ▸ Nat.le_trans (cs_le hle) ht) (e8 ▸ hI.2.1) (e8 ▸ hI.2.2.1)
      rw [e8] at g1 g2
      have e3 : p_M_laysCoins_L25 f a ((b : Int), s.2) = some (.inl (((b + 1 : Nat) : Int), N)) := by
        unfold p_M_laysCoins_L25
        simp only []
        rw [if_pos (nat9 hb).2, e1]
        simp only [Option.bind_some]
        unfold p_M_laysCoins_X34
        simp only []
        rw [lt_eq, w32nat (Nat.lt_trans hb (by decide))]
      rw [← e] at e3
      rw [e3]
      exact ⟨rfl, g1, g2, eqo_tt hI.2.2.2 g3⟩
    · intro s hI
      have e : s = (((10 : Nat) : Int), s.2) := Prod.ext hI.1 rfl
      have e3 : p_M_laysCoins_L25 f a (((10 : Nat) : Int), s.2) = some (.inr s.2) := by
        unfold p_M_laysCoins_L25
        simp only []
        rw [if_neg (show ¬ (((10 : Nat) : Int) < 10) by decide)]
      rw [← e] at e3
      rw [e3]
      exact hI.2
  exact okp_ex hr
theorem coinm_all {f : Nat} {M : oM} (hf : 2000 < f) (hd : dOk (M 58)) (ht : cs (M 58) 100 ≤ 12) (hA : M 57 50 = 0) : ∃ N, iter (p_M_laysCoins_L17 f) f (0, M) = some (1, N) ∧ N 57 50 = ((cs (M 58) 100 : Nat) : Int) ∧ lsM (M 58) N 100 0 ∧ eqo [(84, (-1)), (85, (-1)), (57, 50)] M N := by
  have h0 : lsM (M 58) M 0 0 := ⟨fun i j hi => absurd hi (Nat.not_lt_zero _), fun j h1 h2 => absurd h2 (Nat.not_lt.mpr h1)⟩
  have hr : okp (iter (p_M_laysCoins_L17 f) f (0, M)) (fun q => q.1 = 1 ∧ q.2 57 50 = ((cs (M 58) 100 : Nat) : Int) ∧ lsM (M 58) q.2 100 0 ∧ eqo [(84, (-1)), (85, (-1)), (57, 50)] M q.2) := by
    refine for_ok 10 (fun (a : Nat) (s : Int × oM) => s.1 = (a : Int) ∧ s.2 57 50 = ((cs (M 58) (10 * a) : Nat) : Int) ∧ lsM (M 58) s.2 (10 * a) 0 ∧ eqo [(84, (-1)), (85, (-1)), (57, 50)] M s.2) ?_ ?_ f (Nat.lt_trans (by decide) hf) ⟨rfl, hA, h0, eqo_rfl _ _⟩
    · intro a s ha hI
      have e : s = ((a : Int), s.2) := Prod.ext hI.1 rfl
      have e8 : s.2 58 = M 58 := eqo_a hI.2.2.2 58 rfl
      obtain ⟨N, e1, g1, g2, g3⟩ := coinm_line (f := f) (M := s.2) hf ha (e8 ▸ hd) (e8 ▸ ht) (e8 ▸ hI.2.1) (e8 ▸ hI.2.2.1)
      rw [e8] at g1 g2
      have e3 : p_M_laysCoins_L17 f ((a : Int), s.2) = some (.inl (((a + 1 : Nat) : Int), N)) := by
        unfold p_M_laysCoins_L17
        simp only []
        rw [if_pos (nat9 ha).2, e1]
        simp only [Option.bind_some]
        unfold p_M_laysCoins_X25
        rw [lt_eq, w32nat (Nat.lt_trans ha (by decide))]
      rw [← e] at e3
      rw [e3]
      exact ⟨rfl, g1, g2, eqo_tt hI.2.2.2 g3⟩
    · intro s hI
      have e : s = (((10 : Nat) : Int), s.2) := Prod.ext hI.1 rfl
      have e3 : p_M_laysCoins_L17 f (((10 : Nat) : Int), s.2) = some (.inr (1, s.2)) := by
        unfold p_M_laysCoins_L17
        simp only []
        rw [if_neg (show ¬ (((10 : Nat) : Int) < 10) by decide)]
      rw [← e] at e3
      rw [e3]
      exact ⟨rfl, hI.2⟩
  obtain ⟨q, eq, hq⟩ := okp_ex hr
  refine ⟨q.2, ?_, hq.2⟩
  rw [eq, ← hq.1]
