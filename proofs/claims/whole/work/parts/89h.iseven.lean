/-! debts turned round: the reference's count -/
theorem ev_step {f n S k p a b : Nat} {x : Int} {M : oM} (hk : k < n) (hn : n ≤ 12) (hS : S < 2147483648) (h50 : M 57 50 = (n : Int)) (h84 : M 84 (k : Int) = (a : Int)) (h85 : M 85 (k : Int) = (b : Int)) (hx : -100 ≤ x ∧ x ≤ 100) : p_M_isEven_L13 f S p (x, (k : Int), M) = some (.inl (x + (if S.testBit k then i01 a p - i01 b p else i01 b p - i01 a p), ((k + 1 : Nat) : Int), M)) := by
  have hk12 : (k : Int) < 12 := nat_lt (Nat.lt_of_lt_of_le hk hn)
  have w1 : w32 ((k : Int) + 1) = ((k + 1 : Nat) : Int) := w32nat (Nat.lt_trans (Nat.lt_of_lt_of_le hk hn) (by decide))
  have hne : ∀ {x y : Nat}, x ≠ y → ¬ (x : Int) = (y : Int) := fun h z => h (Int.ofNat.inj z)
  have B54 : ∀ (y s : Int), -200 ≤ y → y ≤ 200 → -1 ≤ s → s ≤ 1 → p_M_isEven_B54_13 f S p y k s M = some (.inl (y - (if a = p then s else 0), ((k + 1 : Nat) : Int), M)) := by
    intro y s y0 y1 s0 s1
    unfold p_M_isEven_B54_13 p_M_isEven_B70_13
    rw [bnd_eq (Int.natCast_nonneg _) hk12, h84]
    by_cases ha : a = p
    · rw [if_pos (by rw [ha]), if_pos ha, lt_eq, lt_eq, w1, w32_of (by clear h50 h84 h85; omega) (by clear h50 h84 h85; omega)]
    · rw [if_neg (hne ha), if_neg ha, lt_eq, w1, Int.sub_zero]
  have B36 : ∀ (s : Int), -1 ≤ s → s ≤ 1 → p_M_isEven_B36_13 f S p x k s M = some (.inl (x + (if b = p then s else 0) - (if a = p then s else 0), ((k + 1 : Nat) : Int), M)) := by
    intro s s0 s1
    unfold p_M_isEven_B36_13
    rw [bnd_eq (Int.natCast_nonneg _) hk12, h85]
    by_cases hb : b = p
    · rw [if_pos (by rw [hb]), if_pos hb, lt_eq, w32_of (by clear h50 h84 h85; omega) (by clear h50 h84 h85; omega), B54 _ _ (by clear h50 h84 h85; omega) (by clear h50 h84 h85; omega) s0 s1]
    · rw [if_neg (hne hb), if_neg hb, B54 _ _ (by clear h50 h84 h85; omega) (by clear h50 h84 h85; omega) s0 s1, Int.add_zero]
  unfold p_M_isEven_L13
  simp only []
  rw [h50, if_pos (nat_lt hk), e_M_has hS (Nat.lt_trans (Nat.lt_of_lt_of_le hk hn) (by decide))]
  simp only [Option.bind_some]
  unfold i01
  cases S.testBit k
  · rw [b01_f, if_pos rfl, B36 1 (by decide) (by decide), if_neg (show ¬ (false = true) by decide), Int.add_sub_assoc]
  · have ev : x + (if b = p then (-1 : Int) else 0) - (if a = p then (-1 : Int) else 0) = x + ((if a = p then 1 else 0) - (if b = p then 1 else 0)) := by
      clear h50 h84 h85 B54 B36
      by_cases h1 : b = p
      · by_cases h2 : a = p
        · rw [if_pos h1, if_pos h2, if_pos h1, if_pos h2]; omega
        · rw [if_pos h1, if_neg h2, if_pos h1, if_neg h2]; omega
      · by_cases h2 : a = p
        · rw [if_neg h1, if_pos h2, if_neg h1, if_pos h2]; omega
        · rw [if_neg h1, if_neg h2, if_neg h1, if_neg h2]; omega
    rw [b01_t, if_neg (by decide), B36 (-1) (by decide) (by decide), if_pos rfl, ev]
theorem evj_bd {B : Nat → Bool} {cf ct : Nat → Nat} {p j : Nat} : -1 ≤ evj B cf ct p j ∧ evj B cf ct p j ≤ 1 := by
  have h1 := i01_bd (cf j) p
  have h2 := i01_bd (ct j) p
  unfold evj
  split <;> omega
theorem evs_bd {B : Nat → Bool} {cf ct : Nat → Nat} {p k : Nat} (hk : k ≤ 12) : -100 ≤ evs B cf ct p k ∧ evs B cf ct p k ≤ 100 := by
  have := sumN_bd2 (g := evj B cf ct p) (b := 1) k (fun j _ => evj_bd)
  unfold evs
  generalize sumN (evj B cf ct p) k = a at *
  omega
theorem e_evs {f n S p : Nat} {M : oM} {cf ct : Nat → Nat} (hf : 2000 < f) (hn : n ≤ 12) (hS : S < 2147483648) (hM : isM M n cf ct) : iter (p_M_isEven_L13 f S p) f (0, 0, M) = some (evs S.testBit cf ct p n, M) := by
  refine iter_up n (fun i => (evs S.testBit cf ct p i, (i : Int), M)) _ ?_ ?_ f (Nat.lt_of_le_of_lt hn (Nat.lt_trans (by decide) hf))
  · intro k hk
    have hb := evs_bd (B := S.testBit) (cf := cf) (ct := ct) (p := p) (Nat.le_trans (Nat.le_of_lt hk) hn)
    show p_M_isEven_L13 f S p (evs S.testBit cf ct p k, (k : Int), M) = _
    rw [ev_step hk hn hS hM.1 (hM.2 k hk).2.2.1 (hM.2 k hk).2.2.2 hb]
    rfl
  · show p_M_isEven_L13 f S p (_, (n : Int), M) = _
    unfold p_M_isEven_L13
    simp only []
    rw [hM.1, if_neg (Int.lt_irrefl _)]
theorem e_isEven {f n S : Nat} {M : oM} {cf ct : Nat → Nat} (hf : 2000 < f) (hn : n ≤ 12) (hS : S < 2147483648) (hM : isM M n cf ct) :
    ∃ r : Int, p_M_isEven f S M = some (r, M) ∧ ((r = 1 ∧ allE S.testBit cf ct n) ∨ (r = 0 ∧ ¬ allE S.testBit cf ct n)) := by
  have hr : okp (p_M_isEven f S M) (fun q => q.2 = M ∧ ((q.1 = 1 ∧ allE S.testBit cf ct n) ∨ (q.1 = 0 ∧ ¬ allE S.testBit cf ct n))) := by
    unfold p_M_isEven
    refine for_ok 10 (fun (k : Nat) (s : Int × oM) => s = ((k : Int), M) ∧ ∀ p : Nat, p < k → evs S.testBit cf ct p n = 0) ?_ ?_ f (Nat.lt_trans (by decide) hf) ⟨rfl, fun p hp => absurd hp (Nat.not_lt_zero _)⟩
    · intro k s hk hI
      obtain ⟨rfl, h2⟩ := hI
      unfold p_M_isEven_L2
      simp only []
      rw [if_pos (nat9 hk).2, e_evs hf hn hS hM]
      simp only [Option.bind_some]
      unfold p_M_isEven_X13
      simp only []
      by_cases q : evs S.testBit cf ct k n = 0
      · rw [if_pos q, lt_eq, w32nat (Nat.lt_trans hk (by decide))]
        refine ⟨rfl, fun p hp => ?_⟩
        rcases Nat.lt_or_ge p k with y | y
        · exact h2 p y
        · rw [Nat.le_antisymm (Nat.le_of_lt_succ hp) y]; exact q
      · rw [if_neg q]
        exact ⟨rfl, .inr ⟨rfl, fun z => q (z k hk)⟩⟩
    · intro s hI
      obtain ⟨rfl, h2⟩ := hI
      unfold p_M_isEven_L2
      simp only []
      rw [if_neg (show ¬ (((10 : Nat) : Int) < 10) by decide)]
      exact ⟨rfl, .inl ⟨rfl, fun p hp => h2 p hp⟩⟩
  obtain ⟨q, eq, h1, h2⟩ := okp_ex hr
  exact ⟨q.1, by rw [eq, ← h1], h2⟩
theorem bits12_step {f S k b : Nat} {M : oM} (hS : S < 4096) (hk : k < 12) (hb : b ≤ k) : p_M_bits_L4 f S ((b : Int), (k : Int), M) = some (.inl (((b + (if S.testBit k then 1 else 0) : Nat) : Int), ((k + 1 : Nat) : Int), M)) := by
  unfold p_M_bits_L4
  simp only []
  rw [if_pos (show (k : Int) < 12 from nat_lt hk), bit_ask (Nat.lt_trans hS (by decide)) (Nat.lt_trans hk (by decide)), lt_eq, lt_eq, w32nat (Nat.lt_trans hk (by decide))]
  cases S.testBit k
  · rw [if_neg (by decide), if_neg (by decide), w32_of (by omega) (by omega), Int.add_zero]
    rfl
  · rw [if_pos rfl, if_pos rfl, w32nat (Nat.lt_of_le_of_lt hb (Nat.lt_trans hk (by decide)))]
theorem e_M_bits12 {f S : Nat} {M : oM} (hf : 2000 < f) (hS : S < 4096) : p_M_bits f S M = some (((bcn S 12 : Nat) : Int), M) := by
  unfold p_M_bits
  refine iter_up 12 (fun i => (((bcn S i : Nat) : Int), (i : Int), M)) _ ?_ ?_ f (Nat.lt_trans (by decide) hf)
  · intro k hk
    show p_M_bits_L4 f S (((bcn S k : Nat) : Int), (k : Int), M) = _
    rw [bits12_step hS hk (bcn_le S k)]
    rfl
  · show p_M_bits_L4 f S (_, ((12 : Nat) : Int), M) = _
    unfold p_M_bits_L4
    simp only []
    rw [if_neg (show ¬ (((12 : Nat) : Int) < 12) by decide)]
