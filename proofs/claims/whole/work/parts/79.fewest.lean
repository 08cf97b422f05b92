/-! the fewest payings -/
def wOf (d : Int → Int) (p : Nat) : Int := getS d (p : Int) - oweS d (p : Int)
theorem ne_cast {p k : Nat} (h : p < k) : (p : Int) ≠ (k : Int) := by omega
theorem wOf_bd {d : Int → Int} {p : Nat} (h : dOk d) (hp : p < 10) : -990 ≤ wOf d p ∧ wOf d p ≤ 990 := by
  have h1 := getS_bd h (nat9 hp)
  have h2 := oweS_bd h (nat9 hp)
  unfold wOf
  generalize getS d (p : Int) = a at *
  generalize oweS d (p : Int) = b at *
  omega
theorem wOf_congr {d d' : Int → Int} {p : Nat} (hp : p < 10) (h : ∀ i : Int, 0 ≤ i → i < 100 → d i = d' i) : wOf d p = wOf d' p := by
  unfold wOf
  rw [getS_congr (nat9 hp) h, oweS_congr (nat9 hp) h]
theorem w32sub {a b : Int} (ha : 0 ≤ a ∧ a ≤ 990) (hb : 0 ≤ b ∧ b ≤ 990) : w32 (a - b) = a - b := w32_of (by omega) (by omega)
theorem weigh_step {f : Nat} {p x y : Int} {M : oM} (h0 : 0 ≤ p) (hp : p < 10) (e1 : p_D_owedTo f p M = some (x, M)) (e2 : p_D_owedBy f 6 p M = some (y, M)) (hw : w32 (x - y) = x - y) (wp : w32 (p + 1) = p + 1) : p_B_weigh_L2 f (p, M) = some (.inl (p + 1, oU M 50 p (x - y))) := by
  unfold p_B_weigh_L2
  simp only []
  rw [if_pos hp, e1]
  simp only [Option.bind_some]
  rw [e2]
  simp only [Option.bind_some]
  rw [bnd_eq h0 hp, lt_eq, lt_eq, hw, wp]
theorem e_weigh {f : Nat} {M : oM} (hf : 2000 < f) (h : dOk (M 7)) : ∃ N, p_B_weigh f M = some (0, N) ∧ (∀ p : Nat, p < 10 → N 50 p = wOf (M 7) p) ∧ eqo [(50, (-1))] M N := by
  have hr : okp (p_B_weigh f M) (fun q => q.1 = 0 ∧ (∀ p : Nat, p < 10 → q.2 50 p = wOf (M 7) p) ∧ eqo [(50, (-1))] M q.2) := by
    unfold p_B_weigh
    refine for_ok 10 (fun k s => ∃ N, s = ((k : Int), N) ∧ (∀ p : Nat, p < k → N 50 p = wOf (M 7) p) ∧ eqo [(50, (-1))] M N) (fun k s hk hI => ?_) (fun s hI => ?_) f (Nat.lt_trans (by decide) hf) ⟨M, rfl, fun p hp => absurd hp (Nat.not_lt_zero _), eqo_rfl _ _⟩
    · obtain ⟨N, hs, h1, h2⟩ := hI
      have e7 : N 7 = M 7 := eqo_a h2 7 rfl
      have hN : dOk (N 7) := by rw [e7]; exact h
      have hN' : dOk (N (6 + 1)) := hN
      have e1 := e_D_owedTo (f := f) (M := N) (Nat.lt_trans (by decide) hf) (nat9 hk) hN
      have e2 := e_D_owedBy' (f := f) (o := 6) (M := N) (Nat.lt_trans (by decide) hf) (nat9 hk) hN'
      rw [hs, weigh_step (nat9 hk).1 (nat9 hk).2 e1 e2 (w32sub (getS_bd hN (nat9 hk)) (oweS_bd hN' (nat9 hk))) (w32s (Nat.le_of_lt (Nat.lt_trans hk (by decide))))]
      refine ⟨_, rfl, fun p hp => ?_, eqo_oUa (.head _) h2⟩
      rcases Nat.lt_or_ge p k with w | w
      · rw [oU_i (ne_cast w)]
        exact h1 p w
      · rw [Nat.le_antisymm (Nat.le_of_lt_succ hp) w, oU_at]
        show getS (N 7) (k : Int) - oweS (N 7) (k : Int) = wOf (M 7) k
        rw [e7]; rfl
    · obtain ⟨N, hs, h1, h2⟩ := hI
      rw [hs]
      unfold p_B_weigh_L2
      simp only []
      rw [if_neg (show ¬ (((10 : Nat) : Int) < 10) by decide)]
      exact ⟨rfl, h1, h2⟩
  obtain ⟨q, eq, h1, h2, h3⟩ := okp_ex hr
  obtain ⟨r, N⟩ := q
  simp only at h1 h2 h3
  subst h1
  exact ⟨N, eq, h2, h3⟩
theorem smB_bd {w : Nat → Int} {S : Nat} (hw : ∀ p, p < 10 → -990 ≤ w p ∧ w p ≤ 990) : ∀ n : Nat, n ≤ 10 → -990 * (n : Int) ≤ smB w S n ∧ smB w S n ≤ 990 * (n : Int) := by
  intro n
  induction n with
  | zero => intro _; show (-990) * ((0 : Nat) : Int) ≤ (0 : Int) ∧ (0 : Int) ≤ 990 * ((0 : Nat) : Int); exact ⟨by decide, by decide⟩
  | succ n ih =>
    intro hn
    have h1 := ih (Nat.le_of_succ_le hn)
    have h2 := hw n hn
    have e : smB w S (n + 1) = smB w S n + (if S.testBit n then w n else 0) := rfl
    rw [e]
    generalize smB w S n = a at *
    clear ih e
    split <;> omega
theorem gG_le {w : Nat → Int} : ∀ S, gG w S ≤ S := by
  intro S
  induction S using Nat.strongRecOn with
  | ind S ih =>
    by_cases h0 : S = 0
    · subst h0
      exact Nat.le_of_eq rfl
    · rw [gG_eq]
      unfold gV
      have h1 : mxN (fun p => if S.testBit p then gG w (S ^^^ 2 ^ p) else 0) 10 ≤ S - 1 := mxN_le 10 fun p _ => by
        by_cases q : S.testBit p = true
        · rw [if_pos q]
          have h2 := ih _ (xor_lt q)
          have h3 := xor_lt q
          generalize gG w (S ^^^ 2 ^ p) = a at *
          generalize S ^^^ 2 ^ p = b at *
          clear ih
          omega
        · rw [if_neg q]; exact Nat.zero_le _
      generalize mxN (fun p => if S.testBit p then gG w (S ^^^ 2 ^ p) else 0) 10 = a at *
      clear ih
      split <;> omega
theorem clr_bit {S p : Nat} (h : S.testBit p = true) : S ^^^ (S &&& 2 ^ p) = S ^^^ 2 ^ p := by
  refine Nat.eq_of_testBit_eq fun i => ?_
  rw [Nat.testBit_xor, Nat.testBit_xor, Nat.testBit_and, Nat.testBit_two_pow]
  by_cases q : p = i
  · subst q; rw [h]; simp
  · simp [q]
