/-! two coins: the reference's row of a share; one share on both sides -/
theorem zero82 {f : Nat} {l1 l2 : Int} {M : oM} (hf : 2000 < f) : ∃ N : oM, iter (p_M_isRowOf_L2 f l1 l2) f (0, M) = some N ∧ (∀ i : Int, 0 ≤ i → i < 100 → N 82 i = 0) ∧ eqo [(82, (-1))] M N := by
  have h : okp (iter (p_M_isRowOf_L2 f l1 l2) f (0, M)) (fun N => (∀ i : Int, 0 ≤ i → i < 100 → N 82 i = 0) ∧ eqo [(82, (-1))] M N) := by
    refine for_ok 100 (fun n s => s.1 = (n : Int) ∧ eqo [(82, (-1))] M s.2 ∧ ∀ i : Int, 0 ≤ i → i < (n : Int) → s.2 82 i = 0) ?_ ?_ f (by omega) ⟨rfl, eqo_rfl _ _, fun i i0 i1 => by omega⟩
    · intro n ⟨k, M'⟩ hn hI
      have hI' : k = (n : Int) ∧ eqo [(82, (-1))] M M' ∧ ∀ i : Int, 0 ≤ i → i < (n : Int) → M' 82 i = 0 := hI
      obtain ⟨hk, hI1, hI2⟩ := hI'
      subst hk
      unfold p_M_isRowOf_L2
      simp only []
      rw [if_pos (by omega), bnd_eq (by omega) (by omega), lt_eq, lt_eq, w32_of (by omega) (by omega)]
      refine ⟨by show (n : Int) + 1 = ((n + 1 : Nat) : Int); omega, eqo_oUa (.head _) hI1, fun i i0 i1 => ?_⟩
      show oU M' 82 n 0 82 i = _
      by_cases hi : i = n
      · subst hi; rw [oU_at]
      · rw [oU_i hi]; exact hI2 i i0 (by omega)
    · intro ⟨k, M'⟩ hI
      have hk : k = ((100 : Nat) : Int) := hI.1
      unfold p_M_isRowOf_L2
      simp only []
      rw [if_neg (by omega)]
      exact ⟨hI.2.2, hI.2.1⟩
  obtain ⟨N, eN, h1⟩ := okp_ex h
  exact ⟨N, eN, h1⟩
theorem wx10 {a b : Nat} (ha : a < 10) (hb : b < 10) : w32 (w32 (10 * (a : Int)) + b) = 10 * (a : Int) + b := by
  rw [w32_of (a := 10 * (a : Int)) (by omega) (by omega), w32_of (by omega) (by omega)]
theorem ro_put {f n i S a b : Nat} {p x v : Int} {M : oM} (hi : i < n) (hn : n ≤ 12) (hS : S < 2147483648) (hB : S.testBit i = true) (h50 : M 57 50 = (n : Int)) (h84 : M 84 i = (a : Int)) (h85 : M 85 i = (b : Int)) (ha : a < 10) (hb : b < 10) (hx : 10 * (a : Int) + b = x) (hv : M 82 x = v) (hw : w32 (v + 1) = v + 1) : p_M_isRowOf_L23 f S p ((i : Int), M) = some (.inl (((i + 1 : Nat) : Int), oU M 82 x (v + 1))) := by
  have hi8 : (i : Int) < 12 := nat_lt (Nat.lt_of_lt_of_le hi hn)
  have hq := nat100 ha hb
  have hl := e_M_leftOf (f := f) (M := M) ha hb
  rw [hx, hv] at hl
  have wx : w32 (w32 (10 * (a : Int)) + b) = x := by
    rw [wx10 ha hb, hx]
  rw [hx] at hq
  unfold p_M_isRowOf_L23 p_M_isRowOf_B78_23
  simp only []
  rw [h50, if_pos (nat_lt hi), e_M_has hS (Nat.lt_trans (Nat.lt_of_lt_of_le hi hn) (by decide)), hB]
  simp only [Option.bind_some]
  rw [b01_t, if_neg (by decide), bnd_eq (Int.natCast_nonneg _) hi8, bnd_eq (Int.natCast_nonneg _) hi8, bnd_eq (Int.natCast_nonneg _) hi8, bnd_eq (Int.natCast_nonneg _) hi8, h84, h85, hl, Option.bind_some, wx, bnd_eq hq.1 hq.2, lt_eq, lt_eq, hw, w32nat (Nat.lt_trans (Nat.lt_of_lt_of_le hi hn) (by decide))]
theorem ro_skip {f n i S : Nat} {p : Int} {M : oM} (hi : i < n) (hn : n ≤ 12) (hS : S < 2147483648) (hB : S.testBit i = false) (h50 : M 57 50 = (n : Int)) : p_M_isRowOf_L23 f S p ((i : Int), M) = some (.inl (((i + 1 : Nat) : Int), M)) := by
  unfold p_M_isRowOf_L23 p_M_isRowOf_B78_23
  simp only []
  rw [h50, if_pos (nat_lt hi), e_M_has hS (Nat.lt_trans (Nat.lt_of_lt_of_le hi hn) (by decide)), hB]
  simp only [Option.bind_some]
  rw [b01_f, if_pos rfl, lt_eq, w32nat (Nat.lt_trans (Nat.lt_of_lt_of_le hi hn) (by decide))]
theorem e_isRowOf {f n p S : Nat} {M : oM} {cf ct : Nat → Nat} (hf : 2000 < f) (hn : n ≤ 12) (hp : p < 10) (hS : S < 2147483648) (hC : isM M n cf ct) : ∃ r : Int, ∃ N : oM, p_M_isRowOf f S p M = some (r, N) ∧ ((r = 1 ∧ okRow (cng S.testBit cf ct n) p) ∨ (r = 0 ∧ ¬ okRow (cng S.testBit cf ct n) p)) ∧ eqo [(82, (-1))] M N := by
  obtain ⟨N0, e0, h0, f0⟩ := zero82 (f := f) (l1 := (S : Int)) (l2 := (p : Int)) (M := M) hf
  have hg0 : gOf (N0 82) (cng S.testBit cf ct 0) := fun a b ha hb => h0 _ (nat100 ha hb).1 (nat100 ha hb).2
  have hr : okp (p_M_isRowOf f S p M) (fun q => ((q.1 = 1 ∧ okRow (cng S.testBit cf ct n) p) ∨ (q.1 = 0 ∧ ¬ okRow (cng S.testBit cf ct n) p)) ∧ eqo [(82, (-1))] M q.2) := by
    unfold p_M_isRowOf
    rw [e0]
    show okp (iter (p_M_isRowOf_L23 f S p) f (0, N0)) _
    refine for_ok n (fun (k : Nat) (s : Int × oM) => s.1 = (k : Int) ∧ gOf (s.2 82) (cng S.testBit cf ct k) ∧ eqo [(82, (-1))] M s.2) ?_ ?_ f (Nat.lt_of_le_of_lt hn (Nat.lt_trans (by decide) hf)) ⟨rfl, hg0, f0⟩
    · intro k s hk hI
      have e : s = ((k : Int), s.2) := Prod.ext hI.1 rfl
      have hc := hC.2 k hk
      have e50 : s.2 57 50 = (n : Int) := (eqo_f hI.2.2 57 50 rfl).trans hC.1
      have e84 : s.2 84 (k : Int) = (cf k : Int) := (congrFun (eqo_a hI.2.2 84 rfl) _).trans hc.2.2.1
      have e85 : s.2 85 (k : Int) = (ct k : Int) := (congrFun (eqo_a hI.2.2 85 rfl) _).trans hc.2.2.2
      cases hb : S.testBit k
      · have e3 := ro_skip (f := f) (p := (p : Int)) (M := s.2) hk hn hS hb e50
        rw [← e] at e3
        rw [e3]
        exact ⟨rfl, by rw [cng_skip hb]; exact hI.2.1, hI.2.2⟩
      · have ev : s.2 82 (10 * (cf k : Int) + ct k) = ((cng S.testBit cf ct k (cf k) (ct k) : Nat) : Int) := hI.2.1 _ _ hc.1 hc.2.1
        have e3 := ro_put (f := f) (p := (p : Int)) (M := s.2) hk hn hS hb e50 e84 e85 hc.1 hc.2.1 rfl rfl (by rw [ev]; exact small32 (cng_le k) (Nat.le_trans (Nat.le_of_lt hk) (Nat.le_trans hn (by decide))))
        rw [← e] at e3
        rw [e3]
        exact ⟨rfl, gOf_put hI.2.1 hb hc.1 hc.2.1 rfl rfl, eqo_oUa (.head _) hI.2.2⟩
    · intro s hI
      have e : s = ((n : Int), s.2) := Prod.ext hI.1 rfl
      have e50 : s.2 57 50 = (n : Int) := (eqo_f hI.2.2 57 50 rfl).trans hC.1
      obtain ⟨r, er, hr⟩ := e_isRow (f := f) (M := s.2) hf hp hI.2.1 (fun a b _ _ => Nat.le_trans (cng_le n) (Nat.le_trans hn (by decide)))
      have e3 : p_M_isRowOf_L23 f S p ((n : Int), s.2) = some (.inr (r, s.2)) := by
        unfold p_M_isRowOf_L23
        simp only []
        rw [e50, if_neg (Int.lt_irrefl _), er]
        simp only [Option.bind_some]
        rw [bnd_eq]
        · rcases hr with h | h
          · rw [h.1]; decide
          · rw [h.1]; decide
        · rcases hr with h | h
          · rw [h.1]; decide
          · rw [h.1]; decide
      rw [← e] at e3
      rw [e3]
      exact ⟨hr, hI.2.2⟩
  obtain ⟨q, eq, h1, h2⟩ := okp_ex hr
  exact ⟨q.1, q.2, eq, h1, h2⟩
theorem all_bit {n S k : Nat} : ((2 ^ n - 1) ^^^ ((2 ^ n - 1) &&& S)).testBit k = (decide (k < n) && !S.testBit k) := by
  rw [andn_bit, Nat.testBit_two_pow_sub_one]
theorem all_lt {n S : Nat} (hn : n ≤ 12) : (2 ^ n - 1) ^^^ ((2 ^ n - 1) &&& S) < 2147483648 := by
  have h1 : 2 ^ n ≤ 2 ^ 12 := Nat.pow_le_pow_right (by decide) hn
  have h2 : 2 ^ n - 1 < 2 ^ 12 := Nat.lt_of_lt_of_le (Nat.sub_lt (Nat.two_pow_pos n) (by decide)) h1
  have h3 := Nat.xor_lt_two_pow (n := 12) h2 (Nat.lt_of_le_of_lt (Nat.and_le_left (m := S)) h2)
  exact Nat.lt_trans h3 (by decide)
theorem sumN_hr {X Y X' Y' : Int → Int} {B B' : Nat → Bool} {cf ct : Nat → Nat} {n : Nat} (hXY : ∀ i : Int, 0 ≤ i → i < 10 → X i = X' i ∧ Y i = Y' i) (hB : ∀ k, k < n → B k = B' k) (hc : ∀ k, k < n → cf k < 10 ∧ ct k < 10) : sumN (hrS X Y B cf ct) n = sumN (hrS X' Y' B' cf ct) n := by
  refine sumN_congr n fun k hk => ?_
  unfold hrS
  rw [hB k hk, wayS_congr (nat9 (hc k hk).1) (nat9 (hc k hk).2) hXY]
theorem imax_mx {a b : Int} : imax a b = if b < a then a else b := by
  unfold imax
  by_cases h : a < b
  · rw [if_pos h, if_neg (Int.not_lt.mpr (Int.le_of_lt h))]
  · rw [if_neg h]
    by_cases h' : b < a
    · rw [if_pos h']
    · rw [if_neg h', Int.le_antisymm (Int.not_lt.mp h') (Int.not_lt.mp h)]
