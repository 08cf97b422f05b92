/-! the class's table of groups -/
theorem nat1024 {a : Nat} (h : a < 1024) : (a : Int) < 1024 := by omega
theorem lt31 {S : Nat} (h : S < 1024) : S < 2147483648 := Nat.lt_trans h (by decide)
theorem grp_yes {f S k : Nat} {a b x y : Int} {M : oM} (hS : S < 1024) (hk : k < 10) (hb : S.testBit k = true) (h50 : M 50 (k : Int) = x) (ha : w32 (a + x) = a + x) (h56 : M 56 ((S ^^^ 2 ^ k : Nat) : Int) = y) : p_B_fewestPayings_L22 f S (a, b, k, M) = some (.inl (a + x, imax b y, (k : Int) + 1, M)) := by
  unfold p_B_fewestPayings_L22
  simp only []
  rw [if_pos (nat9 hk).2, bit_ask (lt31 hS) (Nat.lt_trans hk (by decide)), if_pos hb, if_pos rfl, bnd_eq (nat9 hk).1 (nat9 hk).2, ishl1 (Nat.lt_trans hk (by decide)), andn_nat (lt31 hS), clr_bit hb, h50, lt_eq, bnd_eq (Int.natCast_nonneg _) (nat1024 (Nat.lt_trans (xor_lt hb) hS)), lt_eq, ha, h56]
  unfold p_B_fewestPayings_B69_22
  rw [lt_eq, w32s (Nat.le_of_lt (Nat.lt_trans hk (by decide)))]; rfl
theorem grp_no {f S k : Nat} {a b : Int} {M : oM} (hS : S < 1024) (hk : k < 10) (hb : ¬ S.testBit k = true) : p_B_fewestPayings_L22 f S (a, b, k, M) = some (.inl (a, b, (k : Int) + 1, M)) := by
  unfold p_B_fewestPayings_L22
  simp only []
  rw [if_pos (nat9 hk).2, bit_ask (lt31 hS) (Nat.lt_trans hk (by decide)), if_neg hb, if_neg (show ¬ (0 : Int) = 1 by decide)]
  unfold p_B_fewestPayings_B69_22
  rw [lt_eq, w32s (Nat.le_of_lt (Nat.lt_trans hk (by decide)))]; rfl
def gP (w : Nat → Int) (S : Nat) (n : Nat) : Nat := mxN (fun p => if S.testBit p then gG w (S ^^^ 2 ^ p) else 0) n
theorem imax_nat {a b : Nat} : imax (a : Int) (b : Int) = ((max a b : Nat) : Int) := by
  unfold imax
  split <;> omega
theorem gP_yes {w : Nat → Int} {S n : Nat} (h : S.testBit n = true) : gP w S (n + 1) = max (gP w S n) (gG w (S ^^^ 2 ^ n)) := by
  show max (gP w S n) (if S.testBit n then gG w (S ^^^ 2 ^ n) else 0) = _
  rw [if_pos h]
theorem gP_no {w : Nat → Int} {S n : Nat} (h : ¬ S.testBit n = true) : gP w S (n + 1) = gP w S n := by
  show max (gP w S n) (if S.testBit n then gG w (S ^^^ 2 ^ n) else 0) = _
  rw [if_neg h]; exact Nat.max_eq_left (Nat.zero_le _)
theorem smB_yes {w : Nat → Int} {S n : Nat} (h : S.testBit n = true) : smB w S (n + 1) = smB w S n + w n := by
  show smB w S n + (if S.testBit n then w n else 0) = _
  rw [if_pos h]
theorem smB_no {w : Nat → Int} {S n : Nat} (h : ¬ S.testBit n = true) : smB w S (n + 1) = smB w S n := by
  show smB w S n + (if S.testBit n then w n else 0) = _
  rw [if_neg h, Int.add_zero]
theorem sm32 {a x : Int} {n : Nat} (hn : n < 10) (ha : -990 * (n : Int) ≤ a ∧ a ≤ 990 * (n : Int)) (hx : -990 ≤ x ∧ x ≤ 990) : w32 (a + x) = a + x := w32_of (by omega) (by omega)
theorem grp_row {f S : Nat} {M : oM} {w : Nat → Int} (hf : 2000 < f) (hS : S < 1024) (hw : ∀ p, p < 10 → -990 ≤ w p ∧ w p ≤ 990) (h50 : ∀ p : Nat, p < 10 → M 50 p = w p) (h56 : ∀ k : Nat, k < S → M 56 k = gG w k) : iter (p_B_fewestPayings_L22 f S) f (0, 0, 0, M) = some (smB w S 10, ((gP w S 10 : Nat) : Int), M) := by
  have hr : okp (iter (p_B_fewestPayings_L22 f S) f (0, 0, 0, M)) (fun q => q = (smB w S 10, ((gP w S 10 : Nat) : Int), M)) := by
    refine for_ok 10 (fun k s => s = (smB w S k, ((gP w S k : Nat) : Int), (k : Int), M)) (fun k s hk hI => ?_) (fun s hI => ?_) f (Nat.lt_trans (by decide) hf) rfl
    · rw [hI]
      by_cases hb : S.testBit k = true
      · rw [grp_yes hS hk hb (h50 k hk) (sm32 hk (smB_bd hw k (Nat.le_of_lt hk)) (hw k hk)) (h56 _ (xor_lt hb)), imax_nat, ← gP_yes hb, ← smB_yes hb]
        rfl
      · rw [grp_no hS hk hb, ← gP_no (w := w) hb, ← smB_no (w := w) hb]
        rfl
    · rw [hI]
      unfold p_B_fewestPayings_L22
      simp only []
      rw [if_neg (show ¬ (((10 : Nat) : Int) < 10) by decide)]
      rfl
  obtain ⟨q, eq, h1⟩ := okp_ex hr
  rw [eq, h1]
theorem gG_row {w : Nat → Int} {S : Nat} (h : S ≠ 0) : gG w S = gP w S 10 + (if smB w S 10 = 0 then 1 else 0) := by
  rw [gG_eq]
  unfold gV
  show _ + _ = _ + _
  by_cases q : smB w S 10 = 0
  · rw [if_pos ⟨h, q⟩, if_pos q]; rfl
  · rw [if_neg (fun z => q z.2), if_neg q]; rfl
