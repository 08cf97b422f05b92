/-! groups that come out even: whoever is even already is a group of one -/
def mxN (f : Nat → Nat) : Nat → Nat
  | 0 => 0
  | n + 1 => max (mxN f n) (f n)
theorem mxN_le {f : Nat → Nat} {b : Nat} (n : Nat) (h : ∀ k, k < n → f k ≤ b) : mxN f n ≤ b := by
  induction n with
  | zero => exact Nat.zero_le _
  | succ n ih => exact Nat.max_le.2 ⟨ih (fun k hk => h k (by omega)), h n (by omega)⟩
theorem le_mxN {f : Nat → Nat} (n k : Nat) (hk : k < n) : f k ≤ mxN f n := by
  induction n with
  | zero => omega
  | succ n ih =>
    by_cases q : k = n
    · subst q; exact Nat.le_max_right _ _
    · exact Nat.le_trans (ih (by omega)) (Nat.le_max_left _ _)
theorem mxN_congr {f g : Nat → Nat} (n : Nat) (h : ∀ k, k < n → f k = g k) : mxN f n = mxN g n := by
  induction n with
  | zero => rfl
  | succ n ih => unfold mxN; rw [ih (fun k hk => h k (by omega)), h n (by omega)]
/-- the sum over a set (bits) -/
def smB (w : Nat → Int) (S : Nat) (n : Nat) : Int := sumN (fun p => if S.testBit p then w p else 0) n
def gV (w : Nat → Int) (t : Nat → Nat) (S : Nat) : Nat := mxN (fun p => if S.testBit p then t (S ^^^ 2 ^ p) else 0) 10 + (if S ≠ 0 ∧ smB w S 10 = 0 then 1 else 0)
/-- the table after the sets below n -/
def gT (w : Nat → Int) : Nat → Nat → Nat
  | 0 => fun _ => 0
  | n + 1 => fun k => if k = n then gV w (gT w n) n else gT w n k
theorem xor_lt {S p : Nat} (h : S.testBit p = true) : S ^^^ 2 ^ p < S := by
  refine Nat.lt_of_le_of_ne (Nat.le_of_testBit fun i hi => ?_) (fun q => ?_)
  · rw [Nat.testBit_xor, Nat.testBit_two_pow] at hi
    by_cases q : p = i
    · subst q; exact h
    · simpa [q] using hi
  · have := congrArg (fun x => Nat.testBit x p) q
    simp [Nat.testBit_xor, h] at this
theorem gT_stay (w : Nat → Int) (k : Nat) : ∀ n, k < n → gT w n k = gT w (k + 1) k := by
  intro n
  induction n with
  | zero => intro h; omega
  | succ n ih =>
    intro h
    by_cases q : k = n
    · subst q; rfl
    · show (if k = n then _ else gT w n k) = _
      rw [if_neg q]; exact ih (by omega)
def gG (w : Nat → Int) (S : Nat) : Nat := gT w (S + 1) S
theorem gT_gG {w : Nat → Int} {n k : Nat} (h : k < n) : gT w n k = gG w k := gT_stay w k n h
theorem gV_congr {w : Nat → Int} {t t' : Nat → Nat} {S : Nat} (h : ∀ k, k < S → t k = t' k) : gV w t S = gV w t' S := by
  have e : mxN (fun p => if S.testBit p then t (S ^^^ 2 ^ p) else 0) 10 = mxN (fun p => if S.testBit p then t' (S ^^^ 2 ^ p) else 0) 10 := by
    refine mxN_congr 10 fun p _ => ?_
    by_cases q : S.testBit p
    · rw [if_pos q, if_pos q, h _ (xor_lt q)]
    · rw [if_neg q, if_neg q]
  unfold gV
  rw [e]
theorem gG_eq (w : Nat → Int) (S : Nat) : gG w S = gV w (gG w) S := by
  have e : gG w S = gV w (gT w S) S := by
    show (if S = S then gV w (gT w S) S else _) = _
    rw [if_pos rfl]
  rw [e]
  exact gV_congr (fun k hk => gT_gG hk)
theorem smB_or {w : Nat → Int} {S z : Nat} (hz : S.testBit z = false) (hw : w z = 0) : smB w (S ||| 2 ^ z) 10 = smB w S 10 := by
  unfold smB
  refine sumN_congr 10 fun p _ => ?_
  by_cases h : p = z
  · subst h
    rw [hz, hw]; simp
  · rw [Nat.testBit_or, Nat.testBit_two_pow_of_ne (fun q => h q.symm), Bool.or_false]
theorem or_xor_ne {S p z : Nat} (h : p ≠ z) : (S ||| 2 ^ z) ^^^ 2 ^ p = (S ^^^ 2 ^ p) ||| 2 ^ z := by
  refine Nat.eq_of_testBit_eq fun i => ?_
  simp only [Nat.testBit_xor, Nat.testBit_or, Nat.testBit_two_pow]
  by_cases h1 : p = i
  · have : ¬ z = i := fun q => h (h1.trans q.symm)
    simp [h1, this]
  · simp [h1]
theorem or_xor_eq {S z : Nat} (h : S.testBit z = false) : (S ||| 2 ^ z) ^^^ 2 ^ z = S := by
  refine Nat.eq_of_testBit_eq fun i => ?_
  simp only [Nat.testBit_xor, Nat.testBit_or, Nat.testBit_two_pow]
  by_cases h1 : z = i
  · subst h1; simp [h]
  · simp [h1]
/-- one who is even already makes one group more -/
theorem gG_zero (w : Nat → Int) (z : Nat) (hz10 : z < 10) (hw : w z = 0) : ∀ S, S < 1024 → S.testBit z = false → gG w (S ||| 2 ^ z) = gG w S + 1 := by
  intro S
  induction S using Nat.strongRecOn with
  | ind S ih =>
  intro hS hz
  have hne : S ||| 2 ^ z ≠ 0 := fun q => by
    have : (S ||| 2 ^ z).testBit z = true := by rw [Nat.testBit_or, Nat.testBit_two_pow_self, Bool.or_true]
    rw [q, Nat.zero_testBit] at this; cases this
  have hb : ∀ p, p ≠ z → (S ||| 2 ^ z).testBit p = S.testBit p := fun p hp => by
    rw [Nat.testBit_or, Nat.testBit_two_pow_of_ne (fun q => hp q.symm), Bool.or_false]
  have hbz : (S ||| 2 ^ z).testBit z = true := by rw [Nat.testBit_or, Nat.testBit_two_pow_self, Bool.or_true]
  by_cases h0 : S = 0
  · subst h0
    rw [gG_eq w (0 ||| 2 ^ z), gG_eq w 0]
    unfold gV
    have hs0 : smB w 0 10 = 0 := by
      unfold smB
      rw [sumN_congr 10 (g' := fun _ => 0) (fun p _ => by rw [Nat.zero_testBit]; rfl)]
      decide
    rw [smB_or hz hw, if_pos ⟨hne, hs0⟩, if_neg (fun q => q.1 rfl)]
    · have e1 : mxN (fun p => if (0 ||| 2 ^ z).testBit p then gG w ((0 ||| 2 ^ z) ^^^ 2 ^ p) else 0) 10 = 0 := by
        refine Nat.le_zero.1 (mxN_le 10 fun p _ => ?_)
        by_cases h : p = z
        · subst h
          rw [if_pos hbz, or_xor_eq hz]
          exact Nat.le_of_eq rfl
        · rw [hb p h, Nat.zero_testBit]; exact Nat.le_refl _
      have e2 : mxN (fun p => if (0 : Nat).testBit p then gG w (0 ^^^ 2 ^ p) else 0) 10 = 0 := by
        refine Nat.le_zero.1 (mxN_le 10 fun p _ => ?_)
        rw [Nat.zero_testBit]; exact Nat.le_refl _
      rw [e1, e2]
  · -- somebody is in S
    have hex : ∃ p, p < 10 ∧ S.testBit p = true := by
      obtain ⟨p, hp⟩ := Nat.exists_testBit_of_ne_zero h0
      refine ⟨p, ?_, hp⟩
      by_cases q : p < 10
      · exact q
      · have h10 : 2 ^ 10 ≤ 2 ^ p := Nat.pow_le_pow_right (by omega) (by omega)
        rw [Nat.testBit_lt_two_pow (Nat.lt_of_lt_of_le hS h10)] at hp; cases hp
    have hrec : ∀ p, S.testBit p = true → gG w ((S ||| 2 ^ z) ^^^ 2 ^ p) = gG w (S ^^^ 2 ^ p) + 1 := by
      intro p hp
      have hpz : p ≠ z := fun q => by rw [q, hz] at hp; cases hp
      rw [or_xor_ne hpz]
      have hl := xor_lt hp
      refine ih _ hl (by omega) ?_
      rw [Nat.testBit_xor, Nat.testBit_two_pow_of_ne hpz, hz]; rfl
    -- the greatest over S
    have hA : ∀ m, m = mxN (fun p => if S.testBit p then gG w (S ^^^ 2 ^ p) else 0) 10 → mxN (fun p => if (S ||| 2 ^ z).testBit p then gG w ((S ||| 2 ^ z) ^^^ 2 ^ p) else 0) 10 = max (gG w S) (m + 1) := by
      intro m hm
      refine Nat.le_antisymm (mxN_le 10 fun p hp => ?_) (Nat.max_le.2 ⟨?_, ?_⟩)
      · by_cases h : p = z
        · subst h
          rw [if_pos hbz, or_xor_eq hz]; exact Nat.le_max_left _ _
        · rw [hb p h]
          by_cases q : S.testBit p = true
          · rw [if_pos q, hrec p q]
            have := le_mxN (f := fun p => if S.testBit p then gG w (S ^^^ 2 ^ p) else 0) 10 p hp
            simp only [q, if_true] at this
            exact Nat.le_trans (by omega) (Nat.le_max_right _ _)
          · rw [if_neg q]; exact Nat.zero_le _
      · have := le_mxN (f := fun p => if (S ||| 2 ^ z).testBit p then gG w ((S ||| 2 ^ z) ^^^ 2 ^ p) else 0) 10 z hz10
        simp only [hbz, if_true, or_xor_eq hz] at this
        exact this
      · -- m is reached somewhere
        have hm' : ∃ p, p < 10 ∧ S.testBit p = true ∧ m ≤ gG w (S ^^^ 2 ^ p) := by
          by_cases m0 : m = 0
          · obtain ⟨p, hp, hp'⟩ := hex
            exact ⟨p, hp, hp', by omega⟩
          · have key : ∀ n, n ≤ 10 → 0 < mxN (fun p => if S.testBit p then gG w (S ^^^ 2 ^ p) else 0) n → ∃ p, p < 10 ∧ S.testBit p = true ∧ mxN (fun p => if S.testBit p then gG w (S ^^^ 2 ^ p) else 0) n ≤ gG w (S ^^^ 2 ^ p) := by
              intro n
              induction n with
              | zero => intro _ h; exact absurd h (by unfold mxN; omega)
              | succ n ihn =>
                intro hn h
                unfold mxN at h ⊢
                by_cases q : mxN (fun p => if S.testBit p then gG w (S ^^^ 2 ^ p) else 0) n ≤ (if S.testBit n then gG w (S ^^^ 2 ^ n) else 0)
                · rw [Nat.max_eq_right q] at h ⊢
                  by_cases q' : S.testBit n = true
                  · rw [if_pos q']; exact ⟨n, by omega, q', Nat.le_refl _⟩
                  · rw [if_neg q'] at h; omega
                · rw [Nat.max_eq_left (by omega)] at h ⊢
                  exact ihn (by omega) h
            rw [hm]
            exact key 10 (Nat.le_refl _) (by omega)
        obtain ⟨p, hp, hp1, hp2⟩ := hm'
        have hpz : p ≠ z := fun q => by rw [q, hz] at hp1; cases hp1
        have := le_mxN (f := fun p => if (S ||| 2 ^ z).testBit p then gG w ((S ||| 2 ^ z) ^^^ 2 ^ p) else 0) 10 p hp
        simp only [hb p hpz, hp1, if_true, hrec p hp1] at this
        omega
    have e1 := gG_eq w (S ||| 2 ^ z)
    have e2 := gG_eq w S
    unfold gV at e1 e2
    rw [hA _ rfl, smB_or hz hw] at e1
    have c1 : (S ||| 2 ^ z ≠ 0 ∧ smB w S 10 = 0) ↔ (S ≠ 0 ∧ smB w S 10 = 0) := ⟨fun q => ⟨h0, q.2⟩, fun q => ⟨hne, q.2⟩⟩
    by_cases q : S ≠ 0 ∧ smB w S 10 = 0
    · rw [if_pos (c1.2 q)] at e1
      rw [if_pos q] at e2
      rw [Nat.max_eq_right (by omega)] at e1
      omega
    · rw [if_neg (fun z => q (c1.1 z))] at e1
      rw [if_neg q] at e2
      rw [Nat.max_eq_right (by omega)] at e1
      omega
/-- those who are not even -/
def nzs (w : Nat → Int) : Nat → Nat
  | 0 => 0
  | n + 1 => if w n = 0 then nzs w n else nzs w n ||| 2 ^ n
theorem nzs_bit (w : Nat → Int) (n i : Nat) : (nzs w n).testBit i = (decide (i < n) && !decide (w i = 0)) := by
  induction n with
  | zero => unfold nzs; simp
  | succ n ih =>
    unfold nzs
    by_cases h : w n = 0
    · rw [if_pos h, ih]
      by_cases q : i = n
      · subst q; simp [h]
      · have : (i < n + 1) ↔ i < n := by omega
        simp [this]
    · rw [if_neg h, Nat.testBit_or, ih, Nat.testBit_two_pow]
      by_cases q : n = i
      · subst q; simp [h]
      · have : (i < n + 1) ↔ i < n := by omega
        simp [this, q]
theorem lt_1024 {S : Nat} (h : ∀ i, 10 ≤ i → S.testBit i = false) : S < 1024 := Nat.lt_pow_two_of_testBit (n := 10) S (fun i hi => h i hi)
def flz (w : Nat → Int) : Nat → Nat
  | 0 => nzs w 10
  | n + 1 => if w n = 0 then flz w n ||| 2 ^ n else flz w n
def zcn (w : Nat → Int) : Nat → Nat
  | 0 => 0
  | n + 1 => zcn w n + (if w n = 0 then 1 else 0)
theorem flz_bit (w : Nat → Int) (n i : Nat) (hn : n ≤ 10) : (flz w n).testBit i = (decide (i < 10) && (!decide (w i = 0) || decide (i < n))) := by
  induction n with
  | zero => unfold flz; rw [nzs_bit]; simp
  | succ n ih =>
    unfold flz
    by_cases h : w n = 0
    · rw [if_pos h, Nat.testBit_or, ih (by omega), Nat.testBit_two_pow]
      by_cases q : n = i
      · subst q
        have : n < 10 := by omega
        simp [h, this]
      · have : (i < n + 1) ↔ i < n := by omega
        simp [this, q]
    · rw [if_neg h, ih (by omega)]
      by_cases q : i = n
      · subst q; simp [h]
      · have : (i < n + 1) ↔ i < n := by omega
        simp [this]
theorem flz_lt (w : Nat → Int) (n : Nat) (hn : n ≤ 10) : flz w n < 1024 := lt_1024 (fun i hi => by
  rw [flz_bit w n i hn]
  have : ¬ i < 10 := by omega
  simp [this])
theorem flz_gG (w : Nat → Int) (n : Nat) (hn : n ≤ 10) : gG w (flz w n) = gG w (nzs w 10) + zcn w n := by
  induction n with
  | zero => rfl
  | succ n ih =>
    unfold flz zcn
    by_cases h : w n = 0
    · rw [if_pos h, if_pos h, gG_zero w n (by omega) h _ (flz_lt w n (by omega)), ih (by omega)]
      · omega
      · rw [flz_bit w n n (by omega)]; simp [h]
    · rw [if_neg h, if_neg h, ih (by omega)]
      omega
def nzc (w : Nat → Int) : Nat → Nat
  | 0 => 0
  | n + 1 => nzc w n + (if w n = 0 then 0 else 1)
theorem zcn_nzc (w : Nat → Int) (n : Nat) : zcn w n + nzc w n = n := by
  induction n with
  | zero => rfl
  | succ n ih => unfold zcn nzc; split <;> omega
theorem fewest_math (w : Nat → Int) : (10 : Int) - (gG w 1023 : Int) = (nzc w 10 : Int) - (gG w (nzs w 10) : Int) := by
  have h1 := flz_gG w 10 (Nat.le_refl _)
  have h2 : flz w 10 = 1023 := by
    refine Nat.eq_of_testBit_eq fun i => ?_
    rw [flz_bit w 10 i (Nat.le_refl _), show (1023 : Nat) = 2 ^ 10 - 1 from rfl, Nat.testBit_two_pow_sub_one]
    by_cases h : i < 10 <;> simp [h]
  rw [h2] at h1
  have h3 := zcn_nzc w 10
  omega
