/-! bits of natural numbers -/
theorem ofInt_nI (n : Nat) : Int32.ofInt (n : Int) = nI n := Int32.ofInt_eq_ofNat
theorem nI_toI {n : Nat} (h : n < 2147483648) : (nI n).toInt = (n : Int) := nI_toInt h
theorem oc_sm : ∀ p : Nat, p < 32 → (((nI p).toBitVec.smod 32).toNat = p ∧ nI p &&& 31 = nI p) := by decide +kernel
theorem ishr_nat {t p : Nat} (ht : t < 2147483648) (hp : p < 32) : ishr t p = ((t / 2 ^ p : Nat) : Int) := by
  unfold ishr
  rw [ofInt_nI, ofInt_nI, (oc_sm p hp).2, pk_shrN ht _ p (oc_sm p hp).1, nI_toI (Nat.lt_of_le_of_lt (Nat.div_le_self _ _) ht)]
theorem ishl_nat {t p : Nat} (hp : p < 32) (ht : t * 2 ^ p < 2147483648) : ishl t p = ((t * 2 ^ p : Nat) : Int) := by
  unfold ishl
  rw [ofInt_nI, ofInt_nI, (oc_sm p hp).2, pk_shlN _ p (oc_sm p hp).1 (by omega), nI_toI ht]
theorem nI_and {a b : Nat} : nI a &&& nI b = nI (a &&& b) := by
  apply Int32.toBitVec_inj.1
  apply BitVec.eq_of_toNat_eq
  simp [nI]
theorem nI_or {a b : Nat} : nI a ||| nI b = nI (a ||| b) := by
  apply Int32.toBitVec_inj.1
  apply BitVec.eq_of_toNat_eq
  simp [nI]
theorem iand_nat {a b : Nat} (ha : a < 2147483648) : iand a b = ((a &&& b : Nat) : Int) := by
  unfold iand
  rw [ofInt_nI, ofInt_nI, nI_and, nI_toI (Nat.lt_of_le_of_lt Nat.and_le_left ha)]
theorem ior_nat {a b : Nat} (ha : a < 2147483648) (hb : b < 2147483648) : ior a b = ((a ||| b : Nat) : Int) := by
  unfold ior
  rw [ofInt_nI, ofInt_nI, nI_or, nI_toI (Nat.or_lt_two_pow (n := 31) ha hb)]
theorem iand1 {a : Nat} (ha : a < 2147483648) : iand a 1 = ((a % 2 : Nat) : Int) := by
  have h := iand_nat (a := a) (b := 1) ha
  rw [show ((1 : Nat) : Int) = 1 from rfl] at h
  rw [h, Nat.and_one_is_mod]
/-- a set's bit, as the programs ask it -/
theorem bit_ask {t p : Nat} (ht : t < 2147483648) (hp : p < 32) : iand (ishr t p) 1 = if t.testBit p then 1 else 0 := by
  rw [ishr_nat ht hp, iand1 (Nat.lt_of_le_of_lt (Nat.div_le_self _ _) ht)]
  rw [Nat.testBit_eq_decide_div_mod_eq]
  have h := Nat.mod_lt (t / 2 ^ p) (show 0 < 2 by omega)
  by_cases q : t / 2 ^ p % 2 = 1
  · simp [q]
  · have : t / 2 ^ p % 2 = 0 := by omega
    simp [this]
theorem ishl1 {p : Nat} (hp : p < 31) : ishl 1 p = ((2 ^ p : Nat) : Int) := by
  have h2 : 2 ^ p < 2 ^ 31 := Nat.pow_lt_pow_right (by omega) hp
  have h := ishl_nat (t := 1) (p := p) (by omega) (by omega)
  rw [Nat.one_mul] at h
  exact h
