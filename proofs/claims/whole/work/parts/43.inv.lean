/-! memory after writes -/
theorem oU_at {M : oM} {o : Nat} {i v : Int} : oU M o i v o i = v := by unfold oU; rw [if_pos ⟨rfl, rfl⟩]
theorem oU_o {M : oM} {o o' : Nat} {i v j : Int} (h : o' ≠ o) : oU M o i v o' j = M o' j := by unfold oU; rw [if_neg (fun z => h z.1)]
theorem oU_i {M : oM} {o : Nat} {i v j : Int} (h : j ≠ i) : oU M o i v o j = M o j := by unfold oU; rw [if_neg (fun z => h z.2)]
theorem acopy_in {M : oM} {s d : Nat} {sp dp n i : Int} (h0 : dp ≤ i) (h1 : i < dp + n) : acopy M s sp d dp n d i = M s (sp + (i - dp)) := by unfold acopy; rw [if_pos ⟨rfl, h0, h1⟩]
theorem acopy_o {M : oM} {s d o : Nat} {sp dp n i : Int} (h : o ≠ d) : acopy M s sp d dp n o i = M o i := by unfold acopy; rw [if_neg (fun z => h z.1)]
theorem acopy_out {M : oM} {s d : Nat} {sp dp n i : Int} (h : i < dp ∨ dp + n ≤ i) : acopy M s sp d dp n d i = M d i := by unfold acopy; rw [if_neg (fun z => by omega)]
/-! THE DUCHY as a value D: D 0 debts, D 1 held, D 2 chalks, D 3 (0 chalked, 1 holder or -1, 2 payer, 3 payee or -1, 4 left, 5 hour, 6 day, 7 rainy, 8 x) -/
/-- the class's duchy at object o tells D -/
def DvD (M : oM) (o : Nat) (D : oM) : Prop :=
  (∀ i : Int, 0 ≤ i → i < 100 → M (o + 1) i = D 0 i) ∧ (∀ i : Int, 0 ≤ i → i < 10 → M (o + 2) i = D 1 i) ∧ (∀ i : Int, 0 ≤ i → i < D 3 0 → M (o + 3) i = D 2 i) ∧
  M o 3 = D 3 0 ∧ M o 4 = D 3 1 ∧ M o 5 = D 3 2 ∧ M o 6 = D 3 3 ∧ M o 7 = D 3 4 ∧ M o 8 = D 3 5 ∧ M o 9 = D 3 6 ∧ M o 10 = D 3 7 ∧ M o 11 = D 3 8
def m12 (a : Int) : Int := if a = -1 then -2 else a
/-- the reference's row a tells D -/
def RfD (M : oM) (a : Nat) (D : oM) : Prop :=
  (∀ i : Int, 0 ≤ i → i < 100 → M a i = D 0 i) ∧ (∀ i : Int, 0 ≤ i → i < 10 → M a (100 + i) = D 1 i) ∧ (∀ i : Int, 0 ≤ i → i < D 3 0 → M a (110 + i) = D 2 i) ∧
  M a 150 = D 3 0 ∧ M a 151 = m12 (D 3 1) ∧ (0 < D 3 4 → M a 152 = D 3 2) ∧ M a 153 = m12 (D 3 3) ∧ M a 154 = D 3 4 ∧ M a 155 = D 3 5 ∧ M a 156 = D 3 6 ∧ M a 157 = D 3 7 ∧ M a 158 = D 3 8
/-- p is told -/
def tldb (T : Nat) (p : Int) : Bool := decide (0 ≤ p) && (decide (p < 10) && T.testBit p.toNat)
def tld (T : Nat) (p : Int) : Prop := tldb T p = true
theorem tld_iff {T : Nat} {p : Int} : tld T p ↔ 0 ≤ p ∧ p < 10 ∧ T.testBit p.toNat = true := by
  unfold tld tldb
  simp [Bool.and_eq_true]
def b01 (b : Bool) : Int := if b then 1 else 0
/-- what is true of a duchy after c calls, T told -/
def DOk (T : Nat) (c : Int) (D : oM) : Prop :=
  (∀ i : Int, 0 ≤ i → i < 100 → 0 ≤ D 0 i ∧ D 0 i ≤ 99) ∧ (∀ a b : Int, 0 ≤ a → a < 10 → 0 ≤ b → b < 10 → 0 < D 0 (10 * a + b) → tld T a ∧ tld T b ∧ a ≠ b) ∧
  (∀ i : Int, 0 ≤ i → i < 10 → 0 ≤ D 1 i ∧ D 1 i ≤ 240 * c ∧ (0 < D 1 i → tld T i)) ∧
  (0 ≤ D 3 0 ∧ D 3 0 ≤ 40) ∧ (∀ i : Int, 0 ≤ i → i < D 3 0 → 0 ≤ D 2 i ∧ D 2 i < 10) ∧
  (D 3 1 = -1 ∨ tld T (D 3 1)) ∧ (0 ≤ D 3 4 ∧ D 3 4 ≤ 18) ∧
  (0 < D 3 4 → D 3 1 = -1 ∧ tld T (D 3 2) ∧ tld T (D 3 3) ∧ D 3 2 ≠ D 3 3) ∧ (D 3 4 = 0 → D 3 3 = -1) ∧
  (0 ≤ D 3 5 ∧ D 3 5 ≤ 23) ∧ (0 ≤ D 3 6 ∧ 24 * D 3 6 + D 3 5 ≤ 240 * c) ∧ (D 3 7 = 0 ∨ D 3 7 = 1) ∧ (0 ≤ D 3 8 ∧ D 3 8 ≤ 65535)
