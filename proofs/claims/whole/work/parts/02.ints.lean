/-! mathematical integers for ints of 32 bits -/
def inR (a : Int) : Prop := -2147483648 ≤ a ∧ a < 2147483648
def w32 (a : Int) : Int := (a + 2147483648) % 4294967296 - 2147483648
theorem inR_w32 (a : Int) : inR (w32 a) := by unfold inR w32; omega
theorem w32_id {a : Int} (h : inR a) : w32 a = a := by unfold inR at h; unfold w32; omega
theorem w32_of {a : Int} (h1 : -2147483648 ≤ a) (h2 : a < 2147483648) : w32 a = a := w32_id ⟨h1, h2⟩
theorem inR_toInt (x : Int32) : inR x.toInt := by
  have h1 := x.toInt_lt
  have h2 := x.le_toInt
  unfold inR; omega
theorem oc_toInt {a : Int} (h : inR a) : (Int32.ofInt a).toInt = a := Int32.toInt_ofInt_of_le (by have := h.1; omega) (by have := h.2; omega)
theorem oc_bmod (a : Int) : a.bmod (2 ^ 32) = w32 a := by
  rw [Int.bmod_def]
  unfold w32
  omega
theorem oc_ofInt_w32 (a : Int) : Int32.ofInt (w32 a) = Int32.ofInt a := by
  apply Int32.toInt_inj.1
  rw [oc_toInt (inR_w32 a), Int32.toInt_ofInt]
  exact (oc_bmod a).symm
theorem oc_add (a b : Int) : Int32.ofInt a + Int32.ofInt b = Int32.ofInt (w32 (a + b)) := by rw [oc_ofInt_w32, Int32.ofInt_add]
theorem oc_sub (a b : Int) : Int32.ofInt a - Int32.ofInt b = Int32.ofInt (w32 (a - b)) := by rw [oc_ofInt_w32, Int32.ofInt_sub]
theorem oc_mul (a b : Int) : Int32.ofInt a * Int32.ofInt b = Int32.ofInt (w32 (a * b)) := by rw [oc_ofInt_w32, Int32.ofInt_mul]
theorem oc_neg (a : Int) : -Int32.ofInt a = Int32.ofInt (w32 (-a)) := by rw [oc_ofInt_w32, Int32.ofInt_neg]
theorem oc_lt {a b : Int} (ha : inR a) (hb : inR b) : Int32.ofInt a < Int32.ofInt b ↔ a < b := by rw [Int32.lt_iff_toInt_lt, oc_toInt ha, oc_toInt hb]
theorem oc_le {a b : Int} (ha : inR a) (hb : inR b) : Int32.ofInt a ≤ Int32.ofInt b ↔ a ≤ b := by rw [Int32.le_iff_toInt_le, oc_toInt ha, oc_toInt hb]
theorem oc_eq {a b : Int} (ha : inR a) (hb : inR b) : Int32.ofInt a = Int32.ofInt b ↔ a = b := by rw [← Int32.toInt_inj, oc_toInt ha, oc_toInt hb]
theorem inR_0 : inR 0 := by unfold inR; omega
theorem oc_zero : (0 : Int32) = Int32.ofInt 0 := rfl
theorem oc_div {a b : Int} (ha : inR a) (hb : inR b) : Int32.ofInt a / Int32.ofInt b = Int32.ofInt (w32 (a.tdiv b)) := by
  apply Int32.toInt_inj.1
  rw [Int32.toInt_div, oc_toInt ha, oc_toInt hb, oc_toInt (inR_w32 _), oc_bmod]
theorem inR_tmod {a b : Int} (ha : inR a) : inR (a.tmod b) := by
  unfold inR at *
  rcases Int.lt_or_le a 0 with h | h
  · have h1 : (-a).tmod b ≤ -a := by
      by_cases hb : b = 0
      · subst hb; simp
      · have := Int.tmod_nonneg (a := -a) b (by omega)
        have h2 := Int.mul_tdiv_add_tmod (-a) b
        rcases Int.lt_or_le b 0 with hb0 | hb0
        · have h3 := Int.tdiv_nonpos_of_nonneg_of_nonpos (a := -a) (b := b) (by omega) (by omega)
          have := Int.mul_nonneg_of_nonpos_of_nonpos (a := b) (b := (-a).tdiv b) (by omega) h3
          omega
        · have h3 := Int.tdiv_nonneg (a := -a) (b := b) (by omega) hb0
          have := Int.mul_nonneg hb0 h3
          omega
    have h2 := Int.tmod_nonneg (a := -a) b (by omega)
    rw [Int.neg_tmod] at h1 h2
    omega
  · have h1 : a.tmod b ≤ a := by
      by_cases hb : b = 0
      · subst hb; simp
      · have h2 := Int.mul_tdiv_add_tmod a b
        rcases Int.lt_or_le b 0 with hb0 | hb0
        · have h3 := Int.tdiv_nonpos_of_nonneg_of_nonpos (a := a) (b := b) (by omega) (by omega)
          have := Int.mul_nonneg_of_nonpos_of_nonpos (a := b) (b := a.tdiv b) (by omega) h3
          omega
        · have h3 := Int.tdiv_nonneg (a := a) (b := b) (by omega) hb0
          have := Int.mul_nonneg hb0 h3
          omega
    have h2 := Int.tmod_nonneg (a := a) b (by omega)
    omega
theorem oc_rem {a b : Int} (ha : inR a) (hb : inR b) : Int32.ofInt a - Int32.ofInt a / Int32.ofInt b * Int32.ofInt b = Int32.ofInt (a.tmod b) := by
  rw [oc_div ha hb, oc_ofInt_w32, ← Int32.ofInt_mul, ← Int32.ofInt_sub]
  congr 1
  have := Int.mul_tdiv_add_tmod a b
  have h2 : a.tdiv b * b = b * a.tdiv b := Int.mul_comm _ _
  omega
def iand (a b : Int) : Int := (Int32.ofInt a &&& Int32.ofInt b).toInt
def ior (a b : Int) : Int := (Int32.ofInt a ||| Int32.ofInt b).toInt
def ixor (a b : Int) : Int := (Int32.ofInt a ^^^ Int32.ofInt b).toInt
def ishl (a b : Int) : Int := (Int32.ofInt a <<< (Int32.ofInt b &&& 31)).toInt
def ishr (a b : Int) : Int := (Int32.ofInt a >>> (Int32.ofInt b &&& 31)).toInt
def iushr (a b : Int) : Int := ((Int32.ofInt a).toUInt32 >>> ((Int32.ofInt b).toUInt32 &&& Int32.toUInt32 31)).toInt32.toInt
def i2b (a : Int) : Int := (Int32.ofInt a).toInt8.toInt32.toInt
def i2c (a : Int) : Int := ((Int32.ofInt a).toUInt32 % 65536).toInt32.toInt
/-- guards of the walked programs -/
def bnd {α : Type} (n i : Int) (k : Int → Option α) : Option α := if 0 ≤ i ∧ i < n then k i else none
def nz {α : Type} (b : Int) (k : Int → Option α) : Option α := if b = 0 then none else k b
def okp {α : Type} : Option α → (α → Prop) → Prop
  | none, _ => False
  | some a, K => K a
theorem okp_bind {α β : Type} {x : Option α} {g : α → Option β} {K : β → Prop} (h : okp (x.bind g) K) : okp x (fun a => okp (g a) K) := by
  cases x with
  | none => exact h
  | some a => exact h
theorem okp_bind' {α β : Type} {x : Option α} {g : α → Option β} {K : β → Prop} (h : okp x (fun a => okp (g a) K)) : okp (x.bind g) K := by
  cases x with
  | none => exact h
  | some a => exact h
theorem okp_mono {α : Type} {x : Option α} {K K' : α → Prop} (h : okp x K) (hk : ∀ a, K a → K' a) : okp x K' := by
  cases x with
  | none => exact h
  | some a => exact hk a h
theorem okp_bnd {α : Type} {n i : Int} {k : Int → Option α} {K : α → Prop} (h : okp (bnd n i k) K) : 0 ≤ i ∧ i < n ∧ okp (k i) K := by
  unfold bnd at h
  split at h
  · rename_i c; exact ⟨c.1, c.2, h⟩
  · exact h.elim
theorem okp_nz {α : Type} {b : Int} {k : Int → Option α} {K : α → Prop} (h : okp (nz b k) K) : b ≠ 0 ∧ okp (k b) K := by
  unfold nz at h
  split at h
  · exact h.elim
  · rename_i c; exact ⟨c, h⟩
theorem okp_t {α : Type} {c : Prop} [Decidable c] {x y : Option α} {K : α → Prop} (hc : c) (h : okp (if c then x else y) K) : okp x K := by rw [if_pos hc] at h; exact h
theorem okp_f {α : Type} {c : Prop} [Decidable c] {x y : Option α} {K : α → Prop} (hc : ¬ c) (h : okp (if c then x else y) K) : okp y K := by rw [if_neg hc] at h; exact h
def iter {S R : Type} (step : S → Option (S ⊕ R)) : Nat → S → Option R
  | 0, _ => none
  | n + 1, s => (step s).bind fun y => match y with
    | .inl s' => iter step n s'
    | .inr r => some r
theorem iter_J {S R : Type} {step : S → Option (S ⊕ R)} {Jh : S → Prop} {G : R → Prop} (hstep : ∀ s, okp (step s) (fun y => match y with | .inl s' => Jh s' | .inr r => G r) → Jh s) : ∀ (f : Nat) (s : S), okp (iter step f s) G → Jh s := by
  intro f
  induction f with
  | zero => intro s h; exact h.elim
  | succ n ih =>
    intro s h
    refine hstep s (okp_mono (okp_bind h) ?_)
    intro y hy
    cases y with
    | inl s' => exact ih s' hy
    | inr r => exact hy
