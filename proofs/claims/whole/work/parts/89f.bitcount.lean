/-! Integer.bitCount counts the bits of a small number -/
theorem nI_nat {t : Nat} (ht : t < 2147483648) : (nI t).toBitVec.toNat = t := by
  simp [nI]
  omega
theorem iushr_nat {t p : Nat} (ht : t < 2147483648) (hp : p < 32) : iushr t p = ((t / 2 ^ p : Nat) : Int) := by
  unfold iushr
  rw [ofInt_nI, ofInt_nI]
  have e2 : ((nI t).toUInt32 >>> ((nI p).toUInt32 &&& Int32.toUInt32 31)).toBitVec = (nI t).toBitVec >>> p := by
    rw [UInt32.toBitVec_shiftRight, BitVec.ushiftRight_eq', oc_us p hp]
    rfl
  have e3 : ((nI t).toBitVec >>> p).toNat = t / 2 ^ p := by
    rw [BitVec.toNat_ushiftRight, nI_nat ht, Nat.shiftRight_eq_div_pow]
  have h4 : t / 2 ^ p < 2147483648 := Nat.lt_of_le_of_lt (Nat.div_le_self _ _) ht
  show (((nI t).toUInt32 >>> ((nI p).toUInt32 &&& Int32.toUInt32 31)).toBitVec).toInt = _
  rw [e2, BitVec.toInt_eq_toNat_of_lt (by rw [e3]; omega), e3]
def bcx1 (S : Nat) : Nat := S - (S / 2 ^ 1 &&& 1431655765)
def bcx2 (x : Nat) : Nat := (x &&& 858993459) + (x / 2 ^ 2 &&& 858993459)
def bcx3 (x : Nat) : Nat := x + x / 2 ^ 4 &&& 252645135
def bcx4 (x : Nat) : Nat := x + x / 2 ^ 8
def bcx5 (x : Nat) : Nat := x + x / 2 ^ 16
theorem bc_all : ∀ a : Nat, a < 64 → ∀ b : Nat, b < 64 → bcx5 (bcx4 (bcx3 (bcx2 (bcx1 (64 * a + b))))) &&& 63 = bcn (64 * a + b) 12 := by decide +kernel
theorem bc_eq {S : Nat} (h : S < 4096) : bcx5 (bcx4 (bcx3 (bcx2 (bcx1 S)))) &&& 63 = bcn S 12 := by
  have h1 := bc_all (S / 64) (by omega) (S % 64) (by omega)
  rw [show 64 * (S / 64) + S % 64 = S from by omega] at h1
  exact h1
theorem bc_sh {t : Nat} {p : Nat} {q : Int} (hq : q = (p : Int)) (ht : t < 2147483648) (hp : p < 32) : iushr (t : Int) q = ((t / 2 ^ p : Nat) : Int) := by rw [hq]; exact iushr_nat ht hp
theorem bc_an {t : Nat} {p : Nat} {q : Int} (hq : q = (p : Int)) (ht : t < 2147483648) : iand (t : Int) q = ((t &&& p : Nat) : Int) := by rw [hq]; exact iand_nat ht
theorem bc_w1 {S A : Nat} (hS : S < 4096) (hA : A ≤ S) : w32 ((S : Int) - (A : Int)) = ((S - A : Nat) : Int) := by
  rw [w32_of (by omega) (by omega)]; omega
theorem bc_w2 {S A : Nat} (hS : S < 100000000) (hA : A < 100000000) : w32 ((S : Int) + (A : Int)) = ((S + A : Nat) : Int) := by
  rw [w32_of (by omega) (by omega)]; omega
theorem bc_b1 (S : Nat) : S / 2 ^ 1 &&& 1431655765 ≤ S := Nat.le_trans Nat.and_le_left (Nat.div_le_self _ _)
theorem bc_b2 (S : Nat) : bcx1 S ≤ S := Nat.sub_le _ _
theorem bc_b3 (x : Nat) : bcx2 x ≤ x + x := Nat.add_le_add Nat.and_le_left (Nat.le_trans Nat.and_le_left (Nat.div_le_self _ _))
theorem bc_b4 (x : Nat) : bcx3 x ≤ x + x := Nat.le_trans Nat.and_le_left (Nat.add_le_add_left (Nat.div_le_self _ _) _)
theorem bc_b5 (x : Nat) : bcx4 x ≤ x + x := Nat.add_le_add_left (Nat.div_le_self _ _) _
theorem bc_b6 (x : Nat) : bcx5 x ≤ x + x := Nat.add_le_add_left (Nat.div_le_self _ _) _
theorem e_JI_bitCount {f S : Nat} {M : oM} (hS : S < 4096) : p_JI_bitCount f S M = some (((bcn S 12 : Nat) : Int), M) := by
  have b1 := bc_b2 S
  have b2 := bc_b3 (bcx1 S)
  have b3 := bc_b4 (bcx2 (bcx1 S))
  have b4 := bc_b5 (bcx3 (bcx2 (bcx1 S)))
  have b5 := bc_b6 (bcx4 (bcx3 (bcx2 (bcx1 S))))
  rw [← bc_eq hS]
  have e1 : w32 ((S : Int) - iand (iushr (S : Int) 1) 1431655765) = ((bcx1 S : Nat) : Int) := by
    rw [bc_sh (p := 1) (q := 1) rfl (Nat.lt_trans hS (by decide)) (by decide), bc_an (p := 1431655765) (q := 1431655765) rfl (Nat.lt_of_le_of_lt (Nat.div_le_self _ _) (Nat.lt_trans hS (by decide))), bc_w1 hS (bc_b1 S)]
    rfl
  generalize bcx1 S = x1 at *
  have h1 : x1 < 4096 := Nat.lt_of_le_of_lt b1 hS
  have e2 : w32 (iand (x1 : Int) 858993459 + iand (iushr (x1 : Int) 2) 858993459) = ((bcx2 x1 : Nat) : Int) := by
    rw [bc_an (p := 858993459) (q := 858993459) rfl (Nat.lt_trans h1 (by decide)), bc_sh (p := 2) (q := 2) rfl (Nat.lt_trans h1 (by decide)) (by decide), bc_an (p := 858993459) (q := 858993459) rfl (Nat.lt_of_le_of_lt (Nat.div_le_self _ _) (Nat.lt_trans h1 (by decide))), bc_w2 (Nat.lt_of_le_of_lt Nat.and_le_left (Nat.lt_trans h1 (by decide))) (Nat.lt_of_le_of_lt (Nat.le_trans Nat.and_le_left (Nat.div_le_self _ _)) (Nat.lt_trans h1 (by decide)))]
    rfl
  generalize bcx2 x1 = x2 at *
  have h2 : x2 < 8192 := by clear b3 b4 b5 e1 e2; omega
  have e3 : iand (w32 ((x2 : Int) + iushr (x2 : Int) 4)) 252645135 = ((bcx3 x2 : Nat) : Int) := by
    rw [bc_sh (p := 4) (q := 4) rfl (Nat.lt_trans h2 (by decide)) (by decide), bc_w2 (Nat.lt_trans h2 (by decide)) (Nat.lt_of_le_of_lt (Nat.div_le_self _ _) (Nat.lt_trans h2 (by decide))), bc_an (p := 252645135) (q := 252645135) rfl (Nat.lt_of_le_of_lt (Nat.add_le_add_left (Nat.div_le_self _ _) _) (Nat.lt_trans (Nat.add_lt_add h2 h2) (by decide)))]
    rfl
  generalize bcx3 x2 = x3 at *
  have h3 : x3 < 16384 := by clear b2 b4 b5 e1 e2 e3; omega
  have e4 : w32 ((x3 : Int) + iushr (x3 : Int) 8) = ((bcx4 x3 : Nat) : Int) := by
    rw [bc_sh (p := 8) (q := 8) rfl (Nat.lt_trans h3 (by decide)) (by decide), bc_w2 (Nat.lt_trans h3 (by decide)) (Nat.lt_of_le_of_lt (Nat.div_le_self _ _) (Nat.lt_trans h3 (by decide)))]
    rfl
  generalize bcx4 x3 = x4 at *
  have h4 : x4 < 32768 := by clear b2 b3 b5 e1 e2 e3 e4; omega
  have e5 : w32 ((x4 : Int) + iushr (x4 : Int) 16) = ((bcx5 x4 : Nat) : Int) := by
    rw [bc_sh (p := 16) (q := 16) rfl (Nat.lt_trans h4 (by decide)) (by decide), bc_w2 (Nat.lt_trans h4 (by decide)) (Nat.lt_of_le_of_lt (Nat.div_le_self _ _) (Nat.lt_trans h4 (by decide)))]
    rfl
  generalize bcx5 x4 = x5 at *
  have h5 : x5 < 65536 := by clear b2 b3 b4 e1 e2 e3 e4 e5; omega
  unfold p_JI_bitCount
  rw [e1, lt_eq, e2, lt_eq, e3, lt_eq, e4, lt_eq, e5, lt_eq, bc_an (p := 63) (q := 63) rfl (Nat.lt_trans h5 (by decide))]
