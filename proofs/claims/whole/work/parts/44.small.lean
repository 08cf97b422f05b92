/-! small methods of both sides -/
theorem e_P_has {f : Nat} {p : Int} {M : oM} {T : Nat} (hT : M 3 2 = T) (hT' : T < 1024) : p_P_has f p M = some (b01 (tldb T p), M) := by
  unfold p_P_has
  rw [e_O_isOne]
  simp only [Option.bind_some]
  by_cases h : 0 ≤ p ∧ p < 10
  · rw [if_pos h, if_neg (by omega), hT]
    obtain ⟨q, rfl⟩ : ∃ q : Nat, p = q := ⟨p.toNat, by omega⟩
    rw [bit_ask (by omega) (by omega)]
    unfold b01 tldb
    cases hb : T.testBit q
    · simp [hb]
    · have h1 : (q : Int) < 10 := h.2
      simp [hb, h1]
  · rw [if_neg h, if_pos rfl]
    have : tldb T p = false := by
      unfold tldb
      by_cases h0 : 0 ≤ p
      · have : ¬ p < 10 := fun z => h ⟨h0, z⟩
        simp [this]
      · simp [h0]
    rw [this]; rfl
theorem e_P_hasBoth {f : Nat} {a b : Int} {M : oM} {T : Nat} (hT : M 3 2 = T) (hT' : T < 1024) : p_P_hasBoth f a b M = some (b01 (!decide (a = b) && (tldb T a && tldb T b)), M) := by
  unfold p_P_hasBoth
  by_cases h : a = b
  · rw [if_pos h]; simp [h, b01]
  · rw [if_neg h, e_P_has hT hT']
    simp only [Option.bind_some]
    cases ha : tldb T a
    · simp [b01]
    · simp only [b01, if_true]
      rw [if_neg (by omega), e_P_has hT hT']
      simp only [Option.bind_some]
      cases hb : tldb T b <;> simp [b01, h]
theorem e_M_in {f : Nat} {v lo hi : Int} {M : oM} : p_M_in f v lo hi M = some (b01 (decide (lo ≤ v) && decide (v ≤ hi)), M) := by
  unfold p_M_in
  by_cases h0 : v < lo
  · rw [if_pos h0]
    have : ¬ lo ≤ v := by omega
    simp [this, b01]
  · rw [if_neg h0]
    have h0' : lo ≤ v := by omega
    by_cases h1 : hi < v
    · rw [if_pos h1]
      have : ¬ v ≤ hi := by omega
      simp [this, b01]
    · rw [if_neg h1]
      have : v ≤ hi := by omega
      simp [this, h0', b01]
theorem e_M_has {f : Nat} {t p : Nat} {M : oM} (ht : t < 2147483648) (hp : p < 32) : p_M_has f t p M = some (b01 (t.testBit p), M) := by
  unfold p_M_has
  rw [bit_ask ht hp]
  cases h : t.testBit p <;> simp [b01]
theorem e_M_isPerson {f : Nat} {p : Int} {M : oM} {T : Nat} (hT : M 57 5 = T) (hT' : T < 1024) : p_M_isPerson f p M = some (b01 (tldb T p), M) := by
  unfold p_M_isPerson
  rw [e_M_in]
  simp only [Option.bind_some]
  by_cases h : 0 ≤ p ∧ p ≤ 9
  · have h0 := h.1
    have h1 := h.2
    simp only [h0, h1, decide_true, Bool.and_self, b01, if_true]
    rw [if_neg (by omega), hT]
    obtain ⟨q, rfl⟩ : ∃ q : Nat, p = q := ⟨p.toNat, by omega⟩
    rw [e_M_has (by omega) (by omega)]
    simp only [Option.bind_some, tldb]
    have h2 : (q : Int) < 10 := by omega
    cases hb : T.testBit q <;> simp [hb, b01, h2]
  · have e1 : (decide (0 ≤ p) && decide (p ≤ 9)) = false := by
      by_cases h0 : 0 ≤ p
      · have : ¬ p ≤ 9 := fun z => h ⟨h0, z⟩
        simp [this]
      · simp [h0]
    have e2 : tldb T p = false := by
      unfold tldb
      by_cases h0 : 0 ≤ p
      · have : ¬ p < 10 := fun z => h ⟨h0, by omega⟩
        simp [this]
      · simp [h0]
    rw [e1, e2]
    simp [b01]
