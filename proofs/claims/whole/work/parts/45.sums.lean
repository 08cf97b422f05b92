/-! ways, debts, sums of debts, on both sides -/
def abs' (a : Int) : Int := if a < 0 then -a else a
def wayS (X Y : Int → Int) (a b : Int) : Int := if 1 < abs' (X a - X b) + abs' (Y a - Y b) then abs' (X a - X b) + abs' (Y a - Y b) else 1
def spotOk (X : Int → Int) : Prop := ∀ i : Int, 0 ≤ i → i < 10 → 0 ≤ X i ∧ X i ≤ 9
theorem wayS_bd {X Y : Int → Int} {a b : Int} (hX : spotOk X) (hY : spotOk Y) (ha : 0 ≤ a ∧ a < 10) (hb : 0 ≤ b ∧ b < 10) : 1 ≤ wayS X Y a b ∧ wayS X Y a b ≤ 18 := by
  have h1 := hX a ha.1 ha.2
  have h2 := hX b hb.1 hb.2
  have h3 := hY a ha.1 ha.2
  have h4 := hY b hb.1 hb.2
  unfold wayS abs'
  repeat' split
  all_goals omega
theorem e_P_way {f : Nat} {a b : Int} {M : oM} (hX : spotOk (M 4)) (hY : spotOk (M 5)) (ha : 0 ≤ a ∧ a < 10) (hb : 0 ≤ b ∧ b < 10) : p_P_way f a b M = some (wayS (M 4) (M 5) a b, M) := by
  have h1 := hX a ha.1 ha.2
  have h2 := hX b hb.1 hb.2
  have h3 := hY a ha.1 ha.2
  have h4 := hY b hb.1 hb.2
  unfold p_P_way
  rw [e_O_isOne, if_pos ha]
  simp only [Option.bind_some]
  rw [if_neg (by omega), e_O_isOne, if_pos hb]
  simp only [Option.bind_some]
  rw [if_neg (by omega), bnd_eq ha.1 ha.2, bnd_eq hb.1 hb.2, bnd_eq ha.1 ha.2, bnd_eq hb.1 hb.2]
  congr 2
  rw [w32_of (a := M 4 a - M 4 b) (by omega) (by omega), w32_of (a := M 5 a - M 5 b) (by omega) (by omega)]
  have e1 : iabs (M 4 a - M 4 b) = abs' (M 4 a - M 4 b) := by
    unfold iabs abs'
    by_cases h : 0 ≤ M 4 a - M 4 b
    · rw [if_pos h, if_neg (by omega)]
    · rw [if_neg h, if_pos (by omega), w32_of (by omega) (by omega)]; omega
  have e2 : iabs (M 5 a - M 5 b) = abs' (M 5 a - M 5 b) := by
    unfold iabs abs'
    by_cases h : 0 ≤ M 5 a - M 5 b
    · rw [if_pos h, if_neg (by omega)]
    · rw [if_neg h, if_pos (by omega), w32_of (by omega) (by omega)]; omega
  rw [e1, e2]
  have e3 : 0 ≤ abs' (M 4 a - M 4 b) ∧ abs' (M 4 a - M 4 b) ≤ 9 := by unfold abs'; split <;> omega
  have e4 : 0 ≤ abs' (M 5 a - M 5 b) ∧ abs' (M 5 a - M 5 b) ≤ 9 := by unfold abs'; split <;> omega
  rw [w32_of (by omega) (by omega)]
  unfold imax wayS
  rfl
theorem e_M_size {f : Nat} {a : Int} {M : oM} (h : -1000000 ≤ a) : p_M_size f a M = some (abs' a, M) := by
  unfold p_M_size abs'
  by_cases q : a < 0
  · rw [if_pos q, if_pos q, w32_of (by omega) (by omega)]
  · rw [if_neg q, if_neg q]
theorem e_M_max {f : Nat} {a b : Int} {M : oM} : p_M_max f a b M = some (if b < a then a else b, M) := by
  unfold p_M_max
  by_cases q : b < a
  · rw [if_pos q, if_pos q]
  · rw [if_neg q, if_neg q]
theorem e_M_min {f : Nat} {a b : Int} {M : oM} : p_M_min f a b M = some (if a < b then a else b, M) := by
  unfold p_M_min
  by_cases q : a < b
  · rw [if_pos q, if_pos q]
  · rw [if_neg q, if_neg q]
theorem e_M_wayOf {f : Nat} {a b : Int} {M : oM} (hX : spotOk (M 61)) (hY : spotOk (M 62)) (ha : 0 ≤ a ∧ a < 10) (hb : 0 ≤ b ∧ b < 10) : p_M_wayOf f a b M = some (wayS (M 61) (M 62) a b, M) := by
  have h1 := hX a ha.1 ha.2
  have h2 := hX b hb.1 hb.2
  have h3 := hY a ha.1 ha.2
  have h4 := hY b hb.1 hb.2
  unfold p_M_wayOf
  rw [bnd_eq ha.1 ha.2, bnd_eq hb.1 hb.2, w32_of (a := M 61 a - M 61 b) (by omega) (by omega), e_M_size (by omega)]
  simp only [Option.bind_some]
  rw [bnd_eq ha.1 ha.2, bnd_eq hb.1 hb.2, w32_of (a := M 62 a - M 62 b) (by omega) (by omega), e_M_size (by omega)]
  simp only [Option.bind_some]
  have e3 : 0 ≤ abs' (M 61 a - M 61 b) ∧ abs' (M 61 a - M 61 b) ≤ 9 := by unfold abs'; split <;> omega
  have e4 : 0 ≤ abs' (M 62 a - M 62 b) ∧ abs' (M 62 a - M 62 b) ≤ 9 := by unfold abs'; split <;> omega
  rw [w32_of (by omega) (by omega), e_M_max]
  simp only [Option.bind_some]
  congr 2
  unfold wayS
  by_cases q : 1 < abs' (M 61 a - M 61 b) + abs' (M 62 a - M 62 b)
  · rw [if_neg (by omega), if_pos q]
  · rw [if_neg q]
    by_cases q2 : abs' (M 61 a - M 61 b) + abs' (M 62 a - M 62 b) < 1
    · rw [if_pos q2]
    · rw [if_neg q2]; omega
theorem e_D_debtOf {f o : Nat} {a b : Int} {M : oM} (ha : 0 ≤ a ∧ a < 10) (hb : 0 ≤ b ∧ b < 10) : p_D_debtOf f o a b M = some (M (o + 1) (10 * a + b), M) := by
  unfold p_D_debtOf
  rw [e_O_isOne, if_pos ha]
  simp only [Option.bind_some]
  rw [if_neg (by omega), e_O_isOne, if_pos hb]
  simp only [Option.bind_some]
  rw [if_neg (by omega), w32_of (a := a * 10) (by omega) (by omega), w32_of (by omega) (by omega), bnd_eq (by omega) (by omega), show a * 10 + b = 10 * a + b from by omega]
theorem e_D_debtOf_out {f o : Nat} {a b : Int} {M : oM} (h : ¬ ((0 ≤ a ∧ a < 10) ∧ 0 ≤ b ∧ b < 10)) : p_D_debtOf f o a b M = some (0, M) := by
  unfold p_D_debtOf
  rw [e_O_isOne]
  simp only [Option.bind_some]
  by_cases ha : 0 ≤ a ∧ a < 10
  · rw [if_pos ha, if_neg (by omega), e_O_isOne]
    simp only [Option.bind_some]
    rw [if_neg (fun q => h ⟨ha, q⟩), if_pos rfl]
  · rw [if_neg ha, if_pos rfl]
theorem e_M_debtOf {f : Nat} {a b : Int} {M : oM} (ha : 0 ≤ a ∧ a < 10) (hb : 0 ≤ b ∧ b < 10) : p_M_debtOf f a b M = some (M 58 (10 * a + b), M) := by
  unfold p_M_debtOf
  rw [w32_of (a := 10 * a) (by omega) (by omega), w32_of (a := 0 + 10 * a) (by omega) (by omega), w32_of (by omega) (by omega), bnd_eq (by omega) (by omega), show 0 + 10 * a + b = 10 * a + b from by omega]
