/-! the law's steps, reckoned by both side by side -/
theorem code_dec {o v : Int} (ho : 0 ≤ o ∧ o ≤ 100) (hv : 0 ≤ v ∧ v < 1048576) : w32 (Int.tdiv (1048576 * o + v) 1048576) = o ∧ Int.tmod (1048576 * o + v) 1048576 = v := by
  have h1 : Int.tdiv (1048576 * o + v) 1048576 = o := by
    rw [Int.tdiv_eq_ediv_of_nonneg (by omega)]; omega
  have h2 : Int.tmod (1048576 * o + v) 1048576 = v := by
    rw [Int.tmod_eq_emod_of_nonneg (by omega)]; omega
  rw [h1, h2, w32_of (by omega) (by omega)]
  exact ⟨rfl, rfl⟩
theorem opn_bd (s : Int) : 0 ≤ opn s ∧ opn s ≤ 100 := by
  unfold opn
  repeat' split
  all_goals omega
theorem iand7 : ∀ n : Nat, n < 8 → iand (n : Int) 7 = n := by decide +kernel
def stk (A B : Int → Int) : List Bool → Prop
  | [] => True
  | t :: σ => A (σ.length : Int) = B (σ.length : Int) ∧ (t = true → A (σ.length : Int) = 0 ∨ A (σ.length : Int) = 1) ∧ stk A B σ
theorem stk_upd {A B : Int → Int} {k v w : Int} : ∀ {σ : List Bool}, stk A B σ → (σ.length : Int) ≤ k → stk (sD A k v) (sD B k w) σ := by
  intro σ
  induction σ with
  | nil => intros; trivial
  | cons t σ ih =>
    intro h hk
    rw [List.length_cons] at hk
    refine ⟨?_, ?_, ih h.2.2 (by omega)⟩
    · rw [sD_ne (by omega), sD_ne (by omega)]; exact h.1
    · rw [sD_ne (by omega)]; exact h.2.1
theorem stk_push {A B : Int → Int} {k v : Int} {σ : List Bool} {t : Bool} (h : stk A B σ) (hk : k = (σ.length : Int)) (ht : t = true → v = 0 ∨ v = 1) : stk (sD A k v) (sD B k v) (t :: σ) := by
  subst hk
  exact ⟨by rw [sD_at, sD_at], by rw [sD_at]; exact ht, stk_upd h (Int.le_refl _)⟩
def codeR (Mc Mr : oM) (a b : Int) : Prop := ∀ i : Int, a ≤ i → i < b → (0 ≤ Mc 20 i ∧ Mc 20 i < 1048576) ∧ Mr 70 i = 1048576 * opn (Mc 19 i) + Mc 20 i
theorem joined_reckon {f : Nat} {s x y : Int} {M M' : oM} (hs : s = 43 ∨ s = 45 ∨ s = 42 ∨ s = 60 ∨ s = 62 ∨ s = 61 ∨ ((s = 47 ∨ s = 37) ∧ y ≠ 0)) : ∃ r, p_L_joined f s x y M = some (r, M) ∧ p_M_reckon f (opn s) x y M' = some (r, M') ∧ ((s = 60 ∨ s = 62 ∨ s = 61) → r = 0 ∨ r = 1) := by
  unfold p_L_joined p_M_reckon opn
  rcases hs with h | h | h | h | h | h | ⟨h | h, hy⟩
  · subst h
    refine ⟨w32 (x + y), ?_, ?_, fun z => by omega⟩
    · simp (disch := omega) only [bnd_eq, nz_eq, lt_eq, if_pos, if_neg, w32_of, if_true, if_false, not_true_eq_false, not_false_eq_true, Option.bind_some, oU_at, oU_o, oU_i, b01_t, b01_f]
    · simp (disch := omega) only [bnd_eq, nz_eq, lt_eq, if_pos, if_neg, w32_of, if_true, if_false, not_true_eq_false, not_false_eq_true, Option.bind_some, oU_at, oU_o, oU_i, b01_t, b01_f]
  · subst h
    refine ⟨w32 (x - y), ?_, ?_, fun z => by omega⟩
    · simp (disch := omega) only [bnd_eq, nz_eq, lt_eq, if_pos, if_neg, w32_of, if_true, if_false, not_true_eq_false, not_false_eq_true, Option.bind_some, oU_at, oU_o, oU_i, b01_t, b01_f]
    · simp (disch := omega) only [bnd_eq, nz_eq, lt_eq, if_pos, if_neg, w32_of, if_true, if_false, not_true_eq_false, not_false_eq_true, Option.bind_some, oU_at, oU_o, oU_i, b01_t, b01_f]
  · subst h
    refine ⟨w32 (x * y), ?_, ?_, fun z => by omega⟩
    · simp (disch := omega) only [bnd_eq, nz_eq, lt_eq, if_pos, if_neg, w32_of, if_true, if_false, not_true_eq_false, not_false_eq_true, Option.bind_some, oU_at, oU_o, oU_i, b01_t, b01_f]
    · simp (disch := omega) only [bnd_eq, nz_eq, lt_eq, if_pos, if_neg, w32_of, if_true, if_false, not_true_eq_false, not_false_eq_true, Option.bind_some, oU_at, oU_o, oU_i, b01_t, b01_f]
  · subst h
    refine ⟨if x < y then 1 else 0, ?_, ?_, fun _ => by split <;> omega⟩
    · by_cases q : x < y
      · simp (disch := omega) only [bnd_eq, nz_eq, lt_eq, if_pos, if_neg, w32_of, if_true, if_false, not_true_eq_false, not_false_eq_true, Option.bind_some, oU_at, oU_o, oU_i, b01_t, b01_f]
      · simp (disch := omega) only [bnd_eq, nz_eq, lt_eq, if_pos, if_neg, w32_of, if_true, if_false, not_true_eq_false, not_false_eq_true, Option.bind_some, oU_at, oU_o, oU_i, b01_t, b01_f]
    · by_cases q : x < y
      · simp (disch := omega) only [bnd_eq, nz_eq, lt_eq, if_pos, if_neg, w32_of, if_true, if_false, not_true_eq_false, not_false_eq_true, Option.bind_some, oU_at, oU_o, oU_i, b01_t, b01_f]
      · simp (disch := omega) only [bnd_eq, nz_eq, lt_eq, if_pos, if_neg, w32_of, if_true, if_false, not_true_eq_false, not_false_eq_true, Option.bind_some, oU_at, oU_o, oU_i, b01_t, b01_f]
  · subst h
    refine ⟨if y < x then 1 else 0, ?_, ?_, fun _ => by split <;> omega⟩
    · by_cases q : y < x
      · simp (disch := omega) only [bnd_eq, nz_eq, lt_eq, if_pos, if_neg, w32_of, if_true, if_false, not_true_eq_false, not_false_eq_true, Option.bind_some, oU_at, oU_o, oU_i, b01_t, b01_f]
      · simp (disch := omega) only [bnd_eq, nz_eq, lt_eq, if_pos, if_neg, w32_of, if_true, if_false, not_true_eq_false, not_false_eq_true, Option.bind_some, oU_at, oU_o, oU_i, b01_t, b01_f]
    · by_cases q : y < x
      · simp (disch := omega) only [bnd_eq, nz_eq, lt_eq, if_pos, if_neg, w32_of, if_true, if_false, not_true_eq_false, not_false_eq_true, Option.bind_some, oU_at, oU_o, oU_i, b01_t, b01_f]
      · simp (disch := omega) only [bnd_eq, nz_eq, lt_eq, if_pos, if_neg, w32_of, if_true, if_false, not_true_eq_false, not_false_eq_true, Option.bind_some, oU_at, oU_o, oU_i, b01_t, b01_f]
  · subst h
    refine ⟨if x = y then 1 else 0, ?_, ?_, fun _ => by split <;> omega⟩
    · by_cases q : x = y
      · simp (disch := omega) only [bnd_eq, nz_eq, lt_eq, if_pos, if_neg, w32_of, if_true, if_false, not_true_eq_false, not_false_eq_true, Option.bind_some, oU_at, oU_o, oU_i, b01_t, b01_f, q]
      · simp (disch := omega) only [bnd_eq, nz_eq, lt_eq, if_pos, if_neg, w32_of, if_true, if_false, not_true_eq_false, not_false_eq_true, Option.bind_some, oU_at, oU_o, oU_i, b01_t, b01_f]
    · by_cases q : x = y
      · simp (disch := omega) only [bnd_eq, nz_eq, lt_eq, if_pos, if_neg, w32_of, if_true, if_false, not_true_eq_false, not_false_eq_true, Option.bind_some, oU_at, oU_o, oU_i, b01_t, b01_f, q]
      · simp (disch := omega) only [bnd_eq, nz_eq, lt_eq, if_pos, if_neg, w32_of, if_true, if_false, not_true_eq_false, not_false_eq_true, Option.bind_some, oU_at, oU_o, oU_i, b01_t, b01_f]
  · subst h
    refine ⟨w32 (Int.tdiv x y), ?_, ?_, fun z => by omega⟩
    · simp (disch := omega) only [bnd_eq, nz_eq, lt_eq, if_pos, if_neg, w32_of, if_true, if_false, not_true_eq_false, not_false_eq_true, Option.bind_some, oU_at, oU_o, oU_i, b01_t, b01_f]
    · simp (disch := omega) only [bnd_eq, nz_eq, lt_eq, if_pos, if_neg, w32_of, if_true, if_false, not_true_eq_false, not_false_eq_true, Option.bind_some, oU_at, oU_o, oU_i, b01_t, b01_f]
  · subst h
    refine ⟨Int.tmod x y, ?_, ?_, fun z => by omega⟩
    · simp (disch := omega) only [bnd_eq, nz_eq, lt_eq, if_pos, if_neg, w32_of, if_true, if_false, not_true_eq_false, not_false_eq_true, Option.bind_some, oU_at, oU_o, oU_i, b01_t, b01_f]
    · simp (disch := omega) only [bnd_eq, nz_eq, lt_eq, if_pos, if_neg, w32_of, if_true, if_false, not_true_eq_false, not_false_eq_true, Option.bind_some, oU_at, oU_o, oU_i, b01_t, b01_f]
theorem cs_33 {f : Nat} {l2 l3 l4 l5 : Int} {M : oM} (h0 : 0 ≤ l4) (h1 : l4 < l2) (h2 : l2 ≤ 240) (h5 : l5 < 240) (hs : M 19 l4 = 33) : p_L_reckoned_L8 f l2 (l3, l4, l5, M) = p_L_reckoned_B133_8 f l2 l3 (l4 + 1) l5 33 (M 20 l4) M := by
  unfold p_L_reckoned_L8
  simp only []
  rw [if_pos h5, if_neg (by omega), if_pos h1, if_pos (by omega), bnd_eq h0 (by omega), lt_eq, bnd_eq h0 (by omega), lt_eq, lt_eq, hs, w32_of (by omega) (by omega)]
  simp only [Int.reduceEq, if_true, if_false]
theorem cs_37 {f : Nat} {l2 l3 l4 l5 : Int} {M : oM} (h0 : 0 ≤ l4) (h1 : l4 < l2) (h2 : l2 ≤ 240) (h5 : l5 < 240) (hs : M 19 l4 = 37) : p_L_reckoned_L8 f l2 (l3, l4, l5, M) = p_L_reckoned_B226_8 f l2 l3 (l4 + 1) l5 37 M := by
  unfold p_L_reckoned_L8
  simp only []
  rw [if_pos h5, if_neg (by omega), if_pos h1, if_pos (by omega), bnd_eq h0 (by omega), lt_eq, bnd_eq h0 (by omega), lt_eq, lt_eq, hs, w32_of (by omega) (by omega)]
  simp only [Int.reduceEq, if_true, if_false]
theorem cs_38 {f : Nat} {l2 l3 l4 l5 : Int} {M : oM} (h0 : 0 ≤ l4) (h1 : l4 < l2) (h2 : l2 ≤ 240) (h5 : l5 < 240) (hs : M 19 l4 = 38) : p_L_reckoned_L8 f l2 (l3, l4, l5, M) = p_L_reckoned_B133_8 f l2 l3 (l4 + 1) l5 38 (M 20 l4) M := by
  unfold p_L_reckoned_L8
  simp only []
  rw [if_pos h5, if_neg (by omega), if_pos h1, if_pos (by omega), bnd_eq h0 (by omega), lt_eq, bnd_eq h0 (by omega), lt_eq, lt_eq, hs, w32_of (by omega) (by omega)]
  simp only [Int.reduceEq, if_true, if_false]
theorem cs_42 {f : Nat} {l2 l3 l4 l5 : Int} {M : oM} (h0 : 0 ≤ l4) (h1 : l4 < l2) (h2 : l2 ≤ 240) (h5 : l5 < 240) (hs : M 19 l4 = 42) : p_L_reckoned_L8 f l2 (l3, l4, l5, M) = p_L_reckoned_B231_8 f l2 l3 (l4 + 1) l5 42 0 M := by
  unfold p_L_reckoned_L8
  simp only []
  rw [if_pos h5, if_neg (by omega), if_pos h1, if_pos (by omega), bnd_eq h0 (by omega), lt_eq, bnd_eq h0 (by omega), lt_eq, lt_eq, hs, w32_of (by omega) (by omega)]
  simp only [Int.reduceEq, if_true, if_false]
theorem cs_43 {f : Nat} {l2 l3 l4 l5 : Int} {M : oM} (h0 : 0 ≤ l4) (h1 : l4 < l2) (h2 : l2 ≤ 240) (h5 : l5 < 240) (hs : M 19 l4 = 43) : p_L_reckoned_L8 f l2 (l3, l4, l5, M) = p_L_reckoned_B231_8 f l2 l3 (l4 + 1) l5 43 0 M := by
  unfold p_L_reckoned_L8
  simp only []
  rw [if_pos h5, if_neg (by omega), if_pos h1, if_pos (by omega), bnd_eq h0 (by omega), lt_eq, bnd_eq h0 (by omega), lt_eq, lt_eq, hs, w32_of (by omega) (by omega)]
  simp only [Int.reduceEq, if_true, if_false]
theorem cs_45 {f : Nat} {l2 l3 l4 l5 : Int} {M : oM} (h0 : 0 ≤ l4) (h1 : l4 < l2) (h2 : l2 ≤ 240) (h5 : l5 < 240) (hs : M 19 l4 = 45) : p_L_reckoned_L8 f l2 (l3, l4, l5, M) = p_L_reckoned_B231_8 f l2 l3 (l4 + 1) l5 45 0 M := by
  unfold p_L_reckoned_L8
  simp only []
  rw [if_pos h5, if_neg (by omega), if_pos h1, if_pos (by omega), bnd_eq h0 (by omega), lt_eq, bnd_eq h0 (by omega), lt_eq, lt_eq, hs, w32_of (by omega) (by omega)]
  simp only [Int.reduceEq, if_true, if_false]
theorem cs_47 {f : Nat} {l2 l3 l4 l5 : Int} {M : oM} (h0 : 0 ≤ l4) (h1 : l4 < l2) (h2 : l2 ≤ 240) (h5 : l5 < 240) (hs : M 19 l4 = 47) : p_L_reckoned_L8 f l2 (l3, l4, l5, M) = p_L_reckoned_B226_8 f l2 l3 (l4 + 1) l5 47 M := by
  unfold p_L_reckoned_L8
  simp only []
  rw [if_pos h5, if_neg (by omega), if_pos h1, if_pos (by omega), bnd_eq h0 (by omega), lt_eq, bnd_eq h0 (by omega), lt_eq, lt_eq, hs, w32_of (by omega) (by omega)]
  simp only [Int.reduceEq, if_true, if_false]
theorem cs_48 {f : Nat} {l2 l3 l4 l5 : Int} {M : oM} (h0 : 0 ≤ l4) (h1 : l4 < l2) (h2 : l2 ≤ 240) (h5 : l5 < 240) (hs : M 19 l4 = 48) : p_L_reckoned_L8 f l2 (l3, l4, l5, M) = p_L_reckoned_B70_8 f l2 l3 (l4 + 1) l5 48 (M 20 l4) M := by
  unfold p_L_reckoned_L8
  simp only []
  rw [if_pos h5, if_neg (by omega), if_pos h1, if_pos (by omega), bnd_eq h0 (by omega), lt_eq, bnd_eq h0 (by omega), lt_eq, lt_eq, hs, w32_of (by omega) (by omega)]
  simp only [Int.reduceEq, if_true, if_false]
theorem cs_60 {f : Nat} {l2 l3 l4 l5 : Int} {M : oM} (h0 : 0 ≤ l4) (h1 : l4 < l2) (h2 : l2 ≤ 240) (h5 : l5 < 240) (hs : M 19 l4 = 60) : p_L_reckoned_L8 f l2 (l3, l4, l5, M) = p_L_reckoned_B231_8 f l2 l3 (l4 + 1) l5 60 0 M := by
  unfold p_L_reckoned_L8
  simp only []
  rw [if_pos h5, if_neg (by omega), if_pos h1, if_pos (by omega), bnd_eq h0 (by omega), lt_eq, bnd_eq h0 (by omega), lt_eq, lt_eq, hs, w32_of (by omega) (by omega)]
  simp only [Int.reduceEq, if_true, if_false]
theorem cs_61 {f : Nat} {l2 l3 l4 l5 : Int} {M : oM} (h0 : 0 ≤ l4) (h1 : l4 < l2) (h2 : l2 ≤ 240) (h5 : l5 < 240) (hs : M 19 l4 = 61) : p_L_reckoned_L8 f l2 (l3, l4, l5, M) = p_L_reckoned_B231_8 f l2 l3 (l4 + 1) l5 61 0 M := by
  unfold p_L_reckoned_L8
  simp only []
  rw [if_pos h5, if_neg (by omega), if_pos h1, if_pos (by omega), bnd_eq h0 (by omega), lt_eq, bnd_eq h0 (by omega), lt_eq, lt_eq, hs, w32_of (by omega) (by omega)]
  simp only [Int.reduceEq, if_true, if_false]
theorem cs_62 {f : Nat} {l2 l3 l4 l5 : Int} {M : oM} (h0 : 0 ≤ l4) (h1 : l4 < l2) (h2 : l2 ≤ 240) (h5 : l5 < 240) (hs : M 19 l4 = 62) : p_L_reckoned_L8 f l2 (l3, l4, l5, M) = p_L_reckoned_B231_8 f l2 l3 (l4 + 1) l5 62 0 M := by
  unfold p_L_reckoned_L8
  simp only []
  rw [if_pos h5, if_neg (by omega), if_pos h1, if_pos (by omega), bnd_eq h0 (by omega), lt_eq, bnd_eq h0 (by omega), lt_eq, lt_eq, hs, w32_of (by omega) (by omega)]
  simp only [Int.reduceEq, if_true, if_false]
theorem cs_97 {f : Nat} {l2 l3 l4 l5 : Int} {M : oM} (h0 : 0 ≤ l4) (h1 : l4 < l2) (h2 : l2 ≤ 240) (h5 : l5 < 240) (hs : M 19 l4 = 97) : p_L_reckoned_L8 f l2 (l3, l4, l5, M) = p_L_reckoned_B70_8 f l2 l3 (l4 + 1) l5 97 (M 20 l4) M := by
  unfold p_L_reckoned_L8
  simp only []
  rw [if_pos h5, if_neg (by omega), if_pos h1, if_pos (by omega), bnd_eq h0 (by omega), lt_eq, bnd_eq h0 (by omega), lt_eq, lt_eq, hs, w32_of (by omega) (by omega)]
  simp only [Int.reduceEq, if_true, if_false]
theorem cs_124 {f : Nat} {l2 l3 l4 l5 : Int} {M : oM} (h0 : 0 ≤ l4) (h1 : l4 < l2) (h2 : l2 ≤ 240) (h5 : l5 < 240) (hs : M 19 l4 = 124) : p_L_reckoned_L8 f l2 (l3, l4, l5, M) = p_L_reckoned_B133_8 f l2 l3 (l4 + 1) l5 124 (M 20 l4) M := by
  unfold p_L_reckoned_L8
  simp only []
  rw [if_pos h5, if_neg (by omega), if_pos h1, if_pos (by omega), bnd_eq h0 (by omega), lt_eq, bnd_eq h0 (by omega), lt_eq, lt_eq, hs, w32_of (by omega) (by omega)]
  simp only [Int.reduceEq, if_true, if_false]
theorem rs_0 {f : Nat} {l2 n k v : Int} {M : oM} (h0 : 0 ≤ k) (h1 : k < l2) (h2 : l2 ≤ 240) (hd : w32 (Int.tdiv (M 70 k) 1048576) = 0) (hv : Int.tmod (M 70 k) 1048576 = v) : p_M_comesTo_L16 f l2 0 (n, k, M) = (p_M_comesTo_B63_16 f l2 n 0 (k + 1) 0 v M) := by
  unfold p_M_comesTo_L16
  simp only []
  rw [if_pos h1, bnd_eq h0 (by omega), nz_eq (by omega), lt_eq, bnd_eq h0 (by omega), nz_eq (by omega), lt_eq, lt_eq, hd, hv, w32_of (by omega) (by omega)]
  simp only [Int.reduceEq, if_true, if_false]
theorem rs_1 {f : Nat} {l2 n k v : Int} {M : oM} (h0 : 0 ≤ k) (h1 : k < l2) (h2 : l2 ≤ 240) (hd : w32 (Int.tdiv (M 70 k) 1048576) = 1) (hv : Int.tmod (M 70 k) 1048576 = v) : p_M_comesTo_L16 f l2 0 (n, k, M) = (p_M_comesTo_B63_16 f l2 n 0 (k + 1) 1 v M) := by
  unfold p_M_comesTo_L16
  simp only []
  rw [if_pos h1, bnd_eq h0 (by omega), nz_eq (by omega), lt_eq, bnd_eq h0 (by omega), nz_eq (by omega), lt_eq, lt_eq, hd, hv, w32_of (by omega) (by omega)]
  simp only [Int.reduceEq, if_true, if_false]
theorem rs_2 {f : Nat} {l2 n k v : Int} {M : oM} (h0 : 0 ≤ k) (h1 : k < l2) (h2 : l2 ≤ 240) (hd : w32 (Int.tdiv (M 70 k) 1048576) = 2) (hv : Int.tmod (M 70 k) 1048576 = v) : p_M_comesTo_L16 f l2 0 (n, k, M) = (lt (w32 (n - 1)) fun x22 => p_M_comesTo_B203_16 f l2 x22 0 (k + 1) 2 M) := by
  unfold p_M_comesTo_L16
  simp only []
  rw [if_pos h1, bnd_eq h0 (by omega), nz_eq (by omega), lt_eq, bnd_eq h0 (by omega), nz_eq (by omega), lt_eq, lt_eq, hd, hv, w32_of (by omega) (by omega)]
  simp only [Int.reduceEq, if_true, if_false]
theorem rs_3 {f : Nat} {l2 n k v : Int} {M : oM} (h0 : 0 ≤ k) (h1 : k < l2) (h2 : l2 ≤ 240) (hd : w32 (Int.tdiv (M 70 k) 1048576) = 3) (hv : Int.tmod (M 70 k) 1048576 = v) : p_M_comesTo_L16 f l2 0 (n, k, M) = (lt (w32 (n - 1)) fun x22 => p_M_comesTo_B203_16 f l2 x22 0 (k + 1) 3 M) := by
  unfold p_M_comesTo_L16
  simp only []
  rw [if_pos h1, bnd_eq h0 (by omega), nz_eq (by omega), lt_eq, bnd_eq h0 (by omega), nz_eq (by omega), lt_eq, lt_eq, hd, hv, w32_of (by omega) (by omega)]
  simp only [Int.reduceEq, if_true, if_false]
theorem rs_4 {f : Nat} {l2 n k v : Int} {M : oM} (h0 : 0 ≤ k) (h1 : k < l2) (h2 : l2 ≤ 240) (hd : w32 (Int.tdiv (M 70 k) 1048576) = 4) (hv : Int.tmod (M 70 k) 1048576 = v) : p_M_comesTo_L16 f l2 0 (n, k, M) = (lt (w32 (n - 1)) fun x22 => p_M_comesTo_B203_16 f l2 x22 0 (k + 1) 4 M) := by
  unfold p_M_comesTo_L16
  simp only []
  rw [if_pos h1, bnd_eq h0 (by omega), nz_eq (by omega), lt_eq, bnd_eq h0 (by omega), nz_eq (by omega), lt_eq, lt_eq, hd, hv, w32_of (by omega) (by omega)]
  simp only [Int.reduceEq, if_true, if_false]
theorem rs_5 {f : Nat} {l2 n k v : Int} {M : oM} (h0 : 0 ≤ k) (h1 : k < l2) (h2 : l2 ≤ 240) (hd : w32 (Int.tdiv (M 70 k) 1048576) = 5) (hv : Int.tmod (M 70 k) 1048576 = v) : p_M_comesTo_L16 f l2 0 (n, k, M) = (lt (w32 (n - 1)) fun x22 => p_M_comesTo_B192_16 f l2 x22 0 (k + 1) 5 M) := by
  unfold p_M_comesTo_L16
  simp only []
  rw [if_pos h1, bnd_eq h0 (by omega), nz_eq (by omega), lt_eq, bnd_eq h0 (by omega), nz_eq (by omega), lt_eq, lt_eq, hd, hv, w32_of (by omega) (by omega)]
  simp only [Int.reduceEq, if_true, if_false]
theorem rs_6 {f : Nat} {l2 n k v : Int} {M : oM} (h0 : 0 ≤ k) (h1 : k < l2) (h2 : l2 ≤ 240) (hd : w32 (Int.tdiv (M 70 k) 1048576) = 6) (hv : Int.tmod (M 70 k) 1048576 = v) : p_M_comesTo_L16 f l2 0 (n, k, M) = (lt (w32 (n - 1)) fun x22 => p_M_comesTo_B192_16 f l2 x22 0 (k + 1) 6 M) := by
  unfold p_M_comesTo_L16
  simp only []
  rw [if_pos h1, bnd_eq h0 (by omega), nz_eq (by omega), lt_eq, bnd_eq h0 (by omega), nz_eq (by omega), lt_eq, lt_eq, hd, hv, w32_of (by omega) (by omega)]
  simp only [Int.reduceEq, if_true, if_false]
theorem rs_7 {f : Nat} {l2 n k v : Int} {M : oM} (h0 : 0 ≤ k) (h1 : k < l2) (h2 : l2 ≤ 240) (hd : w32 (Int.tdiv (M 70 k) 1048576) = 7) (hv : Int.tmod (M 70 k) 1048576 = v) : p_M_comesTo_L16 f l2 0 (n, k, M) = (lt (w32 (n - 1)) fun x22 => p_M_comesTo_B203_16 f l2 x22 0 (k + 1) 7 M) := by
  unfold p_M_comesTo_L16
  simp only []
  rw [if_pos h1, bnd_eq h0 (by omega), nz_eq (by omega), lt_eq, bnd_eq h0 (by omega), nz_eq (by omega), lt_eq, lt_eq, hd, hv, w32_of (by omega) (by omega)]
  simp only [Int.reduceEq, if_true, if_false]
theorem rs_8 {f : Nat} {l2 n k v : Int} {M : oM} (h0 : 0 ≤ k) (h1 : k < l2) (h2 : l2 ≤ 240) (hd : w32 (Int.tdiv (M 70 k) 1048576) = 8) (hv : Int.tmod (M 70 k) 1048576 = v) : p_M_comesTo_L16 f l2 0 (n, k, M) = (lt (w32 (n - 1)) fun x22 => p_M_comesTo_B203_16 f l2 x22 0 (k + 1) 8 M) := by
  unfold p_M_comesTo_L16
  simp only []
  rw [if_pos h1, bnd_eq h0 (by omega), nz_eq (by omega), lt_eq, bnd_eq h0 (by omega), nz_eq (by omega), lt_eq, lt_eq, hd, hv, w32_of (by omega) (by omega)]
  simp only [Int.reduceEq, if_true, if_false]
theorem rs_9 {f : Nat} {l2 n k v : Int} {M : oM} (h0 : 0 ≤ k) (h1 : k < l2) (h2 : l2 ≤ 240) (hd : w32 (Int.tdiv (M 70 k) 1048576) = 9) (hv : Int.tmod (M 70 k) 1048576 = v) : p_M_comesTo_L16 f l2 0 (n, k, M) = (lt (w32 (n - 1)) fun x22 => p_M_comesTo_B203_16 f l2 x22 0 (k + 1) 9 M) := by
  unfold p_M_comesTo_L16
  simp only []
  rw [if_pos h1, bnd_eq h0 (by omega), nz_eq (by omega), lt_eq, bnd_eq h0 (by omega), nz_eq (by omega), lt_eq, lt_eq, hd, hv, w32_of (by omega) (by omega)]
  simp only [Int.reduceEq, if_true, if_false]
theorem rs_10 {f : Nat} {l2 n k v : Int} {M : oM} (h0 : 0 ≤ k) (h1 : k < l2) (h2 : l2 ≤ 240) (hd : w32 (Int.tdiv (M 70 k) 1048576) = 10) (hv : Int.tmod (M 70 k) 1048576 = v) : p_M_comesTo_L16 f l2 0 (n, k, M) = (bnd 260 (w32 (n - 1)) fun i23 => bnd 260 (w32 (n - 1)) fun i24 => lt (oU M 75 i24 (w32 (1 - (M 75 i23)))) fun M25 => p_M_comesTo_B230_16 f l2 n 0 (k + 1) M25) := by
  unfold p_M_comesTo_L16
  simp only []
  rw [if_pos h1, bnd_eq h0 (by omega), nz_eq (by omega), lt_eq, bnd_eq h0 (by omega), nz_eq (by omega), lt_eq, lt_eq, hd, hv, w32_of (by omega) (by omega)]
  simp only [Int.reduceEq, if_true, if_false]
theorem rs_11 {f : Nat} {l2 n k v : Int} {M : oM} (h0 : 0 ≤ k) (h1 : k < l2) (h2 : l2 ≤ 240) (hd : w32 (Int.tdiv (M 70 k) 1048576) = 11) (hv : Int.tmod (M 70 k) 1048576 = v) : p_M_comesTo_L16 f l2 0 (n, k, M) = (p_M_comesTo_B135_16 f l2 n 0 (k + 1) 11 v M) := by
  unfold p_M_comesTo_L16
  simp only []
  rw [if_pos h1, bnd_eq h0 (by omega), nz_eq (by omega), lt_eq, bnd_eq h0 (by omega), nz_eq (by omega), lt_eq, lt_eq, hd, hv, w32_of (by omega) (by omega)]
  simp only [Int.reduceEq, if_true, if_false]
theorem rs_12 {f : Nat} {l2 n k v : Int} {M : oM} (h0 : 0 ≤ k) (h1 : k < l2) (h2 : l2 ≤ 240) (hd : w32 (Int.tdiv (M 70 k) 1048576) = 12) (hv : Int.tmod (M 70 k) 1048576 = v) : p_M_comesTo_L16 f l2 0 (n, k, M) = (p_M_comesTo_B135_16 f l2 n 0 (k + 1) 12 v M) := by
  unfold p_M_comesTo_L16
  simp only []
  rw [if_pos h1, bnd_eq h0 (by omega), nz_eq (by omega), lt_eq, bnd_eq h0 (by omega), nz_eq (by omega), lt_eq, lt_eq, hd, hv, w32_of (by omega) (by omega)]
  simp only [Int.reduceEq, if_true, if_false]
def evI (a b : Int) (τ : Int → List Bool) (Mc Mr : oM) (n : Nat) (top p k : Int) (M M' : oM) : Prop :=
  (a ≤ p ∧ p ≤ b ∧ n = (b - p).toNat) ∧ top = ((τ p).length : Int) ∧ (0 ≤ k ∧ k ≤ p - a) ∧ eqo [(26, (-1))] Mc M ∧ eqo [(75, (-1))] Mr M' ∧ stk (M 26) (M' 75) (τ p)
def evR (a b : Int) (τ : Int → List Bool) (Mc Mr : oM) (n : Nat) (s : Int × Int × Int × oM) (s' : Int × Int × oM) : Prop :=
  ∃ top p k M M', s = (top, p, k, M) ∧ s' = (top, p, M') ∧ evI a b τ Mc Mr n top p k M M'
abbrev evY (t : Bool) (a b : Int) (τ : Int → List Bool) (Mc Mr : oM) (n : Nat) : (Int × Int × Int × oM) ⊕ (Int × oM) → (Int × Int × oM) ⊕ (Int × oM) → Prop :=
  psum2 (fun s s' => ∃ m, m < n ∧ evR a b τ Mc Mr m s s') (fun q q' => q.1 = q'.1 ∧ (t = true → q.1 = 0 ∨ q.1 = 1))
theorem ev_inl {t : Bool} {a b : Int} {τ : Int → List Bool} {Mc Mr : oM} {n m : Nat} {top p k : Int} {M M' : oM} (hm : m < n) (h : evI a b τ Mc Mr m top p k M M') : evY t a b τ Mc Mr n (.inl (top, p, k, M)) (.inl (top, p, M')) :=
  ⟨m, hm, top, p, k, M, M', rfl, rfl, h⟩
section EV
variable {t : Bool} {f n : Nat} {a b top p k : Int} {τ : Int → List Bool} {Mc Mr M M' : oM}
theorem ev_push {v : Int} (hI : evI a b τ Mc Mr n top p k M M') (h0 : 0 ≤ a) (hb : b ≤ 240) (hp : p < b) (hl : (τ p).length ≤ 60) (ht : τ (p + 1) = false :: τ p) :
    okp (p_L_reckoned_B105_8 f b top (p + 1) k top v M) (fun y => okp (p_M_comesTo_B85_16 f b top 0 (p + 1) top v M') (fun y' => evY t a b τ Mc Mr n y y')) := by
  obtain ⟨⟨i1, i2, i3⟩, j2, ⟨i4, i5⟩, e1, e2, j4⟩ := hI
  unfold p_L_reckoned_B105_8 p_M_comesTo_B85_16 p_L_reckoned_B286_8 p_M_comesTo_B230_16
  rw [bnd_eq (by omega) (by omega), lt_eq, lt_eq, lt_eq, bnd_eq (by omega) (by omega), lt_eq, lt_eq, w32_of (a := top + 1) (by omega) (by omega), w32_of (a := k + 1) (by omega) (by omega)]
  refine ev_inl (t := t) (m := (b - (p + 1)).toNat) (by omega) ⟨⟨by omega, by omega, rfl⟩, ?_, ⟨by omega, by omega⟩, eqo_oUa (.head _) e1, eqo_oUa (.head _) e2, ?_⟩
  · rw [ht, List.length_cons]; omega
  · rw [ht, oU_sD, oU_sD]; exact stk_push j4 j2 (fun z => by cases z)
theorem ev_join {s : Int} {σ : List Bool} {t' : Bool} (hI : evI a b τ Mc Mr n top p k M M') (h0 : 0 ≤ a) (hb : b ≤ 240) (hp : p < b) (hl : (τ p).length ≤ 60) (ht : τ p = false :: false :: σ) (ht' : τ (p + 1) = t' :: σ)
    (hs : s = 43 ∨ s = 45 ∨ s = 42 ∨ s = 60 ∨ s = 62 ∨ s = 61 ∨ ((s = 47 ∨ s = 37) ∧ M 26 (top - 1) ≠ 0)) (hc : t' = true → s = 60 ∨ s = 62 ∨ s = 61) :
    okp (p_L_reckoned_B256_8 f b top (p + 1) k s M) (fun y => okp (p_M_comesTo_B203_16 f b (top - 1) 0 (p + 1) (opn s) M') (fun y' => evY t a b τ Mc Mr n y y')) := by
  obtain ⟨⟨i1, i2, i3⟩, j2, ⟨i4, i5⟩, e1, e2, j4⟩ := hI
  rw [ht] at j2 j4 hl
  simp only [List.length_cons] at j2 hl
  obtain ⟨k1, k2, k3, k4, k5⟩ := j4
  rw [List.length_cons, show ((σ.length + 1 : Nat) : Int) = top - 1 from by clear hs hc; omega] at k1
  rw [show (σ.length : Int) = top - 1 - 1 from by clear hs hc; omega] at k3
  obtain ⟨r, r1, r2, r3⟩ := joined_reckon (f := f) (s := s) (x := M 26 (top - 1 - 1)) (y := M 26 (top - 1)) (M := M) (M' := M') hs
  clear hs
  unfold p_L_reckoned_B256_8 p_M_comesTo_B203_16 p_L_reckoned_B286_8 p_M_comesTo_B230_16
  rw [w32_of (a := top + (-1)) (by omega) (by omega), show top + (-1) = top - 1 from by omega, lt_eq, w32_of (a := top - 1 - 1) (by omega) (by omega), bnd_eq (by omega) (by omega), bnd_eq (by omega) (by omega), r1]
  simp only [Option.bind_some]
  rw [bnd_eq (by omega) (by omega), lt_eq, lt_eq, w32_of (a := k + 1) (by omega) (by omega), bnd_eq (by omega) (by omega), bnd_eq (by omega) (by omega), ← k3, ← k1, r2]
  simp only [Option.bind_some]
  rw [bnd_eq (by omega) (by omega), lt_eq]
  refine ev_inl (t := t) (m := (b - (p + 1)).toNat) (by omega) ⟨⟨by omega, by omega, rfl⟩, ?_, ⟨by omega, by omega⟩, eqo_oUa (.head _) e1, eqo_oUa (.head _) e2, ?_⟩
  · rw [ht', List.length_cons]; omega
  · rw [ht', oU_sD, oU_sD]
    exact stk_push k5 (by omega) (fun z => r3 (hc z))
theorem ev_not {σ : List Bool} (hI : evI a b τ Mc Mr n top p k M M') (h0 : 0 ≤ a) (hb : b ≤ 240) (hp : p < b) (hl : (τ p).length ≤ 60) (ht : τ p = true :: σ) (ht' : τ (p + 1) = true :: σ) :
    okp (p_L_reckoned_B133_8 f b top (p + 1) k 33 (M 20 p) M) (fun y => okp (bnd 260 (w32 (top - 1)) fun i23 => bnd 260 (w32 (top - 1)) fun i24 => lt (oU M' 75 i24 (w32 (1 - (M' 75 i23)))) fun M25 => p_M_comesTo_B230_16 f b top 0 (p + 1) M25) (fun y' => evY t a b τ Mc Mr n y y')) := by
  obtain ⟨⟨i1, i2, i3⟩, j2, ⟨i4, i5⟩, e1, e2, j4⟩ := hI
  rw [ht] at j2 j4 hl
  simp only [List.length_cons] at j2 hl
  obtain ⟨k1, k2, k3⟩ := j4
  rw [show (σ.length : Int) = top - 1 from by omega] at k1 k2
  have k2' := k2 rfl
  unfold p_L_reckoned_B133_8 p_L_reckoned_B286_8 p_M_comesTo_B230_16
  rw [if_neg (by omega), if_pos rfl, w32_of (a := top - 1) (by omega) (by omega), bnd_eq (by omega) (by omega), bnd_eq (by omega) (by omega), bnd_eq (by omega) (by omega), bnd_eq (by omega) (by omega), lt_eq, lt_eq, lt_eq, ← k1, w32_of (a := 1 - M 26 (top - 1)) (by omega) (by omega), w32_of (a := k + 1) (by omega) (by omega)]
  refine ev_inl (t := t) (m := (b - (p + 1)).toNat) (by omega) ⟨⟨by omega, by omega, rfl⟩, ?_, ⟨by omega, by omega⟩, eqo_oUa (.head _) e1, eqo_oUa (.head _) e2, ?_⟩
  · rw [ht', List.length_cons]; omega
  · rw [ht', oU_sD, oU_sD]
    exact stk_push k3 (by omega) (fun _ => by omega)
theorem ev_jump {s o w d : Int} {σ : List Bool} (hI : evI a b τ Mc Mr n top p k M M') (h0 : 0 ≤ a) (hb : b ≤ 240) (hp : p < b) (hl : (τ p).length ≤ 60) (ht : τ p = true :: σ) (ht' : τ (p + 1) = σ) (hd1 : p < d) (hd2 : d ≤ b) (hd3 : τ d = true :: σ) (hso : (s = 38 ∧ o = 11 ∧ w = 0) ∨ (s = 124 ∧ o = 12 ∧ w = 1)) :
    okp (p_L_reckoned_B133_8 f b top (p + 1) k s d M) (fun y => okp (p_M_comesTo_B135_16 f b top 0 (p + 1) o d M') (fun y' => evY t a b τ Mc Mr n y y')) := by
  have hI' := hI
  obtain ⟨⟨i1, i2, i3⟩, j2, ⟨i4, i5⟩, e1, e2, j4⟩ := hI
  have j4' := j4
  rw [ht] at j2 j4 hl
  simp only [List.length_cons] at j2 hl
  obtain ⟨k1, k2, k3⟩ := j4
  rw [show (σ.length : Int) = top - 1 from by clear hso; omega] at k1 k2
  have k2' := k2 rfl
  have w0 : w32 (0 + d) = d := by rw [Int.zero_add]; exact w32_of (by omega) (by omega)
  have yes : evY t a b τ Mc Mr n (.inl (top, d, k + 1, M)) (.inl (top, d, M')) := by
    refine ev_inl (t := t) (m := (b - d).toNat) (by omega) ⟨⟨by omega, by omega, rfl⟩, ?_, ⟨by omega, by omega⟩, e1, e2, ?_⟩
    · rw [hd3, List.length_cons]; omega
    · rw [hd3, ← ht]; exact j4'
  have no : evY t a b τ Mc Mr n (.inl (top - 1, p + 1, k + 1, M)) (.inl (top - 1, p + 1, M')) := by
    refine ev_inl (t := t) (m := (b - (p + 1)).toNat) (by omega) ⟨⟨by omega, by omega, rfl⟩, ?_, ⟨by omega, by omega⟩, e1, e2, ?_⟩
    · rw [ht']; omega
    · rw [ht']; exact k3
  unfold p_L_reckoned_B133_8 p_M_comesTo_B135_16 p_L_reckoned_B184_8 p_L_reckoned_B196_8 p_L_reckoned_B286_8 p_M_comesTo_B155_16 p_M_comesTo_B230_16
  have ek : w32 (k + 1) = k + 1 := w32_of (by omega) (by omega)
  have et : w32 (top - 1) = top - 1 := w32_of (by omega) (by omega)
  have et' : w32 (top + (-1)) = top - 1 := w32_of (by omega) (by omega)
  have g1 : 0 ≤ top - 1 := by omega
  have g2 : top - 1 < 64 := by omega
  have g3 : top - 1 < 260 := by omega
  have g4 : ¬ top < 1 := by omega
  simp only [lt_eq, ek, et, et', w0, bnd_eq g1 g2, bnd_eq g1 g3, if_neg g4, ← k1]
  rcases hso with ⟨rfl, rfl, rfl⟩ | ⟨rfl, rfl, rfl⟩
  · simp only [Int.reduceEq, if_false, if_true]
    rcases k2' with q | q
    · rw [if_pos q, if_pos q]; exact yes
    · rw [if_neg (by omega), if_neg (by omega)]; exact no
  · simp only [Int.reduceEq, if_false, if_true]
    rcases k2' with q | q
    · rw [if_pos q, if_neg (by omega)]; exact no
    · rw [if_neg (by omega), if_pos q]; exact yes
end EV
theorem reck {f : Nat} {a b : Int} {t : Bool} {Mc Mr : oM} (hf : 1000 < f) (h0 : 0 ≤ a) (h1 : b ≤ 240) (hs : Sg (Mc 19) (Mc 20) a b [] [t]) (hcode : codeR Mc Mr a b) (hfac : ∀ j : Int, 0 ≤ j → j < 8 → Mc 25 j = Mr 76 j) :
    okp (p_L_reckoned f a b Mc) (fun q => okp (p_M_comesTo f a b Mr) (fun q' => q.1 = q'.1 ∧ (t = true → q.1 = 0 ∨ q.1 = 1))) := by
  obtain ⟨hab, τ, t0, t1, hτ⟩ := hs
  unfold p_L_reckoned p_M_comesTo
  have hbase : w32 (260 * w32 (Int.tdiv a 260)) = 0 := by
    rw [Int.tdiv_eq_zero_of_lt h0 (by omega)]; rfl
  rw [nz_eq (by omega), lt_eq, hbase]
  refine iter2_ok (evR a b τ Mc Mr) ?_ (b - a).toNat f f (by omega) (by omega) ⟨0, a, 0, Mc, Mr, rfl, rfl, ⟨by omega, hab, rfl⟩, by rw [t0]; rfl, ⟨by omega, by omega⟩, eqo_rfl _ _, eqo_rfl _ _, by rw [t0]; trivial⟩
  intro n s s' hR
  obtain ⟨top, p, k, M, M', rfl, rfl, hI⟩ := hR
  have hI' := hI
  obtain ⟨⟨i1, i2, i3⟩, j2, ⟨i4, i5⟩, e1, e2, j4⟩ := hI'
  have p0 : 0 ≤ p := by omega
  by_cases hend : p < b
  · obtain ⟨hl, hop, s1, s2, s3, s4, s5, s6⟩ := hτ p i1 hend
    obtain ⟨hd, hc⟩ := hcode p i1 hend
    have k240 : k < 240 := by clear hop; omega
    have e19 : M 19 p = Mc 19 p := e1 19 p rfl
    have e20 : M 20 p = Mc 20 p := e1 20 p rfl
    have e70 : M' 70 p = 1048576 * opn (Mc 19 p) + Mc 20 p := (e2 70 p rfl).trans hc
    obtain ⟨d1, d2⟩ := code_dec (opn_bd (Mc 19 p)) hd
    rcases hop with h | h | h | h | h | h | h | h | h | h | h | h | h
    · rw [cs_48 p0 hend h1 k240 (e19.trans h), rs_0 p0 hend h1 (by rw [e70, d1, h]; rfl) rfl, e20, e70, d2]
      unfold p_L_reckoned_B70_8 p_M_comesTo_B63_16
      rw [if_pos (by omega), if_pos rfl, if_pos rfl]
      exact ev_push hI h0 h1 hend hl (s1 h)
    · rw [cs_97 p0 hend h1 k240 (e19.trans h), rs_1 p0 hend h1 (by rw [e70, d1, h]; rfl) rfl, e20, e70, d2]
      obtain ⟨z1, z2, z3⟩ := s2 h
      have hi : iand (Mc 20 p) 7 = Mc 20 p := by
        have := iand7 (Mc 20 p).toNat (by omega)
        rw [show (((Mc 20 p).toNat : Nat) : Int) = Mc 20 p from by omega] at this
        exact this
      have hv : M 25 (Mc 20 p) = M' 76 (Mc 20 p) := (e1 25 _ rfl).trans ((hfac _ z1 z2).trans (e2 76 _ rfl).symm)
      unfold p_L_reckoned_B70_8 p_M_comesTo_B63_16
      rw [if_pos (by omega), if_neg (by omega), if_neg (by omega), hi, bnd_eq z1 z2, bnd_eq z1 z2, hv]
      exact ev_push hI h0 h1 hend hl z3
    · rw [cs_43 p0 hend h1 k240 (e19.trans h), rs_2 p0 hend h1 (by rw [e70, d1, h]; rfl) rfl]
      obtain ⟨σ, t2, t3⟩ := s5 (by omega)
      have ht2 : ((τ p).length : Int) = (σ.length : Int) + 2 := by rw [t2]; simp only [List.length_cons]; omega
      unfold p_L_reckoned_B231_8
      rw [if_neg (by omega), if_pos rfl, lt_eq, w32_of (a := top - 1) (by omega) (by omega)]
      exact ev_join (s := 43) hI h0 h1 hend hl t2 t3 (by simp) (fun z => by cases z)
    · rw [cs_45 p0 hend h1 k240 (e19.trans h), rs_3 p0 hend h1 (by rw [e70, d1, h]; rfl) rfl]
      obtain ⟨σ, t2, t3⟩ := s5 (by omega)
      have ht2 : ((τ p).length : Int) = (σ.length : Int) + 2 := by rw [t2]; simp only [List.length_cons]; omega
      unfold p_L_reckoned_B231_8
      rw [if_neg (by omega), if_pos rfl, lt_eq, w32_of (a := top - 1) (by omega) (by omega)]
      exact ev_join (s := 45) hI h0 h1 hend hl t2 t3 (by simp) (fun z => by cases z)
    · rw [cs_42 p0 hend h1 k240 (e19.trans h), rs_4 p0 hend h1 (by rw [e70, d1, h]; rfl) rfl]
      obtain ⟨σ, t2, t3⟩ := s5 (by omega)
      have ht2 : ((τ p).length : Int) = (σ.length : Int) + 2 := by rw [t2]; simp only [List.length_cons]; omega
      unfold p_L_reckoned_B231_8
      rw [if_neg (by omega), if_pos rfl, lt_eq, w32_of (a := top - 1) (by omega) (by omega)]
      exact ev_join (s := 42) hI h0 h1 hend hl t2 t3 (by simp) (fun z => by cases z)
    · rw [cs_47 p0 hend h1 k240 (e19.trans h), rs_5 p0 hend h1 (by rw [e70, d1, h]; rfl) rfl]
      obtain ⟨σ, t2, t3⟩ := s5 (by omega)
      have ht2 : ((τ p).length : Int) = (σ.length : Int) + 2 := by rw [t2]; simp only [List.length_cons]; omega
      have h4 : M 26 (top - 1) = M' 75 (top - 1) := by
        have := hI.2.2.2.2.2
        rw [t2] at this
        have := this.1
        rw [List.length_cons, show ((σ.length + 1 : Nat) : Int) = top - 1 from by omega] at this
        exact this
      unfold p_L_reckoned_B226_8 p_L_reckoned_B231_8 p_M_comesTo_B192_16
      rw [if_neg (by omega), if_neg (by omega), lt_eq, w32_of (a := top - 1) (by omega) (by omega), bnd_eq (by omega) (by omega), bnd_eq (by omega) (by omega), ← h4]
      by_cases hz : M 26 (top - 1) = 0
      · rw [if_pos hz, if_pos hz]
        exact ⟨rfl, fun _ => .inl rfl⟩
      · rw [if_neg hz, if_neg hz]
        exact ev_join (s := 47) hI h0 h1 hend hl t2 t3 (by simp [hz]) (fun z => by cases z)
    · rw [cs_37 p0 hend h1 k240 (e19.trans h), rs_6 p0 hend h1 (by rw [e70, d1, h]; rfl) rfl]
      obtain ⟨σ, t2, t3⟩ := s5 (by omega)
      have ht2 : ((τ p).length : Int) = (σ.length : Int) + 2 := by rw [t2]; simp only [List.length_cons]; omega
      have h4 : M 26 (top - 1) = M' 75 (top - 1) := by
        have := hI.2.2.2.2.2
        rw [t2] at this
        have := this.1
        rw [List.length_cons, show ((σ.length + 1 : Nat) : Int) = top - 1 from by omega] at this
        exact this
      unfold p_L_reckoned_B226_8 p_L_reckoned_B231_8 p_M_comesTo_B192_16
      rw [if_neg (by omega), if_neg (by omega), lt_eq, w32_of (a := top - 1) (by omega) (by omega), bnd_eq (by omega) (by omega), bnd_eq (by omega) (by omega), ← h4]
      by_cases hz : M 26 (top - 1) = 0
      · rw [if_pos hz, if_pos hz]
        exact ⟨rfl, fun _ => .inl rfl⟩
      · rw [if_neg hz, if_neg hz]
        exact ev_join (s := 37) hI h0 h1 hend hl t2 t3 (by simp [hz]) (fun z => by cases z)
    · rw [cs_60 p0 hend h1 k240 (e19.trans h), rs_7 p0 hend h1 (by rw [e70, d1, h]; rfl) rfl]
      obtain ⟨σ, t2, t3⟩ := s6 (by omega)
      have ht2 : ((τ p).length : Int) = (σ.length : Int) + 2 := by rw [t2]; simp only [List.length_cons]; omega
      unfold p_L_reckoned_B231_8
      rw [if_neg (by omega), if_pos rfl, lt_eq, w32_of (a := top - 1) (by omega) (by omega)]
      exact ev_join (s := 60) hI h0 h1 hend hl t2 t3 (by simp) (fun _ => by simp)
    · rw [cs_62 p0 hend h1 k240 (e19.trans h), rs_8 p0 hend h1 (by rw [e70, d1, h]; rfl) rfl]
      obtain ⟨σ, t2, t3⟩ := s6 (by omega)
      have ht2 : ((τ p).length : Int) = (σ.length : Int) + 2 := by rw [t2]; simp only [List.length_cons]; omega
      unfold p_L_reckoned_B231_8
      rw [if_neg (by omega), if_pos rfl, lt_eq, w32_of (a := top - 1) (by omega) (by omega)]
      exact ev_join (s := 62) hI h0 h1 hend hl t2 t3 (by simp) (fun _ => by simp)
    · rw [cs_61 p0 hend h1 k240 (e19.trans h), rs_9 p0 hend h1 (by rw [e70, d1, h]; rfl) rfl]
      obtain ⟨σ, t2, t3⟩ := s6 (by omega)
      have ht2 : ((τ p).length : Int) = (σ.length : Int) + 2 := by rw [t2]; simp only [List.length_cons]; omega
      unfold p_L_reckoned_B231_8
      rw [if_neg (by omega), if_pos rfl, lt_eq, w32_of (a := top - 1) (by omega) (by omega)]
      exact ev_join (s := 61) hI h0 h1 hend hl t2 t3 (by simp) (fun _ => by simp)
    · rw [cs_33 p0 hend h1 k240 (e19.trans h), rs_10 p0 hend h1 (by rw [e70, d1, h]; rfl) rfl]
      obtain ⟨σ, t2, t3⟩ := s3 h
      exact ev_not hI h0 h1 hend hl t2 t3
    · rw [cs_38 p0 hend h1 k240 (e19.trans h), rs_11 p0 hend h1 (by rw [e70, d1, h]; rfl) rfl, e20, e70, d2]
      obtain ⟨σ, t2, t3, t4, t5, t6⟩ := s4 (by omega)
      exact ev_jump (w := 0) hI h0 h1 hend hl t2 t3 t4 t5 t6 (by simp)
    · rw [cs_124 p0 hend h1 k240 (e19.trans h), rs_12 p0 hend h1 (by rw [e70, d1, h]; rfl) rfl, e20, e70, d2]
      obtain ⟨σ, t2, t3, t4, t5, t6⟩ := s4 (by omega)
      exact ev_jump (w := 1) hI h0 h1 hend hl t2 t3 t4 t5 t6 (by simp)
  · have hb : p = b := by omega
    subst hb
    rw [t1] at j2 j4
    simp only [List.length_cons, List.length_nil] at j2
    obtain ⟨k1, k2, -⟩ := j4
    simp only [List.length_nil] at k1 k2
    unfold p_L_reckoned_L8 p_M_comesTo_L16 p_L_reckoned_B292_8
    simp only []
    rw [if_neg (Int.lt_irrefl p), if_neg (Int.lt_irrefl p), ite_self, ite_self, if_pos (by omega), bnd_eq (by omega) (by omega), bnd_eq (by omega) (by omega)]
    exact ⟨k1, k2⟩
