/-! the longest row, and of like ones the least: pure mathematics -/
def lngK (F : (Nat → Nat → Nat) → Nat → Nat) (g : Nat → Nat → Nat) (s q : Nat) : Nat := if 0 < g s q then 1 + F (decg g s q) q else 0
def lng : Nat → (Nat → Nat → Nat) → Nat → Nat
  | 0, _, _ => 0
  | n + 1, g, s => mxN (lngK (lng n) g s) 10
def lk (n : Nat) (g : Nat → Nat → Nat) (s k : Nat) : Nat := mxN (lngK (lng n) g s) k
def gk (n : Nat) (G : (Nat → Nat → Nat) → Nat → List Nat) (g : Nat → Nat → Nat) (s : Nat) : Nat → List Nat
  | 0 => []
  | k + 1 => if lk n g s k < lngK (lng n) g s k then k :: G (decg g s k) k else gk n G g s k
def gre : Nat → (Nat → Nat → Nat) → Nat → List Nat
  | 0, _, _ => []
  | n + 1, g, s => gk n (gre n) g s 10
theorem lng_succ (n : Nat) (g : Nat → Nat → Nat) (s : Nat) : lng (n + 1) g s = lk n g s 10 := rfl
theorem decg_congr {g g' : Nat → Nat → Nat} {s q : Nat} (h : ∀ a b, a < 10 → b < 10 → g a b = g' a b) : ∀ a b, a < 10 → b < 10 → decg g s q a b = decg g' s q a b := fun a b ha hb => by unfold decg; rw [h a b ha hb]
theorem lng_congr : ∀ (n : Nat) {g g' : Nat → Nat → Nat} {s : Nat}, s < 10 → (∀ a b, a < 10 → b < 10 → g a b = g' a b) → lng n g s = lng n g' s := by
  intro n
  induction n with
  | zero => intros; rfl
  | succ n ih =>
    intro g g' s hs h
    refine mxN_congr 10 fun q hq => ?_
    unfold lngK
    rw [h s q hs hq, ih hq (decg_congr h)]
theorem lngK_congr {n : Nat} {g g' : Nat → Nat → Nat} {s q : Nat} (hs : s < 10) (hq : q < 10) (h : ∀ a b, a < 10 → b < 10 → g a b = g' a b) : lngK (lng n) g s q = lngK (lng n) g' s q := by
  unfold lngK
  rw [h s q hs hq, lng_congr n hq (decg_congr h)]
theorem lng_le : ∀ (n : Nat) (g : Nat → Nat → Nat) (s : Nat), lng n g s ≤ n := by
  intro n
  induction n with
  | zero => intro g s; exact Nat.le_refl _
  | succ n ih =>
    intro g s
    refine mxN_le 10 fun q _ => ?_
    unfold lngK
    have := ih (decg g s q) q
    split <;> omega
theorem lng_stab : ∀ (n m : Nat) (g : Nat → Nat → Nat) (s : Nat), s < 10 → totg g ≤ n → totg g ≤ m → lng n g s = lng m g s := by
  intro n
  induction n with
  | zero =>
    intro m g s hs h _
    have hz := tot_zero (Nat.le_zero.1 h)
    cases m with
    | zero => rfl
    | succ m =>
      refine (Nat.le_zero.1 (mxN_le 10 fun q hq => ?_)).symm
      unfold lngK
      rw [hz s q hs hq]; exact Nat.le_refl _
  | succ n ih =>
    intro m g s hs h h'
    cases m with
    | zero =>
      have hz := tot_zero (Nat.le_zero.1 h')
      refine Nat.le_zero.1 (mxN_le 10 fun q hq => ?_)
      unfold lngK
      rw [hz s q hs hq]; exact Nat.le_refl _
    | succ m =>
      refine mxN_congr 10 fun q hq => ?_
      unfold lngK
      by_cases hg : 0 < g s q
      · have := decg_tot hs hq hg
        rw [if_pos hg, if_pos hg, ih m (decg g s q) q hq (by omega) (by omega)]
      · rw [if_neg hg, if_neg hg]
theorem gk_pick (n : Nat) (g : Nat → Nat → Nat) (s : Nat) (G : (Nat → Nat → Nat) → Nat → List Nat) : ∀ k, (lk n g s k = 0 ∧ gk n G g s k = []) ∨ ∃ q, q < k ∧ gk n G g s k = q :: G (decg g s q) q ∧ 0 < g s q ∧ lngK (lng n) g s q = lk n g s k ∧ ∀ q', q' < q → lngK (lng n) g s q' < lk n g s k := by
  intro k
  induction k with
  | zero => exact .inl ⟨rfl, rfl⟩
  | succ k ih =>
    have e : lk n g s (k + 1) = max (lk n g s k) (lngK (lng n) g s k) := rfl
    unfold gk
    by_cases h : lk n g s k < lngK (lng n) g s k
    · right
      rw [if_pos h, e, Nat.max_eq_right (by omega)]
      refine ⟨k, by omega, rfl, ?_, rfl, fun q' hq' => ?_⟩
      · unfold lngK at h
        by_cases q : 0 < g s k
        · exact q
        · rw [if_neg q] at h; omega
      · have : lngK (lng n) g s q' ≤ lk n g s k := le_mxN k q' hq'
        omega
    · rw [if_neg h, e, Nat.max_eq_left (by omega)]
      rcases ih with ih | ⟨q, h1, h2⟩
      · exact .inl ih
      · exact .inr ⟨q, by omega, h2⟩
theorem gre_pick (n : Nat) (g : Nat → Nat → Nat) (s : Nat) : (lng (n + 1) g s = 0 ∧ gre (n + 1) g s = []) ∨ ∃ q, q < 10 ∧ gre (n + 1) g s = q :: gre n (decg g s q) q ∧ 0 < g s q ∧ lngK (lng n) g s q = lng (n + 1) g s ∧ ∀ q', q' < q → lngK (lng n) g s q' < lng (n + 1) g s := gk_pick n g s (gre n) 10
theorem gre_len : ∀ (n : Nat) (g : Nat → Nat → Nat) (s : Nat), (gre n g s).length = lng n g s := by
  intro n
  induction n with
  | zero => intros; rfl
  | succ n ih =>
    intro g s
    rcases gre_pick n g s with ⟨h1, h2⟩ | ⟨q, h1, h2, h3, h4, _⟩
    · rw [h1, h2]; rfl
    · rw [h2, ← h4]
      unfold lngK
      rw [if_pos h3, List.length_cons, ih]; omega
theorem gk_len (n : Nat) (g : Nat → Nat → Nat) (s k : Nat) : (gk n (gre n) g s k).length = lk n g s k := by
  rcases gk_pick n g s (gre n) k with ⟨h1, h2⟩ | ⟨q, h1, h2, h3, h4, _⟩
  · rw [h1, h2]; rfl
  · rw [h2, ← h4]
    unfold lngK
    rw [if_pos h3, List.length_cons, gre_len]; omega
theorem gre_lt : ∀ (n : Nat) (g : Nat → Nat → Nat) (s : Nat), ∀ x ∈ gre n g s, x < 10 := by
  intro n
  induction n with
  | zero => intro g s x hx; cases hx
  | succ n ih =>
    intro g s x hx
    rcases gre_pick n g s with ⟨h1, h2⟩ | ⟨q, h1, h2, _⟩
    · rw [h2] at hx; cases hx
    · rw [h2] at hx
      rcases List.mem_cons.1 hx with h | h
      · omega
      · exact ih _ _ x h
