/-! walks along debts: pieces, cuts, pigeons; the reference's table of ways as a function -/
def WF (E : Nat → Nat → Prop) (v : Nat → Nat) (n a b : Nat) : Prop := v 0 = a ∧ v n = b ∧ ∀ i, i < n → v i < 10 ∧ v (i + 1) < 10 ∧ E (v i) (v (i + 1))
def wlen (w : Nat → Nat → Int) (v : Nat → Nat) (n : Nat) : Int := sumN (fun i => w (v i) (v (i + 1))) n
def catv (v1 : Nat → Nat) (n1 : Nat) (v2 : Nat → Nat) : Nat → Nat := fun i => if i < n1 then v1 i else v2 (i - n1)
theorem cat_l {v1 v2 : Nat → Nat} {n1 i : Nat} (h : v1 n1 = v2 0) (hi : i ≤ n1) : catv v1 n1 v2 i = v1 i := by
  unfold catv
  by_cases q : i < n1
  · rw [if_pos q]
  · rw [if_neg q]
    have e : i = n1 := Nat.le_antisymm hi (Nat.le_of_not_lt q)
    rw [e, Nat.sub_self, h]
theorem cat_r {v1 v2 : Nat → Nat} {n1 k : Nat} : catv v1 n1 v2 (n1 + k) = v2 k := by
  unfold catv
  rw [if_neg (Nat.not_lt.mpr (Nat.le_add_right _ _)), Nat.add_sub_cancel_left]
theorem cat_WF {E : Nat → Nat → Prop} {v1 v2 : Nat → Nat} {n1 n2 a b c : Nat} (h1 : WF E v1 n1 a b) (h2 : WF E v2 n2 b c) : WF E (catv v1 n1 v2) (n1 + n2) a c := by
  have e : v1 n1 = v2 0 := h1.2.1.trans h2.1.symm
  refine ⟨(cat_l e (Nat.zero_le _)).trans h1.1, cat_r.trans h2.2.1, fun i hi => ?_⟩
  by_cases q : i < n1
  · rw [cat_l e (Nat.le_of_lt q), cat_l e q]
    exact h1.2.2 i q
  · obtain ⟨k, rfl⟩ : ∃ k, i = n1 + k := ⟨i - n1, by omega⟩
    rw [Nat.add_assoc, cat_r, cat_r]
    exact h2.2.2 k (by omega)
theorem cat_len {w : Nat → Nat → Int} {v1 v2 : Nat → Nat} {n1 n2 : Nat} (e : v1 n1 = v2 0) : wlen w (catv v1 n1 v2) (n1 + n2) = wlen w v1 n1 + wlen w v2 n2 := by
  unfold wlen
  rw [sumN_add]
  congr 1
  · refine sumN_congr _ fun i hi => ?_
    rw [cat_l e (Nat.le_of_lt hi), cat_l e hi]
  · refine sumN_congr _ fun k hk => ?_
    rw [Nat.add_assoc, cat_r, cat_r]
theorem pigeon : ∀ (m : Nat) (f : Nat → Nat), (∀ i, i ≤ m → f i < m) → ∃ i j, i < j ∧ j ≤ m ∧ f i = f j := by
  intro m
  induction m with
  | zero => intro f h; exact absurd (h 0 (Nat.le_refl 0)) (Nat.not_lt_zero _)
  | succ m ih =>
    intro f h
    by_cases hx : ∃ i, i ≤ m ∧ f i = f (m + 1)
    · obtain ⟨i, hi, e⟩ := hx
      exact ⟨i, m + 1, Nat.lt_succ_of_le hi, Nat.le_refl _, e⟩
    · have hne : ∀ i, i ≤ m → f i ≠ f (m + 1) := fun i hi e => hx ⟨i, hi, e⟩
      have hg : ∀ i, i ≤ m → (fun i => if f (m + 1) < f i then f i - 1 else f i) i < m := by
        intro i hi
        have h1 := hne i hi
        have h2 := h i (Nat.le_succ_of_le hi)
        have h3 := h (m + 1) (Nat.le_refl _)
        show (if f (m + 1) < f i then f i - 1 else f i) < m
        split <;> omega
      obtain ⟨i, j, hij, hj, e⟩ := ih _ hg
      have h1 := hne i (by omega)
      have h2 := hne j hj
      have e' : (if f (m + 1) < f i then f i - 1 else f i) = (if f (m + 1) < f j then f j - 1 else f j) := e
      refine ⟨i, j, hij, Nat.le_succ_of_le hj, ?_⟩
      by_cases q1 : f (m + 1) < f i
      · rw [if_pos q1] at e'
        by_cases q2 : f (m + 1) < f j
        · rw [if_pos q2] at e'; omega
        · rw [if_neg q2] at e'; omega
      · rw [if_neg q1] at e'
        by_cases q2 : f (m + 1) < f j
        · rw [if_pos q2] at e'; omega
        · rw [if_neg q2] at e'; omega
theorem sumN_nn {g : Nat → Int} (n : Nat) (h : ∀ k, k < n → 0 ≤ g k) : 0 ≤ sumN g n := by
  induction n with
  | zero => exact Int.le_refl _
  | succ n ih => exact Int.add_nonneg (ih fun k hk => h k (Nat.lt_succ_of_lt hk)) (h n (Nat.lt_succ_self n))
theorem wcut {E : Nat → Nat → Prop} {w : Nat → Nat → Int} (hw : ∀ a b, a < 10 → b < 10 → 0 ≤ w a b) {v : Nat → Nat} {p q r a b : Nat} (h : WF E v (p + (q + r)) a b) (e : v p = v (p + q)) : ∃ v', WF E v' (p + r) a b ∧ wlen w v' (p + r) ≤ wlen w v (p + (q + r)) := by
  have h1 : WF E v p a (v p) := ⟨h.1, rfl, fun i hi => h.2.2 i (by omega)⟩
  have h2 : WF E (fun k => v (p + q + k)) r (v p) b := by
    refine ⟨e.symm, ?_, fun i hi => ?_⟩
    · show v (p + q + r) = b
      rw [Nat.add_assoc]; exact h.2.1
    · have := h.2.2 (p + q + i) (by omega)
      exact this
  refine ⟨_, cat_WF h1 h2, ?_⟩
  rw [cat_len (show v p = v (p + q + 0) from e)]
  have h3 : wlen w v (p + (q + r)) = wlen w v p + (sumN (fun k => w (v (p + k)) (v (p + k + 1))) q + wlen w (fun k => v (p + q + k)) r) := by
    unfold wlen
    rw [sumN_add, sumN_add]
    congr 2
    refine sumN_congr _ fun k _ => ?_
    rw [← Nat.add_assoc]
    rfl
  have h4 : 0 ≤ sumN (fun k => w (v (p + k)) (v (p + k + 1))) q := sumN_nn q fun k hk => by
    have := h.2.2 (p + k) (by omega)
    exact hw _ _ this.1 this.2.1
  rw [h3]
  generalize sumN (fun k => w (v (p + k)) (v (p + k + 1))) q = x at *
  generalize wlen w (fun k => v (p + q + k)) r = y
  generalize wlen w v p = z
  omega
theorem shorten {E : Nat → Nat → Prop} {w : Nat → Nat → Int} (hw : ∀ a b, a < 10 → b < 10 → 0 ≤ w a b) {a b : Nat} : ∀ (n : Nat) (v : Nat → Nat), 1 ≤ n → WF E v n a b → ∃ n' v', 1 ≤ n' ∧ n' ≤ 10 ∧ WF E v' n' a b ∧ wlen w v' n' ≤ wlen w v n := by
  intro n
  induction n using Nat.strongRecOn with
  | ind n ih =>
    intro v hn h
    by_cases h10 : n ≤ 10
    · exact ⟨n, v, hn, h10, h, Int.le_refl _⟩
    · obtain ⟨i, j, hij, hj, e⟩ := pigeon 10 (fun i => v (i + 1)) (fun i hi => (h.2.2 i (by omega)).2.1)
      obtain ⟨q, rfl⟩ : ∃ q, j = i + q := ⟨j - i, by omega⟩
      obtain ⟨r, rfl⟩ : ∃ r, n = (i + 1) + (q + r) := ⟨n - (i + q + 1), by omega⟩
      have e' : v (i + 1) = v (i + 1 + q) := by
        rw [show i + 1 + q = i + q + 1 from by omega]; exact e
      obtain ⟨v', h1, h2⟩ := wcut hw h e'
      obtain ⟨n'', v'', g1, g2, g3, g4⟩ := ih (i + 1 + r) (by omega) v' (by omega) h1
      exact ⟨n'', v'', g1, g2, g3, Int.le_trans g4 h2⟩
/-! the table of ways: one round, all rounds -/
def mn (a b : Int) : Int := if a < b then a else b
theorem mn_l (a b : Int) : mn a b ≤ a := by unfold mn; split <;> omega
theorem mn_r (a b : Int) : mn a b ≤ b := by unfold mn; split <;> omega
theorem mn_or (a b : Int) : mn a b = a ∨ (mn a b = b ∧ b ≤ a) := by
  unfold mn
  split
  · exact .inl rfl
  · exact .inr ⟨rfl, by omega⟩
theorem mn_eq {a b : Int} (h : a ≤ b) : mn a b = a := by unfold mn; split <;> omega
def flS (D : Nat → Nat → Int) (m : Nat) : Nat → Nat → Int := fun x y => mn (D x y) (D x m + D m y)
def flR (D : Nat → Nat → Int) : Nat → Nat → Nat → Int
  | 0 => D
  | m + 1 => flS (flR D m) m
theorem flS_bd {D : Nat → Nat → Int} {m : Nat} (hm : m < 10) (h : ∀ x y, x < 10 → y < 10 → 1 ≤ D x y ∧ D x y ≤ 1000000) : ∀ x y, x < 10 → y < 10 → 1 ≤ flS D m x y ∧ flS D m x y ≤ 1000000 := by
  intro x y hx hy
  have h1 := h x y hx hy
  have h2 := h x m hx hm
  have h3 := h m y hm hy
  unfold flS mn
  split <;> omega
theorem flR_bd {D : Nat → Nat → Int} (h : ∀ x y, x < 10 → y < 10 → 1 ≤ D x y ∧ D x y ≤ 1000000) : ∀ m, m ≤ 10 → ∀ x y, x < 10 → y < 10 → 1 ≤ flR D m x y ∧ flR D m x y ≤ 1000000 := by
  intro m
  induction m with
  | zero => intro _; exact h
  | succ m ih => intro hm; exact flS_bd (by omega) (ih (by omega))
theorem flR_le {D : Nat → Nat → Int} {x y : Nat} : ∀ m, flR D m x y ≤ D x y := by
  intro m
  induction m with
  | zero => exact Int.le_refl _
  | succ m ih => exact Int.le_trans (mn_l _ _) ih
theorem flS_tri {D : Nat → Nat → Int} {m k : Nat} (hm : m < 10) (hk : k < 10) (h : ∀ x y, x < 10 → y < 10 → 1 ≤ D x y ∧ D x y ≤ 1000000) (ht : ∀ x y, x < 10 → y < 10 → D x y ≤ D x k + D k y) : ∀ x y, x < 10 → y < 10 → flS D m x y ≤ flS D m x k + flS D m k y := by
  intro x y hx hy
  have l1 : flS D m x y ≤ D x y := mn_l _ _
  have l2 : flS D m x y ≤ D x m + D m y := mn_r _ _
  have b1 := (h m k hm hk).1
  have b2 := (h k m hk hm).1
  have t1 := ht x y hx hy
  have t2 := ht m y hm hy
  have t3 := ht x m hx hm
  have c1 : flS D m x k = D x k ∨ flS D m x k = D x m + D m k := (mn_or _ _).imp id And.left
  have c2 : flS D m k y = D k y ∨ flS D m k y = D k m + D m y := (mn_or _ _).imp id And.left
  rcases c1 with c1 | c1 <;> rcases c2 with c2 | c2 <;> rw [c1, c2] <;> omega
theorem flS_row {D : Nat → Nat → Int} {m x : Nat} (h : 0 ≤ D m m) : flS D m x m = D x m := mn_eq (by omega)
theorem flS_col {D : Nat → Nat → Int} {m y : Nat} (h : 0 ≤ D m m) : flS D m m y = D m y := mn_eq (by omega)
theorem flS_mid {D : Nat → Nat → Int} {m x y : Nat} (h : 0 ≤ D m m) : flS D m x y ≤ flS D m x m + flS D m m y := by
  rw [flS_row h, flS_col h]; exact mn_r _ _
theorem flR_tri {D : Nat → Nat → Int} (h : ∀ x y, x < 10 → y < 10 → 1 ≤ D x y ∧ D x y ≤ 1000000) : ∀ m, m ≤ 10 → ∀ k, k < m → ∀ x y, x < 10 → y < 10 → flR D m x y ≤ flR D m x k + flR D m k y := by
  intro m
  induction m with
  | zero => intro _ k hk; exact absurd hk (Nat.not_lt_zero _)
  | succ m ih =>
    intro hm k hk x y hx hy
    have hb := flR_bd h m (by omega)
    show flS (flR D m) m x y ≤ flS (flR D m) m x k + flS (flR D m) m k y
    by_cases q : k = m
    · subst q
      exact flS_mid (Int.le_trans (by decide) (hb k k (by omega) (by omega)).1)
    · exact flS_tri (by omega) (by omega) hb (ih (by omega) k (by omega)) x y hx hy
theorem flR_walk {E : Nat → Nat → Prop} {w : Nat → Nat → Int} {D : Nat → Nat → Int} (h : ∀ x y, x < 10 → y < 10 → 1 ≤ D x y ∧ D x y ≤ 1000000) (hs : ∀ x y, x < 10 → y < 10 → D x y < 1000000 → E x y ∧ w x y = D x y) : ∀ m, m ≤ 10 → ∀ x y, x < 10 → y < 10 → flR D m x y < 1000000 → ∃ n v, 1 ≤ n ∧ WF E v n x y ∧ wlen w v n = flR D m x y := by
  intro m
  induction m with
  | zero =>
    intro _ x y hx hy hl
    have h1 := hs x y hx hy hl
    refine ⟨1, fun i => if i = 0 then x else y, Nat.le_refl _, ⟨rfl, rfl, fun i hi => ?_⟩, ?_⟩
    · have : i = 0 := by omega
      subst this
      exact ⟨hx, hy, h1.1⟩
    · show (0 : Int) + w x y = D x y
      rw [h1.2, Int.zero_add]
  | succ m ih =>
    intro hm x y hx hy hl
    have hl' : flS (flR D m) m x y < 1000000 := hl
    show ∃ n v, 1 ≤ n ∧ WF E v n x y ∧ wlen w v n = flS (flR D m) m x y
    have hb := flR_bd h m (by omega)
    rcases mn_or (flR D m x y) (flR D m x m + flR D m m y) with c | c
    · have e : flS (flR D m) m x y = flR D m x y := c
      rw [e] at hl' ⊢
      exact ih (by omega) x y hx hy hl'
    · have e : flS (flR D m) m x y = flR D m x m + flR D m m y := c.1
      rw [e] at hl' ⊢
      have b1 := (hb x m hx (by omega)).1
      have b2 := (hb m y (by omega) hy).1
      obtain ⟨n1, v1, p1, q1, r1⟩ := ih (by omega) x m hx (by omega) (by omega)
      obtain ⟨n2, v2, p2, q2, r2⟩ := ih (by omega) m y (by omega) hy (by omega)
      exact ⟨n1 + n2, _, by omega, cat_WF q1 q2, by rw [cat_len (q1.2.1.trans q2.1.symm), r1, r2]⟩
theorem flR_min {E : Nat → Nat → Prop} {w : Nat → Nat → Int} {D : Nat → Nat → Int} {m : Nat} (hm : m = 10) (h : ∀ x y, x < 10 → y < 10 → 1 ≤ D x y ∧ D x y ≤ 1000000) (hs : ∀ x y, x < 10 → y < 10 → E x y → D x y = w x y) {v : Nat → Nat} {a : Nat} (ha : a < 10) : ∀ n b, 1 ≤ n → WF E v n a b → flR D m a b ≤ wlen w v n := by
  intro n
  induction n with
  | zero => intro b h0; exact absurd h0 (by decide)
  | succ n ih =>
    intro b _ hW
    have hl := hW.2.2 n (Nat.lt_succ_self n)
    have e1 : flR D m (v n) b ≤ w (v n) b := by
      rw [← hW.2.1, ← hs _ _ hl.1 hl.2.1 hl.2.2]; exact flR_le m
    have e2 : wlen w v (n + 1) = wlen w v n + w (v n) b := by rw [← hW.2.1]; rfl
    by_cases h0 : n = 0
    · subst h0
      have e3 : wlen w v 0 = 0 := rfl
      rw [e2, e3, Int.zero_add, ← hW.1]
      exact e1
    · have hW' : WF E v n a (v n) := ⟨hW.1, rfl, fun i hi => hW.2.2 i (Nat.lt_succ_of_lt hi)⟩
      have e3 := ih (v n) (by omega) hW'
      have hb : b < 10 := hW.2.1 ▸ hl.2.1
      have e4 := flR_tri h m (by omega) (v n) (by omega) a b ha hb
      rw [e2]
      exact Int.le_trans e4 (Int.add_le_add e3 e1)
/-- two ways to the shortest walk home come to the same -/
theorem back_math {E : Nat → Nat → Prop} {w : Nat → Nat → Int} {D : Nat → Nat → Int} {m : Nat} (hm : m = 10) (hw : ∀ a b, a < 10 → b < 10 → 0 ≤ w a b) (h : ∀ x y, x < 10 → y < 10 → 1 ≤ D x y ∧ D x y ≤ 1000000) (hs : ∀ x y, x < 10 → y < 10 → D x y < 1000000 → E x y ∧ w x y = D x y) (hs' : ∀ x y, x < 10 → y < 10 → E x y → D x y = w x y) {p : Nat} (hp : p < 10) {F : Int}
    (f1 : F ≤ 1000000) (f2 : F < 1000000 → ∃ n v, 1 ≤ n ∧ WF E v n p p ∧ wlen w v n = F) (f3 : ∀ n v, 1 ≤ n → n ≤ 10 → WF E v n p p → F ≤ wlen w v n) : F = flR D m p p := by
  have hb := flR_bd h m (by omega) p p hp hp
  by_cases hl : flR D m p p < 1000000
  · obtain ⟨n, v, a1, a2, a3⟩ := flR_walk h hs m (by omega) p p hp hp hl
    obtain ⟨n', v', b1, b2, b3, b4⟩ := shorten hw n v a1 a2
    have c1 := f3 n' v' b1 b2 b3
    have c2 : F ≤ flR D m p p := by rw [← a3]; exact Int.le_trans c1 b4
    obtain ⟨n2, v2, d1, d2, d3⟩ := f2 (Int.lt_of_le_of_lt c2 hl)
    have d4 := flR_min hm h hs' hp n2 p d1 d2
    rw [d3] at d4
    exact Int.le_antisymm c2 d4
  · by_cases hF : F < 1000000
    · obtain ⟨n2, v2, d1, d2, d3⟩ := f2 hF
      have d4 := flR_min hm h hs' hp n2 p d1 d2
      rw [d3] at d4
      omega
    · omega
