/-! the tour: both take the least next one after whom all that is left can be paid -/
theorem oU_back {M : oM} {o : Nat} {i v w : Int} (h : M o i = v) : oU (oU M o i w) o i v = M := by
  funext o' i'
  unfold oU
  by_cases z : o' = o ∧ i' = i
  · rw [if_pos z, z.1, z.2, h]
  · rw [if_neg z, if_neg z]
theorem gOf_dec {M : oM} {o a b : Nat} {g : Nat → Nat → Nat} (hg : gOf (M o) g) (ha : a < 10) (hb : b < 10) (hp : 0 < g a b) : gOf (oU M o (10 * (a : Int) + b) ((g a b : Int) - 1) o) (decg g a b) := by
  intro a' b' ha' hb'
  unfold decg
  by_cases q : a' = a ∧ b' = b
  · rw [if_pos q, q.1, q.2, oU_at]
    generalize g a b = x at *
    clear hg
    omega
  · rw [if_neg q, oU_i (fun z => q (by clear hg; omega))]
    exact hg a' b' ha' hb'
theorem decg_le {g : Nat → Nat → Nat} {s q : Nat} (hb : ∀ a b, a < 10 → b < 10 → g a b ≤ 99) : ∀ a b, a < 10 → b < 10 → decg g s q a b ≤ 99 := fun a b ha hb' => by
  have := hb a b ha hb'
  unfold decg
  split
  · exact Nat.le_trans (Nat.sub_le _ _) this
  · exact this
/-- the least next one -/
def lstN (g : Nat → Nat → Nat) (s q : Nat) : Prop := q < 10 ∧ (0 < g s q ∧ okRow (decg g s q) q) ∧ ∀ q', q' < q → ¬ (0 < g s q' ∧ okRow (decg g s q') q')
theorem lstN_uniq {g : Nat → Nat → Nat} {s q q' : Nat} (h : lstN g s q) (h' : lstN g s q') : q = q' := by
  rcases Nat.lt_trichotomy q q' with z | z | z
  · exact absurd h.2.1 (h'.2.2 q z)
  · exact z
  · exact absurd h'.2.1 (h.2.2 q' z)
theorem okRow_next {g : Nat → Nat → Nat} {s : Nat} (hs : s < 10) (h : okRow g s) (ht : 0 < totg g) : ∃ q, q < 10 ∧ 0 < g s q ∧ okRow (decg g s q) q := by
  obtain ⟨⟨t, ht10, hb⟩, hc⟩ := h
  obtain ⟨q, h1, h2, h3, h4⟩ := euler_next hs ht10 hb hc ht
  exact ⟨q, h1, h2, ⟨t, ht10, h3⟩, h4⟩
theorem w32c {n : Nat} (h : n ≤ 2000) : w32 ((n : Int) - 1) = (n : Int) - 1 := w32_of (by omega) (by omega)
theorem w32d {n : Nat} (h : n ≤ 2000) : w32 ((n : Int) - 1 + 1) = (n : Int) := by rw [w32_of (by omega) (by omega)]; omega
theorem w32p {a b : Nat} (ha : a < 10) (hb : b < 10) : w32 (w32 ((a : Int) * 10) + b) = 10 * (a : Int) + b := by rw [w32_of (a := (a : Int) * 10) (by omega) (by omega), w32_of (by omega) (by omega)]; omega
theorem w32p' {a b : Nat} (ha : a < 10) (hb : b < 10) : w32 (w32 (10 * (a : Int)) + b) = 10 * (a : Int) + b := by rw [w32_of (a := 10 * (a : Int)) (by omega) (by omega), w32_of (by omega) (by omega)]
theorem idx100 {a b : Nat} (ha : a < 10) (hb : b < 10) : 0 ≤ 10 * (a : Int) + b ∧ 10 * (a : Int) + b < 100 := by omega
theorem w32s {n : Nat} (h : n ≤ 2000) : w32 ((n : Int) + 1) = ((n + 1 : Nat) : Int) := by rw [w32_of (by omega) (by omega)]; omega
theorem natpos {n : Nat} : (0 : Int) < (n : Int) ↔ 0 < n := by omega
theorem canGo_yes {f : Nat} {a b i v r : Int} {M : oM} (h1 : p_M_leftOf f a b M = some (v, M)) (hv : v ≠ 0) (hi : w32 (w32 (10 * a) + b) = i) (h0 : 0 ≤ i) (h100 : i < 100) (hw : w32 (v - 1) = v - 1) (er : p_M_isRow f b (oU M 82 i (v - 1)) = some (r, oU M 82 i (v - 1))) (h2 : p_M_leftOf f a b (oU M 82 i (v - 1)) = some (v - 1, oU M 82 i (v - 1))) (hw2 : w32 (v - 1 + 1) = v) (hM : M 82 i = v) (r0 : 0 ≤ r) (r2 : r < 2) : p_M_canGo f a b M = some (r, M) := by
  unfold p_M_canGo
  rw [h1]
  simp only [Option.bind_some]
  rw [if_neg hv, h1]
  simp only [Option.bind_some]
  rw [hi, bnd_eq h0 h100, lt_eq, hw, er]
  simp only [Option.bind_some]
  rw [h2]
  simp only [Option.bind_some]
  rw [bnd_eq h0 h100, hw2, oU_back hM, lt_eq, bnd_eq r0 r2]
theorem canGo_no {f : Nat} {a b : Int} {M : oM} (h1 : p_M_leftOf f a b M = some (0, M)) : p_M_canGo f a b M = some (0, M) := by
  unfold p_M_canGo
  rw [h1]
  rfl
theorem least_skip {f : Nat} {a q i v : Int} {M : oM} (hq : q < 10) (hi : w32 (w32 (a * 10) + q) = i) (h0 : 0 ≤ i) (h100 : i < 100) (hM : M 43 i = v) (hv : ¬ 0 < v) (wq : w32 (q + 1) = q + 1) : p_R_leastNext_L2 f a (q, M) = some (.inl (q + 1, M)) := by
  unfold p_R_leastNext_L2 p_R_leastNext_B57_2
  simp only []
  rw [if_pos hq, lt_eq, hi, bnd_eq h0 h100, hM, if_neg hv, lt_eq, wq]
theorem least_try {f : Nat} {a q i v r : Int} {M : oM} (hq : q < 10) (hi : w32 (w32 (a * 10) + q) = i) (h0 : 0 ≤ i) (h100 : i < 100) (hM : M 43 i = v) (hv : 0 < v) (wq : w32 (q + 1) = q + 1) (hw : w32 (v - 1) = v - 1) (hw2 : w32 (v - 1 + 1) = v) (er : p_R_isOneRow f 43 q (oU M 43 i (v - 1)) = some (r, oU M 43 i (v - 1))) : p_R_leastNext_L2 f a (q, M) = if r = 0 then some (.inl (q + 1, M)) else some (.inr (q, oU M 43 i (v - 1))) := by
  unfold p_R_leastNext_L2 p_R_leastNext_B57_2
  simp only []
  rw [if_pos hq, lt_eq, hi, bnd_eq h0 h100, hM, if_pos hv, bnd_eq h0 h100, bnd_eq h0 h100, hM, hw, lt_eq, er]
  simp only [Option.bind_some]
  rw [bnd_eq h0 h100, bnd_eq h0 h100, oU_at, hw2, oU_back hM, lt_eq, lt_eq, wq]
theorem e_leastNext {f s : Nat} {M : oM} {g : Nat → Nat → Nat} (hf : 2000 < f) (hs : s < 10) (hg : gOf (M 43) g) (hb : ∀ a b, a < 10 → b < 10 → g a b ≤ 99) (hok : okRow g s) (ht : 0 < totg g) : ∃ q : Nat, p_R_leastNext f s M = some ((q : Int), oU M 43 (10 * (s : Int) + q) ((g s q : Int) - 1)) ∧ lstN g s q := by
  obtain ⟨q0, hq0, hq1⟩ := okRow_next hs hok ht
  have h : okp (p_R_leastNext f s M) (fun r => ∃ q : Nat, r = ((q : Int), oU M 43 (10 * (s : Int) + q) ((g s q : Int) - 1)) ∧ lstN g s q) := by
    unfold p_R_leastNext
    refine for_ok 10 (fun k st => st = ((k : Int), M) ∧ ∀ q', q' < k → ¬ (0 < g s q' ∧ okRow (decg g s q') q')) ?_ ?_ f (by clear ht; omega) ⟨rfl, fun q' hq' => absurd hq' (Nat.not_lt_zero _)⟩
    · intro k st hk ⟨hst, hno⟩
      subst hst
      have hi := idx100 hs hk
      have hgk := hg s k hs hk
      have hgb := Nat.le_trans (hb s k hs hk) (show 99 ≤ 2000 by decide)
      have hk' := (nat9 hk).2
      have wk : w32 ((k : Int) + 1) = (k : Int) + 1 := w32s (Nat.le_of_lt (Nat.lt_trans hk (by decide)))
      have step : (¬ (0 < g s k ∧ okRow (decg g s k) k)) → ∀ q', q' < k + 1 → ¬ (0 < g s q' ∧ okRow (decg g s q') q') := fun z q' hq' => by
        rcases Nat.lt_or_ge q' k with w | w
        · exact hno q' w
        · have e := Nat.le_antisymm (Nat.le_of_lt_succ hq') w
          rw [e]; exact z
      by_cases z : 0 < g s k
      · obtain ⟨r, er, hr⟩ := e_isOneRow (f := f) (o := 43) hf hk (gOf_dec hg hs hk z) (decg_le hb)
        rw [least_try hk' (w32p hs hk) hi.1 hi.2 hgk (natpos.2 z) wk (w32c hgb) (w32d hgb) er]
        rcases hr with ⟨r1, r2⟩ | ⟨r1, r2⟩
        · rw [if_neg (by rw [r1]; decide)]
          exact ⟨k, rfl, hk, ⟨z, r2⟩, hno⟩
        · rw [if_pos r1]
          exact ⟨rfl, step fun y => r2 y.2⟩
      · rw [least_skip hk' (w32p hs hk) hi.1 hi.2 hgk (fun y => z (natpos.1 y)) wk]
        exact ⟨rfl, step fun y => z y.1⟩
    · intro st ⟨hst, hno⟩
      exact absurd ⟨hq1.1, hq1.2⟩ (hno q0 hq0)
  obtain ⟨r, er, q, hr, hq⟩ := okp_ex h
  subst hr
  exact ⟨q, er, hq⟩
theorem e_canGo {f s q : Nat} {M : oM} {g : Nat → Nat → Nat} (hf : 2000 < f) (hs : s < 10) (hq : q < 10) (hg : gOf (M 82) g) (hb : ∀ a b, a < 10 → b < 10 → g a b ≤ 99) : ∃ r : Int, p_M_canGo f s q M = some (r, M) ∧ ((r = 1 ∧ (0 < g s q ∧ okRow (decg g s q) q)) ∨ (r = 0 ∧ ¬ (0 < g s q ∧ okRow (decg g s q) q))) := by
  have hi := idx100 hs hq
  have hgk := hg s q hs hq
  have hgb := Nat.le_trans (hb s q hs hq) (show 99 ≤ 2000 by decide)
  have hl := leftOf_g (f := f) hg hs hq
  by_cases z : 0 < g s q
  · have z0 : ((g s q : Nat) : Int) ≠ 0 := fun y => absurd z (Nat.not_lt_of_le (Nat.le_of_eq (Int.ofNat.inj y)))
    have hg' := gOf_dec hg hs hq z
    obtain ⟨r, er, hr⟩ := e_isRow (f := f) hf hq hg' (decg_le hb)
    have h2 : p_M_leftOf f s q (oU M 82 (10 * (s : Int) + q) ((g s q : Int) - 1)) = some ((g s q : Int) - 1, oU M 82 (10 * (s : Int) + q) ((g s q : Int) - 1)) := by rw [e_M_leftOf hs hq, oU_at]
    rcases hr with ⟨r1, r2⟩ | ⟨r1, r2⟩
    · exact ⟨r, canGo_yes hl z0 (w32p' hs hq) hi.1 hi.2 (w32c hgb) er h2 (w32d hgb) hgk (by rw [r1]; decide) (by rw [r1]; decide), .inl ⟨r1, z, r2⟩⟩
    · exact ⟨r, canGo_yes hl z0 (w32p' hs hq) hi.1 hi.2 (w32c hgb) er h2 (w32d hgb) hgk (by rw [r1]; decide) (by rw [r1]; decide), .inr ⟨r1, fun y => r2 y.2⟩⟩
  · have e0 : g s q = 0 := Nat.le_zero.1 (Nat.le_of_not_lt z)
    rw [e0] at hl
    exact ⟨0, canGo_no hl, .inr ⟨rfl, fun y => z y.1⟩⟩
