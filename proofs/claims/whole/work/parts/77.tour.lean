/-! the tour: both take the least next one after whom all that is left can be paid -/
theorem oU_back {M : oM} {o : Nat} {i v w : Int} (h : M o i = v) : oU (oU M o i w) o i v = M := by
  funext o' i'
  unfold oU
  by_cases z : o' = o ∧ i' = i
  · rw [if_pos z, z.1, z.2, h]
  · rw [if_neg z, if_neg z]
theorem gOf_dec {M : oM} {o a b : Nat} {g : Nat → Nat → Nat} (hg : gOf (M o) g) (ha : a < 10) (hb : b < 10) (hp : 0 < g a b) : gOf (oU M o (10 * (a : Int) + b) ((g a b : Int) - 1) o) (decg g a b) := by
  intro a' b' ha' hb'
  unfold decg
  by_cases q : a' = a ∧ b' = b
  · rw [if_pos q, q.1, q.2, oU_at]
    generalize g a b = x at *
    clear hg
    omega
  · rw [if_neg q, oU_i (fun z => q (by clear hg; omega))]
    exact hg a' b' ha' hb'
theorem decg_le {g : Nat → Nat → Nat} {s q : Nat} (hb : ∀ a b, a < 10 → b < 10 → g a b ≤ 99) : ∀ a b, a < 10 → b < 10 → decg g s q a b ≤ 99 := fun a b ha hb' => by
  have := hb a b ha hb'
  unfold decg
  split
  · exact Nat.le_trans (Nat.sub_le _ _) this
  · exact this
/-- the least next one -/
def lstN (g : Nat → Nat → Nat) (s q : Nat) : Prop := q < 10 ∧ (0 < g s q ∧ okRow (decg g s q) q) ∧ ∀ q', q' < q → ¬ (0 < g s q' ∧ okRow (decg g s q') q')
theorem lstN_uniq {g : Nat → Nat → Nat} {s q q' : Nat} (h : lstN g s q) (h' : lstN g s q') : q = q' := by
  rcases Nat.lt_trichotomy q q' with z | z | z
  · exact absurd h.2.1 (h'.2.2 q z)
  · exact z
  · exact absurd h'.2.1 (h.2.2 q' z)
theorem okRow_next {g : Nat → Nat → Nat} {s : Nat} (hs : s < 10) (h : okRow g s) (ht : 0 < totg g) : ∃ q, q < 10 ∧ 0 < g s q ∧ okRow (decg g s q) q := by
  obtain ⟨⟨t, ht10, hb⟩, hc⟩ := h
  obtain ⟨q, h1, h2, h3, h4⟩ := euler_next hs ht10 hb hc ht
  exact ⟨q, h1, h2, ⟨t, ht10, h3⟩, h4⟩
theorem w32c {n : Nat} (h : n ≤ 2000) : w32 ((n : Int) - 1) = (n : Int) - 1 := w32_of (by omega) (by omega)
theorem w32d {n : Nat} (h : n ≤ 2000) : w32 ((n : Int) - 1 + 1) = (n : Int) := by rw [w32_of (by omega) (by omega)]; omega
theorem w32p {a b : Nat} (ha : a < 10) (hb : b < 10) : w32 (w32 ((a : Int) * 10) + b) = 10 * (a : Int) + b := by rw [w32_of (a := (a : Int) * 10) (by omega) (by omega), w32_of (by omega) (by omega)]; omega
theorem w32p' {a b : Nat} (ha : a < 10) (hb : b < 10) : w32 (w32 (10 * (a : Int)) + b) = 10 * (a : Int) + b := by rw [w32_of (a := 10 * (a : Int)) (by omega) (by omega), w32_of (by omega) (by omega)]
theorem idx100 {a b : Nat} (ha : a < 10) (hb : b < 10) : 0 ≤ 10 * (a : Int) + b ∧ 10 * (a : Int) + b < 100 := by omega
theorem w32s {n : Nat} (h : n ≤ 2000) : w32 ((n : Int) + 1) = ((n + 1 : Nat) : Int) := by rw [w32_of (by omega) (by omega)]; omega
theorem natpos {n : Nat} : (0 : Int) < (n : Int) ↔ 0 < n := by omega
theorem canGo_yes {f : Nat} {a b i v r : Int} {M : oM} (h1 : p_M_leftOf f a b M = some (v, M)) (hv : v ≠ 0) (hi : w32 (w32 (10 * a) + b) = i) (h0 : 0 ≤ i) (h100 : i < 100) (hw : w32 (v - 1) = v - 1) (er : p_M_isRow f b (oU M 82 i (v - 1)) = some (r, oU M 82 i (v - 1))) (h2 : p_M_leftOf f a b (oU M 82 i (v - 1)) = some (v - 1, oU M 82 i (v - 1))) (hw2 : w32 (v - 1 + 1) = v) (hM : M 82 i = v) (r0 : 0 ≤ r) (r2 : r < 2) : p_M_canGo f a b M = some (r, M) := by
  unfold p_M_canGo
  rw [h1]
  simp only [Option.bind_some]
  rw [if_neg hv, h1]
  simp only [Option.bind_some]
  rw [hi, bnd_eq h0 h100, lt_eq, hw, er]
  simp only [Option.bind_some]
  rw [h2]
  simp only [Option.bind_some]
  rw [bnd_eq h0 h100, hw2, oU_back hM, lt_eq, bnd_eq r0 r2]
theorem canGo_no {f : Nat} {a b : Int} {M : oM} (h1 : p_M_leftOf f a b M = some (0, M)) : p_M_canGo f a b M = some (0, M) := by
  unfold p_M_canGo
  rw [h1]
  rfl
theorem least_skip {f : Nat} {a q i v : Int} {M : oM} (hq : q < 10) (hi : w32 (w32 (a * 10) + q) = i) (h0 : 0 ≤ i) (h100 : i < 100) (hM : M 43 i = v) (hv : ¬ 0 < v) (wq : w32 (q + 1) = q + 1) : p_R_leastNext_L2 f a (q, M) = some (.inl (q + 1, M)) := by
  unfold p_R_leastNext_L2 p_R_leastNext_B57_2
  simp only []
  rw [if_pos hq, lt_eq, hi, bnd_eq h0 h100, hM, if_neg hv, lt_eq, wq]
theorem least_try {f : Nat} {a q i v r : Int} {M : oM} (hq : q < 10) (hi : w32 (w32 (a * 10) + q) = i) (h0 : 0 ≤ i) (h100 : i < 100) (hM : M 43 i = v) (hv : 0 < v) (wq : w32 (q + 1) = q + 1) (hw : w32 (v - 1) = v - 1) (hw2 : w32 (v - 1 + 1) = v) (er : p_R_isOneRow f 43 q (oU M 43 i (v - 1)) = some (r, oU M 43 i (v - 1))) : p_R_leastNext_L2 f a (q, M) = if r = 0 then some (.inl (q + 1, M)) else some (.inr (q, oU M 43 i (v - 1))) := by
  unfold p_R_leastNext_L2 p_R_leastNext_B57_2
  simp only []
  rw [if_pos hq, lt_eq, hi, bnd_eq h0 h100, hM, if_pos hv, bnd_eq h0 h100, bnd_eq h0 h100, hM, hw, lt_eq, er]
  simp only [Option.bind_some]
  rw [bnd_eq h0 h100, bnd_eq h0 h100, oU_at, hw2, oU_back hM, lt_eq, lt_eq, wq]
theorem e_leastNext {f s : Nat} {M : oM} {g : Nat → Nat → Nat} (hf : 2000 < f) (hs : s < 10) (hg : gOf (M 43) g) (hb : ∀ a b, a < 10 → b < 10 → g a b ≤ 99) (hok : okRow g s) (ht : 0 < totg g) : ∃ q : Nat, p_R_leastNext f s M = some ((q : Int), oU M 43 (10 * (s : Int) + q) ((g s q : Int) - 1)) ∧ lstN g s q := by
  obtain ⟨q0, hq0, hq1⟩ := okRow_next hs hok ht
  have h : okp (p_R_leastNext f s M) (fun r => ∃ q : Nat, r = ((q : Int), oU M 43 (10 * (s : Int) + q) ((g s q : Int) - 1)) ∧ lstN g s q) := by
    unfold p_R_leastNext
    refine for_ok 10 (fun k st => st = ((k : Int), M) ∧ ∀ q', q' < k → ¬ (0 < g s q' ∧ okRow (decg g s q') q')) ?_ ?_ f (by clear ht; omega) ⟨rfl, fun q' hq' => absurd hq' (Nat.not_lt_zero _)⟩
    · intro k st hk ⟨hst, hno⟩
      subst hst
      have hi := idx100 hs hk
      have hgk := hg s k hs hk
      have hgb := Nat.le_trans (hb s k hs hk) (show 99 ≤ 2000 by decide)
      have hk' := (nat9 hk).2
      have wk : w32 ((k : Int) + 1) = (k : Int) + 1 := w32s (Nat.le_of_lt (Nat.lt_trans hk (by decide)))
      have step : (¬ (0 < g s k ∧ okRow (decg g s k) k)) → ∀ q', q' < k + 1 → ¬ (0 < g s q' ∧ okRow (decg g s q') q') := fun z q' hq' => by
        rcases Nat.lt_or_ge q' k with w | w
        · exact hno q' w
        · have e := Nat.le_antisymm (Nat.le_of_lt_succ hq') w
          rw [e]; exact z
      by_cases z : 0 < g s k
      · obtain ⟨r, er, hr⟩ := e_isOneRow (f := f) (o := 43) hf hk (gOf_dec hg hs hk z) (decg_le hb)
        rw [least_try hk' (w32p hs hk) hi.1 hi.2 hgk (natpos.2 z) wk (w32c hgb) (w32d hgb) er]
        rcases hr with ⟨r1, r2⟩ | ⟨r1, r2⟩
        · rw [if_neg (by rw [r1]; decide)]
          exact ⟨k, rfl, hk, ⟨z, r2⟩, hno⟩
        · rw [if_pos r1]
          exact ⟨rfl, step fun y => r2 y.2⟩
      · rw [least_skip hk' (w32p hs hk) hi.1 hi.2 hgk (fun y => z (natpos.1 y)) wk]
        exact ⟨rfl, step fun y => z y.1⟩
    · intro st ⟨hst, hno⟩
      exact absurd ⟨hq1.1, hq1.2⟩ (hno q0 hq0)
  obtain ⟨r, er, q, hr, hq⟩ := okp_ex h
  subst hr
  exact ⟨q, er, hq⟩
theorem e_canGo {f s q : Nat} {M : oM} {g : Nat → Nat → Nat} (hf : 2000 < f) (hs : s < 10) (hq : q < 10) (hg : gOf (M 82) g) (hb : ∀ a b, a < 10 → b < 10 → g a b ≤ 99) : ∃ r : Int, p_M_canGo f s q M = some (r, M) ∧ ((r = 1 ∧ (0 < g s q ∧ okRow (decg g s q) q)) ∨ (r = 0 ∧ ¬ (0 < g s q ∧ okRow (decg g s q) q))) := by
  have hi := idx100 hs hq
  have hgk := hg s q hs hq
  have hgb := Nat.le_trans (hb s q hs hq) (show 99 ≤ 2000 by decide)
  have hl := leftOf_g (f := f) hg hs hq
  by_cases z : 0 < g s q
  · have z0 : ((g s q : Nat) : Int) ≠ 0 := fun y => absurd z (Nat.not_lt_of_le (Nat.le_of_eq (Int.ofNat.inj y)))
    have hg' := gOf_dec hg hs hq z
    obtain ⟨r, er, hr⟩ := e_isRow (f := f) hf hq hg' (decg_le hb)
    have h2 : p_M_leftOf f s q (oU M 82 (10 * (s : Int) + q) ((g s q : Int) - 1)) = some ((g s q : Int) - 1, oU M 82 (10 * (s : Int) + q) ((g s q : Int) - 1)) := by rw [e_M_leftOf hs hq, oU_at]
    rcases hr with ⟨r1, r2⟩ | ⟨r1, r2⟩
    · exact ⟨r, canGo_yes hl z0 (w32p' hs hq) hi.1 hi.2 (w32c hgb) er h2 (w32d hgb) hgk (by rw [r1]; decide) (by rw [r1]; decide), .inl ⟨r1, z, r2⟩⟩
    · exact ⟨r, canGo_yes hl z0 (w32p' hs hq) hi.1 hi.2 (w32c hgb) er h2 (w32d hgb) hgk (by rw [r1]; decide) (by rw [r1]; decide), .inr ⟨r1, fun y => r2 y.2⟩⟩
  · have e0 : g s q = 0 := Nat.le_zero.1 (Nat.le_of_not_lt z)
    rw [e0] at hl
    exact ⟨0, canGo_no hl, .inr ⟨rfl, fun y => z y.1⟩⟩
theorem lays_step {f : Nat} {l2 l4 a b r : Int} {M : oM} (h : p_M_canGo f a b M = some (r, M)) (w : w32 (b + 1) = b + 1) : p_M_laysTour_L52 f l2 a l4 (b, M) = if r = 0 then some (.inl (b + 1, M)) else some (.inr (b, M)) := by
  unfold p_M_laysTour_L52
  simp only []
  rw [h]
  simp only [Option.bind_some]
  rw [lt_eq, w]
theorem lays_for {f s : Nat} {l2 l4 a : Int} {M : oM} {g : Nat → Nat → Nat} (ha : a = (s : Int)) (hcan : ∀ k : Nat, k < 10 → ∃ r : Int, p_M_canGo f a (k : Int) M = some (r, M) ∧ ((r = 1 ∧ (0 < g s k ∧ okRow (decg g s k) k)) ∨ (r = 0 ∧ ¬ (0 < g s k ∧ okRow (decg g s k) k)))) :
    ∀ (st : Int × oM) (k : Nat), k < 10 → (st = ((k : Int), M) ∧ ∀ q', q' < k → ¬ (0 < g s q' ∧ okRow (decg g s q') q')) → okp (p_M_laysTour_L52 f l2 a l4 st) (psum (fun st => st = (((k + 1 : Nat) : Int), M) ∧ ∀ q', q' < k + 1 → ¬ (0 < g s q' ∧ okRow (decg g s q') q')) (fun r => ∃ q : Nat, r = ((q : Int), M) ∧ lstN g s q)) := by
  intro st k hk ⟨hst, hno⟩
  obtain ⟨r, er, hr⟩ := hcan k hk
  have e := lays_step (l2 := l2) (l4 := l4) er (w32s (Nat.le_of_lt (Nat.lt_trans hk (by decide))))
  rw [← hst] at e
  rw [e]
  rcases hr with ⟨r1, r2⟩ | ⟨r1, r2⟩
  · rw [if_neg (by rw [r1]; decide)]
    exact ⟨k, hst, hk, r2, hno⟩
  · rw [if_pos r1]
    refine ⟨rfl, fun q' hq' => ?_⟩
    rcases Nat.lt_or_ge q' k with w | w
    · exact hno q' w
    · have e := Nat.le_antisymm (Nat.le_of_lt_succ hq') w
      rw [e]; exact r2
theorem lays_iter {f s q0 : Nat} {l2 l4 a : Int} {M : oM} {g : Nat → Nat → Nat} (hf : 2000 < f) (ha : a = (s : Int)) (hcan : ∀ k : Nat, k < 10 → ∃ r : Int, p_M_canGo f a (k : Int) M = some (r, M) ∧ ((r = 1 ∧ (0 < g s k ∧ okRow (decg g s k) k)) ∨ (r = 0 ∧ ¬ (0 < g s k ∧ okRow (decg g s k) k)))) (hq0 : q0 < 10) (hq1 : 0 < g s q0 ∧ okRow (decg g s q0) q0) :
    okp (iter (p_M_laysTour_L52 f l2 a l4) f (0, M)) (fun r => ∃ q : Nat, r = ((q : Int), M) ∧ lstN g s q) :=
  for_ok 10 (fun k st => st = ((k : Int), M) ∧ ∀ q', q' < k → ¬ (0 < g s q' ∧ okRow (decg g s q') q')) (fun k st hk hI => lays_for ha hcan st k hk hI) (fun st hI => absurd hq1 (hI.2 q0 hq0)) f (Nat.lt_trans (by decide) hf) ⟨rfl, fun q' hq' => absurd hq' (Nat.not_lt_zero _)⟩
theorem e_laysNext {f s : Nat} {l2 l4 a : Int} {M : oM} {g : Nat → Nat → Nat} (hf : 2000 < f) (ha : a = (s : Int)) (hs : s < 10) (hg : gOf (M 82) g) (hb : ∀ a b, a < 10 → b < 10 → g a b ≤ 99) (hok : okRow g s) (ht : 0 < totg g) : ∃ q : Nat, iter (p_M_laysTour_L52 f l2 a l4) f (0, M) = some ((q : Int), M) ∧ lstN g s q := by
  obtain ⟨q0, hq0, hq1⟩ := okRow_next hs hok ht
  have hcan : ∀ k : Nat, k < 10 → ∃ r : Int, p_M_canGo f a (k : Int) M = some (r, M) ∧ ((r = 1 ∧ (0 < g s k ∧ okRow (decg g s k) k)) ∨ (r = 0 ∧ ¬ (0 < g s k ∧ okRow (decg g s k) k))) := fun k hk => by
    rw [ha]
    exact e_canGo hf hs hk hg hb
  obtain ⟨r, er, q, hr, hq⟩ := okp_ex (lays_iter (l2 := l2) (l4 := l4) hf ha hcan hq0 hq1)
  rw [hr] at er
  exact ⟨q, er, hq⟩
/-- all debts as a number of coins -/
theorem oweS_out {d : Int → Int} {g : Nat → Nat → Nat} (hg : gOf d g) {a : Nat} (ha : a < 10) : oweS d a = (outg g a : Int) := by
  have : ∀ n, n ≤ 10 → sumN (fun k => d (10 * (a : Int) + (k : Int))) n = (sN (fun b => g a b) n : Int) := by
    intro n
    induction n with
    | zero => intro _; rfl
    | succ n ih =>
      intro hn
      show sumN _ n + d (10 * (a : Int) + (n : Int)) = ((sN (fun b => g a b) n + g a n : Nat) : Int)
      rw [ih (Nat.le_of_succ_le hn), hg a n ha hn]
      rfl
  exact this 10 (Nat.le_refl _)
theorem allS_tot {d : Int → Int} {g : Nat → Nat → Nat} (hg : gOf d g) : allS d = (totg g : Int) := by
  have : ∀ n, n ≤ 10 → sumN (fun k => oweS d (k : Int)) n = (sN (fun v => outg g v) n : Int) := by
    intro n
    induction n with
    | zero => intro _; rfl
    | succ n ih =>
      intro hn
      show sumN _ n + oweS d (n : Int) = ((sN (fun v => outg g v) n + outg g n : Nat) : Int)
      rw [ih (Nat.le_of_succ_le hn), oweS_out hg hn]
      rfl
  exact this 10 (Nat.le_refl _)
theorem plan_step {f : Nat} {m a k q : Int} {M M1 : oM} (h : p_R_leastNext f a M = some (q, M1)) (c1 : k < m) (c0 : 0 ≤ k) (c2 : k < 60) (c4 : ¬ q < 0) (w : w32 (k + 1) = k + 1) : p_R_planTour_L18 f m (a, k, M) = some (.inl (q, k + 1, oU M1 47 k q)) := by
  unfold p_R_planTour_L18
  simp only []
  rw [if_pos c1, if_pos c2, h]
  simp only [Option.bind_some]
  rw [if_neg c4, bnd_eq c0 c2, lt_eq, lt_eq, w]
theorem lays43_step {f : Nat} {m a k q i v : Int} {M : oM} (h : iter (p_M_laysTour_L52 f m a k) f (0, M) = some (q, M)) (c1 : k < m) (c0 : 0 ≤ k) (c2 : k < 60) (hl : p_M_leftOf f a q M = some (v, M)) (hi : w32 (w32 (10 * a) + q) = i) (h0 : 0 ≤ i) (h100 : i < 100) (hw : w32 (v - 1) = v - 1) (w : w32 (k + 1) = k + 1) : p_M_laysTour_L43 f m (a, k, M) = some (.inl (q, k + 1, oU (oU M 82 i (v - 1)) 83 k q)) := by
  unfold p_M_laysTour_L43
  simp only []
  rw [if_pos c1, h]
  simp only [Option.bind_some]
  unfold p_M_laysTour_X52
  simp only []
  rw [hl]
  simp only [Option.bind_some]
  rw [hi, bnd_eq h0 h100, lt_eq, bnd_eq c0 c2, lt_eq, lt_eq, hw, w]
/-- the rows side by side -/
def tuI (m : Nat) (k : Nat) (s s' : Int × Int × oM) : Prop := ∃ (a : Nat) (N N' : oM) (g : Nat → Nat → Nat), s = ((a : Int), (k : Int), N) ∧ s' = ((a : Int), (k : Int), N') ∧ a < 10 ∧ gOf (N 43) g ∧ gOf (N' 82) g ∧ (∀ a b, a < 10 → b < 10 → g a b ≤ 99) ∧ okRow g a ∧ totg g + k = m ∧ (∀ i : Int, 0 ≤ i → i < (k : Int) → N 47 i = N' 83 i)
def tuQ (m : Nat) (q q' : Int × oM) : Prop := ∀ i : Int, 0 ≤ i → i < (m : Int) → q.2 47 i = q'.2 83 i
theorem nat_ci {k m : Nat} (hk : k < m) (hm : m ≤ 60) : (k : Int) < (m : Int) ∧ 0 ≤ (k : Int) ∧ (k : Int) < 60 := by omega
theorem tot_pos {t k m : Nat} (h : t + k = m) (hk : k < m) : 0 < t := by omega
theorem tot_next {t t' k m : Nat} (h : t + k = m) (h' : t = t' + 1) : t' + (k + 1) = m := by omega
theorem lt_of_ne {i : Int} {k : Nat} (h : i < ((k + 1 : Nat) : Int)) (hn : i ≠ (k : Int)) : i < (k : Int) := by omega
theorem tour_step {f m k : Nat} {s s' : Int × Int × oM} (hf : 2000 < f) (hm : m ≤ 60) (hk : k < m) (hI : tuI m k s s') : ∃ t t', p_R_planTour_L18 f (m : Int) s = some (.inl t) ∧ p_M_laysTour_L43 f (m : Int) s' = some (.inl t') ∧ tuI m (k + 1) t t' := by
  obtain ⟨a, N, N', g, hs, hs', ha, hg, hg', hb, hok, htot, hrow⟩ := hI
  have ht := tot_pos htot hk
  obtain ⟨q, e1, hq⟩ := e_leastNext (f := f) hf ha hg hb hok ht
  obtain ⟨q', e2, hq'⟩ := e_laysNext (f := f) (l2 := (m : Int)) (l4 := (k : Int)) hf rfl ha hg' hb hok ht
  have eqq := lstN_uniq hq' hq
  rw [eqq] at e2
  have hq10 := hq.1
  have hpos := hq.2.1.1
  have hi := idx100 ha hq10
  have hgb := Nat.le_trans (hb a q ha hq10) (show 99 ≤ 2000 by decide)
  obtain ⟨c1, c0, c2⟩ := nat_ci hk hm
  have wk : w32 ((k : Int) + 1) = (k : Int) + 1 := w32s (Nat.le_trans (Nat.le_of_lt hk) (Nat.le_trans hm (by decide)))
  have hdt := decg_tot ha hq10 hpos
  rw [hs, hs']
  refine ⟨_, _, plan_step e1 c1 c0 c2 (Int.not_lt.2 (Int.natCast_nonneg q)) wk, lays43_step e2 c1 c0 c2 (leftOf_g hg' ha hq10) (w32p' ha hq10) hi.1 hi.2 (w32c hgb) wk, q, _, _, decg g a q, rfl, rfl, hq10, ?_, ?_, decg_le hb, hq.2.1.2, tot_next htot hdt, fun i i0 i1 => ?_⟩
  · rw [oU_row (o' := 43) (by decide)]
    exact gOf_dec hg ha hq10 hpos
  · rw [oU_row (o' := 82) (by decide)]
    exact gOf_dec hg' ha hq10 hpos
  · by_cases z : i = (k : Int)
    · rw [z, oU_at, oU_at]
    · rw [oU_i z, oU_i z, oU_o (by decide), oU_o (by decide)]
      exact hrow i i0 (lt_of_ne i1 z)
theorem plan_end {f : Nat} {m a : Int} {M : oM} : p_R_planTour_L18 f m (a, m, M) = some (.inr (0, M)) := by
  unfold p_R_planTour_L18
  simp only []
  rw [if_neg (Int.lt_irrefl m)]
theorem lays43_end {f : Nat} {m a : Int} {M : oM} : p_M_laysTour_L43 f m (a, m, M) = some (.inr (1, M)) := by
  unfold p_M_laysTour_L43
  simp only []
  rw [if_neg (Int.lt_irrefl m)]
theorem tour_rows {f m s : Nat} {Mc Mr : oM} {g : Nat → Nat → Nat} (hf : 2000 < f) (hm : m ≤ 60) (hs : s < 10) (hg : gOf (Mc 7) g) (hg' : gOf (Mr 82) g) (hb : ∀ a b, a < 10 → b < 10 → g a b ≤ 99) (hok : okRow g s) (htot : totg g = m) :
    okp (p_R_planTour f (s : Int) (m : Int) Mc) (fun q => okp (iter (p_M_laysTour_L43 f (m : Int)) f ((s : Int), 0, Mr)) (fun q' => tuQ m q q' ∧ q'.1 = 1)) := by
  unfold p_R_planTour
  rw [cpg_eq (by decide), lt_eq]
  have hfm : m < f := Nat.lt_of_le_of_lt hm (Nat.lt_trans (by decide) hf)
  refine for2_ok m (tuI m) (fun k st st' hk hI => ?_) (fun st st' hI => ?_) f f hfm hfm ⟨s, _, Mr, g, rfl, rfl, hs, fun a b ha hb' => ?_, hg', hb, hok, htot, fun i i0 i1 => absurd i1 (Int.not_lt.2 i0)⟩
  · obtain ⟨t, t', e1, e2, h⟩ := tour_step hf hm hk hI
    rw [e1, e2]
    exact h
  · obtain ⟨a, N, N', g, h1, h2, ha, hg, hg', hb, hok, htot, hrow⟩ := hI
    rw [h1, h2, plan_end, lays43_end]
    exact ⟨hrow, rfl⟩
  · have hi := idx100 ha hb'
    rw [acopy_in hi.1 (by rw [Int.zero_add]; exact hi.2), Int.sub_zero, Int.zero_add]
    exact hg a b ha hb'
theorem copy82 {f : Nat} {l1 l2 : Int} {M : oM} (hf : 2000 < f) : ∃ N : oM, iter (p_M_laysTour_L2 f l1 l2) f (0, M) = some N ∧ (∀ i : Int, 0 ≤ i → i < 100 → N 82 i = M 58 i) ∧ eqo [(82, (-1))] M N := by
  have h : okp (iter (p_M_laysTour_L2 f l1 l2) f (0, M)) (fun N => (∀ i : Int, 0 ≤ i → i < 100 → N 82 i = M 58 i) ∧ eqo [(82, (-1))] M N) := by
    refine for_ok 100 (fun n s => s.1 = (n : Int) ∧ eqo [(82, (-1))] M s.2 ∧ ∀ i : Int, 0 ≤ i → i < (n : Int) → s.2 82 i = M 58 i) ?_ ?_ f (by omega) ⟨rfl, eqo_rfl _ _, fun i i0 i1 => by omega⟩
    · intro n ⟨k, M'⟩ hn hI
      have hI' : k = (n : Int) ∧ eqo [(82, (-1))] M M' ∧ ∀ i : Int, 0 ≤ i → i < (n : Int) → M' 82 i = M 58 i := hI
      obtain ⟨hk, hI1, hI2⟩ := hI'
      subst hk
      unfold p_M_laysTour_L2
      simp only []
      rw [if_pos (by omega), w32_of (a := 0 + (n : Int)) (by omega) (by omega), bnd_eq (by omega) (by omega), bnd_eq (by omega) (by omega), lt_eq, lt_eq, w32_of (by omega) (by omega)]
      refine ⟨by show (n : Int) + 1 = ((n + 1 : Nat) : Int); omega, eqo_oUa (.head _) hI1, fun i i0 i1 => ?_⟩
      show oU M' 82 n (M' 58 (0 + (n : Int))) 82 i = _
      by_cases hi : i = n
      · subst hi; rw [oU_at, hI1 58 _ rfl, Int.zero_add]
      · rw [oU_i hi]; exact hI2 i i0 (by omega)
    · intro ⟨k, M'⟩ hI
      have hk : k = ((100 : Nat) : Int) := hI.1
      unfold p_M_laysTour_L2
      simp only []
      rw [if_neg (by omega)]
      exact ⟨hI.2.2, hI.2.1⟩
  obtain ⟨N, eN, h1⟩ := okp_ex h
  exact ⟨N, eN, h1⟩
