/-! sums of debts -/
def dOk (d : Int → Int) : Prop := ∀ i : Int, 0 ≤ i → i < 100 → 0 ≤ d i ∧ d i ≤ 99
def oweS (d : Int → Int) (a : Int) : Int := sumN (fun k => d (10 * a + (k : Int))) 10
def getS (d : Int → Int) (a : Int) : Int := sumN (fun k => d (10 * (k : Int) + a)) 10
def allS (d : Int → Int) : Int := sumN (fun k => oweS d (k : Int)) 10
theorem oweS_bd {d : Int → Int} {a : Int} (h : dOk d) (ha : 0 ≤ a ∧ a < 10) : 0 ≤ oweS d a ∧ oweS d a ≤ 990 := by
  have := sumN_bd (g := fun k => d (10 * a + (k : Int))) (b := 99) 10 (fun k hk => h _ (by omega) (by omega))
  unfold oweS; omega
theorem getS_bd {d : Int → Int} {a : Int} (h : dOk d) (ha : 0 ≤ a ∧ a < 10) : 0 ≤ getS d a ∧ getS d a ≤ 990 := by
  have := sumN_bd (g := fun k => d (10 * (k : Int) + a)) (b := 99) 10 (fun k hk => h _ (by omega) (by omega))
  unfold getS; omega
theorem allS_bd {d : Int → Int} (h : dOk d) : 0 ≤ allS d ∧ allS d ≤ 9900 := by
  have := sumN_bd (g := fun k => oweS d (k : Int)) (b := 990) 10 (fun k hk => oweS_bd h ⟨by omega, by omega⟩)
  unfold allS; omega
/-- a loop that adds up: the sum s, the counter i, the memory -/
theorem sum_loop {step : Int × Int × oM → Option ((Int × Int × oM) ⊕ (Int × oM))} {g : Nat → Int} {M : oM} (N : Nat) (b : Int) (hb : 0 ≤ b ∧ b * N ≤ 2000000000) (hg : ∀ k, k < N → 0 ≤ g k ∧ g k ≤ b)
    (hs : ∀ (i : Nat) (s : Int), i < N → 0 ≤ s → s ≤ b * i → step (s, (i : Int), M) = some (.inl (s + g i, (i : Int) + 1, M))) (he : ∀ s, step (s, (N : Int), M) = some (.inr (s, M))) : ∀ f, N < f → iter step f (0, 0, M) = some (sumN g N, M) := by
  refine iter_up N (fun i => (sumN g i, (i : Int), M)) (sumN g N, M) ?_ (he _)
  intro i hi
  have h1 := sumN_bd (g := g) (b := b) i (fun k hk => hg k (by omega))
  show step (sumN g i, (i : Int), M) = _
  rw [hs i _ hi h1.1 h1.2]
  rfl
theorem e_D_owedBy' {f o : Nat} {a : Int} {M : oM} (hf : 100 < f) (ha : 0 ≤ a ∧ a < 10) (hM : dOk (M (o + 1))) : p_D_owedBy f o a M = some (oweS (M (o + 1)) a, M) := by
  unfold p_D_owedBy oweS
  refine sum_loop (g := fun k => M (o + 1) (10 * a + (k : Int))) 10 99 (by omega) (fun k hk => hM _ (by omega) (by omega)) ?_ ?_ f (by omega)
  · intro i s hi h0 h1
    have h2 := hM (10 * a + (i : Int)) (by omega) (by omega)
    unfold p_D_owedBy_L4
    simp only []
    rw [if_pos (by omega), w32_of (a := a * 10) (by omega) (by omega), w32_of (by omega) (by omega), bnd_eq (by omega) (by omega), lt_eq, lt_eq, w32_of (a := (i : Int) + 1) (by omega) (by omega), show a * 10 + (i : Int) = 10 * a + i from by omega, w32_of (by omega) (by omega)]
  · intro s
    unfold p_D_owedBy_L4
    simp only []
    rw [if_neg (by omega)]
theorem e_D_owedTo {f : Nat} {a : Int} {M : oM} (hf : 100 < f) (ha : 0 ≤ a ∧ a < 10) (hM : dOk (M 7)) : p_D_owedTo f a M = some (getS (M 7) a, M) := by
  unfold p_D_owedTo getS
  refine sum_loop (g := fun k => M 7 (10 * (k : Int) + a)) 10 99 (by omega) (fun k hk => hM _ (by omega) (by omega)) ?_ ?_ f (by omega)
  · intro i s hi h0 h1
    have h2 := hM (10 * (i : Int) + a) (by omega) (by omega)
    unfold p_D_owedTo_L4
    simp only []
    rw [if_pos (by omega), w32_of (a := (i : Int) * 10) (by omega) (by omega), w32_of (by omega) (by omega), bnd_eq (by omega) (by omega), lt_eq, lt_eq, w32_of (a := (i : Int) + 1) (by omega) (by omega), show (i : Int) * 10 + a = 10 * (i : Int) + a from by omega, w32_of (by omega) (by omega)]
  · intro s
    unfold p_D_owedTo_L4
    simp only []
    rw [if_neg (by omega)]
theorem e_M_owesAll {f : Nat} {a : Int} {M : oM} (hf : 100 < f) (ha : 0 ≤ a ∧ a < 10) (hM : dOk (M 58)) : p_M_owesAll f a M = some (oweS (M 58) a, M) := by
  unfold p_M_owesAll oweS
  refine sum_loop (g := fun k => M 58 (10 * a + (k : Int))) 10 99 (by omega) (fun k hk => hM _ (by omega) (by omega)) ?_ ?_ f (by omega)
  · intro i s hi h0 h1
    have h2 := hM (10 * a + (i : Int)) (by omega) (by omega)
    unfold p_M_owesAll_L4
    simp only []
    rw [if_pos (by omega), e_M_debtOf ha ⟨by omega, by omega⟩]
    simp only [Option.bind_some]
    rw [lt_eq, lt_eq, w32_of (a := (i : Int) + 1) (by omega) (by omega), w32_of (by omega) (by omega)]
  · intro s
    unfold p_M_owesAll_L4
    simp only []
    rw [if_neg (by omega)]
theorem e_M_owedInAll {f : Nat} {M : oM} (hf : 100 < f) (hM : dOk (M 58)) : p_M_owedInAll f M = some (allS (M 58), M) := by
  unfold p_M_owedInAll allS
  refine sum_loop (g := fun k => oweS (M 58) (k : Int)) 10 990 (by omega) (fun k hk => oweS_bd hM ⟨by omega, by omega⟩) ?_ ?_ f (by omega)
  · intro i s hi h0 h1
    have h2 := oweS_bd (a := (i : Int)) hM ⟨by omega, by omega⟩
    unfold p_M_owedInAll_L4
    simp only []
    rw [if_pos (by omega), e_M_owesAll hf ⟨by omega, by omega⟩ hM]
    simp only [Option.bind_some]
    rw [lt_eq, lt_eq, w32_of (a := (i : Int) + 1) (by omega) (by omega), w32_of (by omega) (by omega)]
  · intro s
    unfold p_M_owedInAll_L4
    simp only []
    rw [if_neg (by omega)]
theorem e_M_getsAll {f : Nat} {a : Int} {M : oM} (hf : 100 < f) (ha : 0 ≤ a ∧ a < 10) (hM : dOk (M 58)) : p_M_getsAll f a M = some (getS (M 58) a, M) := by
  unfold p_M_getsAll getS
  refine sum_loop (g := fun k => M 58 (10 * (k : Int) + a)) 10 99 (by omega) (fun k hk => hM _ (by omega) (by omega)) ?_ ?_ f (by omega)
  · intro i s hi h0 h1
    have h2 := hM (10 * (i : Int) + a) (by omega) (by omega)
    unfold p_M_getsAll_L4
    simp only []
    rw [if_pos (by omega), e_M_debtOf ⟨by omega, by omega⟩ ha]
    simp only [Option.bind_some]
    rw [lt_eq, lt_eq, w32_of (a := (i : Int) + 1) (by omega) (by omega), w32_of (by omega) (by omega)]
  · intro s
    unfold p_M_getsAll_L4
    simp only []
    rw [if_neg (by omega)]
theorem sumN_add {g : Nat → Int} (m n : Nat) : sumN g (m + n) = sumN g m + sumN (fun k => g (m + k)) n := by
  induction n with
  | zero => show sumN g m = sumN g m + 0; omega
  | succ n ih =>
    show sumN g (m + n) + g (m + n) = sumN g m + (sumN (fun k => g (m + k)) n + g (m + n))
    omega
theorem sumN_rows {d : Int → Int} (n : Nat) : sumN (fun i => d (i : Int)) (10 * n) = sumN (fun k => oweS d (k : Int)) n := by
  induction n with
  | zero => rfl
  | succ n ih =>
    rw [show 10 * (n + 1) = 10 * n + 10 from by omega, sumN_add, ih]
    show _ = sumN (fun k => oweS d (k : Int)) n + oweS d (n : Int)
    congr 1
theorem e_D_owedInAll {f o : Nat} {M : oM} (hf : 100 < f) (hM : dOk (M (o + 1))) : p_D_owedInAll f o M = some (allS (M (o + 1)), M) := by
  have e := sumN_rows (d := M (o + 1)) 10
  unfold p_D_owedInAll allS
  rw [← e]
  refine sum_loop (g := fun k => M (o + 1) (k : Int)) 100 99 (by omega) (fun k hk => hM _ (by omega) (by omega)) ?_ ?_ f (by omega)
  · intro i s hi h0 h1
    have h2 := hM (i : Int) (by omega) (by omega)
    unfold p_D_owedInAll_L4
    simp only []
    rw [if_pos (by omega), bnd_eq (by omega) (by omega), lt_eq, lt_eq, w32_of (a := (i : Int) + 1) (by omega) (by omega), w32_of (by omega) (by omega)]
  · intro s
    unfold p_D_owedInAll_L4
    simp only []
    rw [if_neg (by omega)]
