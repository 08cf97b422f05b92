/-! laws of the walked programs: guards, named values, loops -/
theorem okp_bnd_iff {α : Type} {n i : Int} {k : Int → Option α} {K : α → Prop} : okp (bnd n i k) K ↔ (0 ≤ i ∧ i < n) ∧ okp (k i) K := by
  unfold bnd
  by_cases h : 0 ≤ i ∧ i < n
  · rw [if_pos h]; exact ⟨fun q => ⟨h, q⟩, fun q => q.2⟩
  · rw [if_neg h]; exact ⟨fun q => q.elim, fun q => h q.1⟩
theorem okp_nz_iff {α : Type} {b : Int} {k : Int → Option α} {K : α → Prop} : okp (nz b k) K ↔ b ≠ 0 ∧ okp (k b) K := by
  unfold nz
  by_cases h : b = 0
  · rw [if_pos h]; exact ⟨fun q => q.elim, fun q => q.1 h⟩
  · rw [if_neg h]; exact ⟨fun q => ⟨h, q⟩, fun q => q.2⟩
theorem okp_cpg_iff {α : Type} {n0 n1 sp dp n : Int} {k : Int → Option α} {K : α → Prop} : okp (cpg n0 n1 sp dp n k) K ↔ (0 ≤ sp ∧ 0 ≤ dp ∧ 0 ≤ n ∧ sp + n ≤ n0 ∧ dp + n ≤ n1) ∧ okp (k 0) K := by
  unfold cpg
  by_cases h : 0 ≤ sp ∧ 0 ≤ dp ∧ 0 ≤ n ∧ sp + n ≤ n0 ∧ dp + n ≤ n1
  · rw [if_pos h]; exact ⟨fun q => ⟨h, q⟩, fun q => q.2⟩
  · rw [if_neg h]; exact ⟨fun q => q.elim, fun q => h q.1⟩
theorem okp_lt_iff {α β : Type} {v : α} {k : α → Option β} {K : β → Prop} : okp (lt v k) K ↔ okp (k v) K := Iff.rfl
theorem okp_some_iff {α : Type} {a : α} {K : α → Prop} : okp (some a) K ↔ K a := Iff.rfl
theorem okp_none_iff {α : Type} {K : α → Prop} : okp (none : Option α) K ↔ False := Iff.rfl
theorem okp_bind_iff {α β : Type} {x : Option α} {g : α → Option β} {K : β → Prop} : okp (x.bind g) K ↔ okp x (fun a => okp (g a) K) := ⟨okp_bind, okp_bind'⟩
theorem okp_ite_iff {α : Type} {c : Prop} [Decidable c] {x y : Option α} {K : α → Prop} : okp (if c then x else y) K ↔ (c → okp x K) ∧ (¬ c → okp y K) := by
  by_cases h : c
  · rw [if_pos h]; exact ⟨fun q => ⟨fun _ => q, fun z => absurd h z⟩, fun q => q.1 h⟩
  · rw [if_neg h]; exact ⟨fun q => ⟨fun z => absurd z h, fun _ => q⟩, fun q => q.2 h⟩
theorem okp_eq {α : Type} {x : Option α} {a : α} (h : x = some a) {K : α → Prop} (hk : K a) : okp x K := by rw [h]; exact hk
theorem okp_iff_eq {α : Type} {x : Option α} {a : α} : okp x (fun b => b = a) ↔ x = some a := by
  cases x with
  | none => exact ⟨fun h => h.elim, fun h => by cases h⟩
  | some b => exact ⟨fun h => by rw [show b = a from h], fun h => Option.some.inj h⟩
theorem okp_and {α : Type} {x : Option α} {K K' : α → Prop} (h : okp x K) (h' : okp x K') : okp x (fun a => K a ∧ K' a) := by
  cases x with
  | none => exact h
  | some b => exact ⟨h, h'⟩
theorem bnd_eq {α : Type} {n i : Int} {k : Int → Option α} (h0 : 0 ≤ i) (h1 : i < n) : bnd n i k = k i := by unfold bnd; rw [if_pos ⟨h0, h1⟩]
theorem nz_eq {α : Type} {b : Int} {k : Int → Option α} (h : b ≠ 0) : nz b k = k b := by unfold nz; rw [if_neg h]
theorem lt_eq {α β : Type} {v : α} {k : α → Option β} : lt v k = k v := rfl
theorem cpg_eq {α : Type} {n0 n1 sp dp n : Int} {k : Int → Option α} (h : 0 ≤ sp ∧ 0 ≤ dp ∧ 0 ≤ n ∧ sp + n ≤ n0 ∧ dp + n ≤ n1) : cpg n0 n1 sp dp n k = k 0 := by unfold cpg; rw [if_pos h]
/-- a loop whose states are told: st i is the state after i rounds, it ends in round N with r -/
theorem iter_up {S R : Type} {step : S → Option (S ⊕ R)} (N : Nat) (st : Nat → S) (r : R) (hs : ∀ i, i < N → step (st i) = some (.inl (st (i + 1)))) (he : step (st N) = some (.inr r)) : ∀ f, N < f → iter step f (st 0) = some r := by
  have key : ∀ (k i f : Nat), i + k = N → k < f → iter step f (st i) = some r := by
    intro k
    induction k with
    | zero =>
      intro i f hi hf
      have : i = N := by omega
      subst this
      match f, hf with
      | f + 1, _ => unfold iter; rw [he]; rfl
    | succ k ih =>
      intro i f hi hf
      match f, hf with
      | f + 1, hf =>
        unfold iter
        rw [hs i (by omega)]
        exact ih (i + 1) f (by omega) (by omega)
  intro f hf
  exact key N 0 f (by omega) hf
/-- a loop by an invariant: n rounds at most are left -/
theorem iter_ok {S R : Type} {step : S → Option (S ⊕ R)} {Q : R → Prop} (I : Nat → S → Prop) (hs : ∀ n s, I n s → okp (step s) (fun y => match y with | .inl s' => ∃ m, m < n ∧ I m s' | .inr r => Q r)) : ∀ (f n : Nat) (s : S), I n s → n < f → okp (iter step f s) Q := by
  intro f
  induction f with
  | zero => intro n s _ h; omega
  | succ f ih =>
    intro n s hI hn
    unfold iter
    refine okp_bind' (okp_mono (hs n s hI) ?_)
    intro y hy
    cases y with
    | inl s' =>
      obtain ⟨m, hm, hI'⟩ := hy
      exact ih m s' hI' (by omega)
    | inr r => exact hy
/-- sums -/
def sumN (g : Nat → Int) : Nat → Int
  | 0 => 0
  | n + 1 => sumN g n + g n
theorem sumN_bd {g : Nat → Int} {b : Int} (n : Nat) (h : ∀ k, k < n → 0 ≤ g k ∧ g k ≤ b) : 0 ≤ sumN g n ∧ sumN g n ≤ b * n := by
  induction n with
  | zero => simp [sumN]
  | succ n ih =>
    have h1 := ih (fun k hk => h k (by omega))
    have h2 := h n (by omega)
    rw [show sumN g (n + 1) = sumN g n + g n from rfl, show ((n + 1 : Nat) : Int) = (n : Int) + 1 from by omega, Int.mul_add]
    omega
theorem sumN_congr {g g' : Nat → Int} (n : Nat) (h : ∀ k, k < n → g k = g' k) : sumN g n = sumN g' n := by
  induction n with
  | zero => rfl
  | succ n ih => rw [show sumN g (n + 1) = sumN g n + g n from rfl, show sumN g' (n + 1) = sumN g' n + g' n from rfl, ih (fun k hk => h k (by omega)), h n (by omega)]
theorem w32_nn {a : Int} (h0 : 0 ≤ a) (h1 : a ≤ 2000000000) : w32 a = a := w32_of (by omega) (by omega)
