/-! partial runs: what is true of an answer if there is one; what a program leaves as it was -/
def par {α : Type} (x : Option α) (K : α → Prop) : Prop := ∀ a, x = some a → K a
def psum {α β : Type} (P : α → Prop) (Q : β → Prop) : α ⊕ β → Prop
  | .inl a => P a
  | .inr b => Q b
def outw (ws : List (Nat × Int)) (o : Nat) (i : Int) : Bool := ws.all (fun w => !(Nat.beq w.1 o && (w.2 == -1 || w.2 == i)))
def eqo (ws : List (Nat × Int)) (B M : oM) : Prop := ∀ o i, outw ws o i = true → M o i = B o i
def subw (ws' ws : List (Nat × Int)) : Prop := ∀ o i, outw ws o i = true → outw ws' o i = true
theorem outw_mem {ws : List (Nat × Int)} {o : Nat} {i a : Int} (h : (o, a) ∈ ws) (ha : a = -1 ∨ a = i) : outw ws o i = false := by
  unfold outw
  rw [List.all_eq_false]
  refine ⟨(o, a), h, ?_⟩
  have h1 : Nat.beq o o = true := Nat.beq_refl o
  rcases ha with rfl | rfl
  · simp [h1]
  · simp [h1]
theorem eqo_rfl (ws : List (Nat × Int)) (M : oM) : eqo ws M M := fun _ _ _ => rfl
theorem eqo_oU {ws : List (Nat × Int)} {B M : oM} {o : Nat} {i v : Int} (h : (o, i) ∈ ws) (hM : eqo ws B M) : eqo ws B (oU M o i v) := by
  intro o' i' q
  by_cases hx : o' = o ∧ i' = i
  · obtain ⟨rfl, rfl⟩ := hx
    rw [outw_mem h (.inr rfl)] at q; cases q
  · unfold oU; rw [if_neg hx]; exact hM o' i' q
theorem eqo_oUa {ws : List (Nat × Int)} {B M : oM} {o : Nat} {i v : Int} (h : (o, (-1)) ∈ ws) (hM : eqo ws B M) : eqo ws B (oU M o i v) := by
  intro o' i' q
  by_cases hx : o' = o ∧ i' = i
  · obtain ⟨rfl, rfl⟩ := hx
    rw [outw_mem h (.inl rfl)] at q; cases q
  · unfold oU; rw [if_neg hx]; exact hM o' i' q
theorem eqo_ac {ws : List (Nat × Int)} {B M : oM} {s d : Nat} {sp dp n : Int} (h : (d, (-1)) ∈ ws) (hM : eqo ws B M) : eqo ws B (acopy M s sp d dp n) := by
  intro o' i' q
  by_cases hx : o' = d
  · subst hx
    rw [outw_mem h (.inl rfl)] at q; cases q
  · unfold acopy; rw [if_neg (fun z => hx z.1)]; exact hM o' i' q
theorem subw_nil {ws : List (Nat × Int)} : subw [] ws := fun _ _ _ => rfl
theorem subw_cons {ws ws' : List (Nat × Int)} {o : Nat} {a : Int} (h : (o, a) ∈ ws) (hs : subw ws' ws) : subw ((o, a) :: ws') ws := by
  intro o' i' q
  have h2 := hs o' i' q
  unfold outw at h2 ⊢
  rw [List.all_cons, h2, Bool.and_true]
  cases hb : (Nat.beq o o' && (a == -1 || a == i')) with
  | false => rfl
  | true =>
    rw [Bool.and_eq_true, Bool.or_eq_true, beq_iff_eq, beq_iff_eq] at hb
    have := Nat.eq_of_beq_eq_true hb.1
    subst this
    rw [outw_mem h hb.2] at q; cases q
theorem subw_all {ws ws' : List (Nat × Int)} {o : Nat} {a : Int} (h : (o, (-1)) ∈ ws) (hs : subw ws' ws) : subw ((o, a) :: ws') ws := by
  intro o' i' q
  have h2 := hs o' i' q
  unfold outw at h2 ⊢
  rw [List.all_cons, h2, Bool.and_true]
  cases hb : (Nat.beq o o' && (a == -1 || a == i')) with
  | false => rfl
  | true =>
    rw [Bool.and_eq_true] at hb
    have := Nat.eq_of_beq_eq_true hb.1
    subst this
    rw [outw_mem h (.inl rfl)] at q; cases q
theorem eqo_tr {ws ws' : List (Nat × Int)} {B M M' : oM} (hs : subw ws' ws) (h1 : eqo ws B M) (h2 : eqo ws' M M') : eqo ws B M' := fun o i q => (h2 o i (hs o i q)).trans (h1 o i q)
theorem par_bnd {α : Type} {n i : Int} {k : Int → Option α} {K : α → Prop} (h : ∀ i, par (k i) K) : par (bnd n i k) K := by
  unfold bnd
  split
  · exact h i
  · intro a q; cases q
theorem par_nz {α : Type} {b : Int} {k : Int → Option α} {K : α → Prop} (h : ∀ i, par (k i) K) : par (nz b k) K := by
  unfold nz
  split
  · intro a q; cases q
  · exact h b
theorem par_cpg {α : Type} {n0 n1 sp dp n : Int} {k : Int → Option α} {K : α → Prop} (h : par (k 0) K) : par (cpg n0 n1 sp dp n k) K := by
  unfold cpg
  split
  · exact h
  · intro a q; cases q
theorem par_lt {β : Type} {ws : List (Nat × Int)} {B v : oM} {k : oM → Option β} {K : β → Prop} (hv : eqo ws B v) (h : ∀ y, eqo ws B y → par (k y) K) : par (lt v k) K := h v hv
theorem par_ltI {β : Type} {v : Int} {k : Int → Option β} {K : β → Prop} (h : ∀ y, par (k y) K) : par (lt v k) K := h v
theorem par_bind {α β : Type} {x : Option α} {g : α → Option β} {K : α → Prop} {K' : β → Prop} (h : par x K) (hg : ∀ a, K a → par (g a) K') : par (x.bind g) K' := by
  cases x with
  | none => intro a q; cases q
  | some a => exact hg a (h a rfl)
theorem par_ite {α : Type} {c : Prop} [Decidable c] {x y : Option α} {K : α → Prop} (hx : par x K) (hy : par y K) : par (if c then x else y) K := by
  split
  · exact hx
  · exact hy
theorem par_some {α : Type} {a : α} {K : α → Prop} (h : K a) : par (some a) K := fun b q => by cases q; exact h
theorem par_none {α : Type} {K : α → Prop} : par (none : Option α) K := fun b q => by cases q
theorem par_iter {S R : Type} {step : S → Option (S ⊕ R)} {I : S → Prop} {K : R → Prop} (h : ∀ s, I s → par (step s) (psum I K)) : ∀ (f : Nat) {s : S}, I s → par (iter step f s) K := by
  intro f
  induction f with
  | zero => intro s _; exact par_none
  | succ f ih =>
    intro s hs
    unfold iter
    refine par_bind (h s hs) ?_
    intro y hy
    cases y with
    | inl s' => exact ih hy
    | inr r => exact par_some hy
theorem okp_par {α : Type} {x : Option α} {K K' : α → Prop} (h : okp x K) (h' : par x K') : okp x (fun a => K a ∧ K' a) := by
  cases x with
  | none => exact h
  | some a => exact ⟨h, h' a rfl⟩
/-- a named answer out of a run that succeeds -/
theorem okp_ex {α : Type} {x : Option α} {K : α → Prop} (h : okp x K) : ∃ a, x = some a ∧ K a := by
  cases x with
  | none => exact h.elim
  | some a => exact ⟨a, rfl, h⟩
/-- a counting loop with an early end -/
theorem for_ok {S R : Type} {step : S → Option (S ⊕ R)} {Q : R → Prop} (N : Nat) (I : Nat → S → Prop) (hs : ∀ i s, i < N → I i s → okp (step s) (psum (I (i + 1)) Q)) (he : ∀ s, I N s → okp (step s) (psum (fun _ => False) Q)) : ∀ (f : Nat) {s : S}, N < f → I 0 s → okp (iter step f s) Q := by
  have key : ∀ (k i f : Nat) (s : S), i + k = N → k < f → I i s → okp (iter step f s) Q := by
    intro k
    induction k with
    | zero =>
      intro i f s hi hf hI
      match f, hf with
      | f + 1, _ =>
        unfold iter
        have : i = N := by omega
        subst this
        refine okp_bind' (okp_mono (he s hI) ?_)
        intro y hy
        cases y with
        | inl _ => exact hy.elim
        | inr r => exact hy
    | succ k ih =>
      intro i f s hi hf hI
      match f, hf with
      | f + 1, hf =>
        unfold iter
        refine okp_bind' (okp_mono (hs i s (by omega) hI) ?_)
        intro y hy
        cases y with
        | inl s' => exact ih (i + 1) f s' (by omega) (by omega) hy
        | inr r => exact hy
  intro f s hf hI
  exact key N 0 f s (by omega) hf hI
