/-! THE LAW: pieces of code and what they do to the stack's kinds -/
theorem Sg_refl {s d : Int → Int} {a : Int} {σ : List Bool} : Sg s d a a σ σ := ⟨Int.le_refl a, fun _ => σ, rfl, rfl, fun i h1 h2 => by omega⟩
theorem Sg_congr {s d s' d' : Int → Int} {a b : Int} {σ σ' : List Bool} (h : Sg s d a b σ σ') (hs : ∀ i : Int, a ≤ i → i < b → s' i = s i ∧ d' i = d i) : Sg s' d' a b σ σ' := by
  obtain ⟨h1, τ, h2, h3, h4⟩ := h
  refine ⟨h1, τ, h2, h3, fun i i0 i1 => ?_⟩
  have e := hs i i0 i1
  have g := h4 i i0 i1
  unfold stp at g ⊢
  rw [e.1, e.2]
  exact g
theorem Sg_comp {s d : Int → Int} {a c b : Int} {σ σ1 σ2 : List Bool} (h : Sg s d a c σ σ1) (h' : Sg s d c b σ1 σ2) : Sg s d a b σ σ2 := by
  obtain ⟨h1, τ, h2, h3, h4⟩ := h
  obtain ⟨g1, υ, g2, g3, g4⟩ := h'
  have eL : ∀ j : Int, j ≤ c → (if j < c then τ j else υ j) = τ j := fun j hj => by
    by_cases q : j < c
    · rw [if_pos q]
    · have : j = c := by omega
      rw [if_neg q, this, g2, h3]
  have eR : ∀ j : Int, c ≤ j → (if j < c then τ j else υ j) = υ j := fun j hj => if_neg (by omega)
  refine ⟨by omega, fun j => if j < c then τ j else υ j, (eL a h1).trans h2, (eR b g1).trans g3, fun i i0 i1 => ?_⟩
  by_cases q : i < c
  · obtain ⟨k1, k2, k3, k4, k5, k6, k7, k8⟩ := h4 i i0 q
    refine ⟨by show (if i < c then τ i else υ i).length ≤ 60; rw [eL i (by omega)]; exact k1, k2, ?_⟩
    unfold stp
    simp only [eL i (by omega), eL (i + 1) (by omega)]
    refine ⟨k3, k4, k5, fun z => ?_, k7, k8⟩
    obtain ⟨ρ, m1, m2, m3, m4, m5⟩ := k6 z
    exact ⟨ρ, m1, m2, m3, by omega, by rw [eL (d i) m4]; exact m5⟩
  · obtain ⟨k1, k2, k3, k4, k5, k6, k7, k8⟩ := g4 i (by omega) i1
    refine ⟨by show (if i < c then τ i else υ i).length ≤ 60; rw [eR i (by omega)]; exact k1, k2, ?_⟩
    unfold stp
    simp only [eR i (by omega), eR (i + 1) (by omega)]
    refine ⟨k3, k4, k5, fun z => ?_, k7, k8⟩
    obtain ⟨ρ, m1, m2, m3, m4, m5⟩ := k6 z
    exact ⟨ρ, m1, m2, m3, m4, by rw [eR (d i) (by omega)]; exact m5⟩
/-- one step that is no jump -/
def stp1 (x y : Int) (σ σ' : List Bool) : Prop :=
  (x = 48 → σ' = false :: σ) ∧ (x = 97 → 0 ≤ y ∧ y < 8 ∧ σ' = false :: σ) ∧ (x = 33 → ∃ ρ, σ = true :: ρ ∧ σ' = true :: ρ) ∧ ¬ (x = 38 ∨ x = 124) ∧
  (x = 43 ∨ x = 45 ∨ x = 42 ∨ x = 47 ∨ x = 37 → ∃ ρ, σ = false :: false :: ρ ∧ σ' = false :: ρ) ∧ (x = 60 ∨ x = 62 ∨ x = 61 → ∃ ρ, σ = false :: false :: ρ ∧ σ' = true :: ρ)
theorem Sg_one {s d : Int → Int} {a : Int} {σ σ' : List Bool} (hl : σ.length ≤ 60) (ho : opOk (s a)) (h : stp1 (s a) (d a) σ σ') : Sg s d a (a + 1) σ σ' := by
  obtain ⟨h1, h2, h3, h4, h5, h6⟩ := h
  refine ⟨by omega, fun j => if j = a then σ else σ', if_pos rfl, if_neg (by omega), fun i i0 i1 => ?_⟩
  have ei : i = a := by omega
  subst ei
  refine ⟨by show (if i = i then σ else σ').length ≤ 60; rw [if_pos rfl]; exact hl, ho, ?_⟩
  unfold stp
  simp only [if_true, if_neg (show ¬ i + 1 = i by omega)]
  exact ⟨h1, h2, h3, fun z => absurd z h4, h5, h6⟩
theorem Sg_num {s d : Int → Int} {a : Int} {σ : List Bool} (hl : σ.length ≤ 60) (h : s a = 48) : Sg s d a (a + 1) σ (false :: σ) :=
  Sg_one hl (by rw [h]; exact .inl rfl) (by rw [h]; exact ⟨fun _ => rfl, fun z => absurd z (by decide), fun z => absurd z (by decide), by decide, fun z => absurd z (by decide), fun z => absurd z (by decide)⟩)
theorem Sg_let {s d : Int → Int} {a : Int} {σ : List Bool} (hl : σ.length ≤ 60) (h : s a = 97) (hd : 0 ≤ d a ∧ d a < 8) : Sg s d a (a + 1) σ (false :: σ) :=
  Sg_one hl (by rw [h]; exact .inr (.inl rfl)) (by rw [h]; exact ⟨fun z => absurd z (by decide), fun _ => ⟨hd.1, hd.2, rfl⟩, fun z => absurd z (by decide), by decide, fun z => absurd z (by decide), fun z => absurd z (by decide)⟩)
theorem Sg_bin {s d : Int → Int} {a x : Int} {σ : List Bool} (hl : σ.length ≤ 58) (h : s a = x) (hx : x = 43 ∨ x = 45 ∨ x = 42 ∨ x = 47 ∨ x = 37) : Sg s d a (a + 1) (false :: false :: σ) (false :: σ) := by
  refine Sg_one (by show σ.length + 1 + 1 ≤ 60; omega) ?_ ?_
  · rw [h]
    unfold opOk
    omega
  · rw [h]
    refine ⟨fun z => by omega, fun z => by omega, fun z => by omega, fun z => by omega, fun _ => ⟨σ, rfl, rfl⟩, fun z => by omega⟩
theorem Sg_cmp {s d : Int → Int} {a x : Int} {σ : List Bool} (hl : σ.length ≤ 58) (h : s a = x) (hx : x = 60 ∨ x = 62 ∨ x = 61) : Sg s d a (a + 1) (false :: false :: σ) (true :: σ) := by
  refine Sg_one (by show σ.length + 1 + 1 ≤ 60; omega) ?_ ?_
  · rw [h]
    unfold opOk
    omega
  · rw [h]
    refine ⟨fun z => by omega, fun z => by omega, fun z => by omega, fun z => by omega, fun z => by omega, fun _ => ⟨σ, rfl, rfl⟩⟩
theorem Sg_not {s d : Int → Int} {a : Int} {σ : List Bool} (hl : σ.length ≤ 59) (h : s a = 33) : Sg s d a (a + 1) (true :: σ) (true :: σ) := by
  refine Sg_one (by show σ.length + 1 ≤ 60; omega) ?_ ?_
  · rw [h]
    unfold opOk
    omega
  · rw [h]
    refine ⟨fun z => by omega, fun z => by omega, fun _ => ⟨σ, rfl, rfl⟩, fun z => by omega, fun z => by omega, fun z => by omega⟩
/-- a test, a jump behind it, another test: the jump lands at the end -/
theorem Sg_jump {s d : Int → Int} {a m b : Int} {σ : List Bool} (hl : σ.length ≤ 59) (h1 : Sg s d a m σ (true :: σ)) (hm : s m = 38 ∨ s m = 124) (hd : d m = b) (h2 : Sg s d (m + 1) b σ (true :: σ)) : Sg s d a b σ (true :: σ) := by
  refine Sg_comp h1 ?_
  obtain ⟨g1, υ, g2, g3, g4⟩ := h2
  refine ⟨by omega, fun j => if j ≤ m then true :: σ else υ j, if_pos (Int.le_refl m), (if_neg (by omega)).trans g3, fun i i0 i1 => ?_⟩
  have eR : ∀ j : Int, m + 1 ≤ j → (if j ≤ m then true :: σ else υ j) = υ j := fun j hj => if_neg (by omega)
  by_cases q : i = m
  · subst q
    refine ⟨by show (if i ≤ i then true :: σ else υ i).length ≤ 60; rw [if_pos (Int.le_refl i)]; show σ.length + 1 ≤ 60; omega, ?_, ?_⟩
    · unfold opOk; omega
    · unfold stp
      simp only [if_pos (Int.le_refl i), eR (i + 1) (by omega), g2, hd]
      refine ⟨fun z => by omega, fun z => by omega, fun z => by omega, fun _ => ⟨σ, rfl, if_neg (by omega), by omega, Int.le_refl b, by rw [eR b g1]; exact g3⟩, fun z => by omega, fun z => by omega⟩
  · obtain ⟨k1, k2, k3, k4, k5, k6, k7, k8⟩ := g4 i (by omega) i1
    refine ⟨by show (if i ≤ m then true :: σ else υ i).length ≤ 60; rw [eR i (by omega)]; exact k1, k2, ?_⟩
    unfold stp
    simp only [eR i (by omega), eR (i + 1) (by omega)]
    refine ⟨k3, k4, k5, fun z => ?_, k7, k8⟩
    obtain ⟨ρ, m1, m2, m3, m4, m5⟩ := k6 z
    exact ⟨ρ, m1, m2, m3, m4, by rw [eR (d i) (by omega)]; exact m5⟩
