/-! two runs side by side -/
def psum2 {α α' β β' : Type} (P : α → α' → Prop) (Q : β → β' → Prop) : α ⊕ β → α' ⊕ β' → Prop
  | .inl a, .inl b => P a b
  | .inr a, .inr b => Q a b
  | _, _ => False
theorem iter2_ok {S S' R R' : Type} {step : S → Option (S ⊕ R)} {step' : S' → Option (S' ⊕ R')} {Q : R → R' → Prop} (I : Nat → S → S' → Prop)
    (h : ∀ n s s', I n s s' → okp (step s) (fun y => okp (step' s') (fun y' => psum2 (fun a b => ∃ m, m < n ∧ I m a b) Q y y'))) :
    ∀ (n f f' : Nat) {s : S} {s' : S'}, n < f → n < f' → I n s s' → okp (iter step f s) (fun r => okp (iter step' f' s') (fun r' => Q r r')) := by
  intro n
  induction n using Nat.strongRecOn with
  | ind n ih =>
    intro f f' s s' hf hf' hI
    match f, hf, f', hf' with
    | f + 1, hf, f' + 1, hf' =>
      unfold iter
      refine okp_bind' (okp_mono (h n s s' hI) ?_)
      intro y hy
      cases y with
      | inl a =>
        obtain ⟨y', e', hy'⟩ := okp_ex hy
        cases y' with
        | inl b =>
          obtain ⟨m, hm, hI'⟩ := hy'
          refine okp_mono (ih m hm f f' (by omega) (by omega) hI') ?_
          intro r hr
          rw [e']
          exact hr
        | inr b => exact hy'.elim
      | inr r =>
        obtain ⟨y', e', hy'⟩ := okp_ex hy
        rw [e']
        cases y' with
        | inl b => exact hy'.elim
        | inr b => exact hy'
/-- a counting loop side by side -/
theorem for2_ok {S S' R R' : Type} {step : S → Option (S ⊕ R)} {step' : S' → Option (S' ⊕ R')} {Q : R → R' → Prop} (N : Nat) (I : Nat → S → S' → Prop)
    (h : ∀ i s s', i < N → I i s s' → okp (step s) (fun y => okp (step' s') (fun y' => psum2 (I (i + 1)) Q y y')))
    (he : ∀ s s', I N s s' → okp (step s) (fun y => okp (step' s') (fun y' => psum2 (fun _ _ => False) Q y y'))) (f f' : Nat) {s : S} {s' : S'} (hf : N < f) (hf' : N < f') (hI : I 0 s s') :
    okp (iter step f s) (fun r => okp (iter step' f' s') (fun r' => Q r r')) := by
  refine iter2_ok (fun n s s' => n ≤ N ∧ I (N - n) s s') ?_ N f f' hf hf' ⟨Nat.le_refl N, by rw [Nat.sub_self]; exact hI⟩
  intro n s s' ⟨hn, hI⟩
  by_cases h0 : n = 0
  · subst h0
    refine okp_mono (he s s' hI) fun y hy => okp_mono hy fun y' hy' => ?_
    cases y with
    | inl a => cases y' with
      | inl b => exact hy'.elim
      | inr b => exact hy'.elim
    | inr a => cases y' with
      | inl b => exact hy'.elim
      | inr b => exact hy'
  · refine okp_mono (h (N - n) s s' (by omega) hI) fun y hy => okp_mono hy fun y' hy' => ?_
    cases y with
    | inl a => cases y' with
      | inl b => exact ⟨n - 1, by omega, by omega, by rw [show N - (n - 1) = N - n + 1 from by omega]; exact hy'⟩
      | inr b => exact hy'.elim
    | inr a => cases y' with
      | inl b => exact hy'.elim
      | inr b => exact hy'
/-! THE RELATION of the class's memory Mc to the reference's Mr -/
def tldb' (T : Nat) (p : Int) : Prop := tld T p
def p21 (a : Int) : Int := if a = -2 then -1 else a
def pplR (T : Nat) (Mc Mr : oM) : Prop :=
  T < 1024 ∧ Mc 3 2 = (T : Int) ∧ Mr 57 5 = (T : Int) ∧ spotOk (Mc 4) ∧ spotOk (Mc 5) ∧ ∀ i : Int, 0 ≤ i → i < 10 → Mr 61 i = Mc 4 i ∧ Mr 62 i = Mc 5 i
/-- the class's duchy at object o tells what the reference's row D tells -/
def dC (M : oM) (o : Nat) (D : Int → Int) : Prop :=
  (∀ i : Int, 0 ≤ i → i < 100 → M (o + 1) i = D i) ∧ (∀ i : Int, 0 ≤ i → i < 10 → M (o + 2) i = D (100 + i)) ∧ (∀ i : Int, 0 ≤ i → i < D 150 → M (o + 3) i = D (110 + i)) ∧
  M o 3 = D 150 ∧ M o 4 = p21 (D 151) ∧ (0 < D 154 → M o 5 = D 152) ∧ M o 6 = p21 (D 153) ∧ M o 7 = D 154 ∧ M o 8 = D 155 ∧ M o 9 = D 156 ∧ M o 10 = D 157 ∧ M o 11 = D 158
/-- what is true of the reference's row after h hours at most, T told -/
def rOk (T : Nat) (h : Int) (D : Int → Int) : Prop :=
  (∀ i : Int, 0 ≤ i → i < 100 → 0 ≤ D i ∧ D i ≤ 99) ∧ (∀ a b : Int, 0 ≤ a → a < 10 → 0 ≤ b → b < 10 → 0 < D (10 * a + b) → tld T a ∧ tld T b ∧ a ≠ b) ∧
  (∀ i : Int, 0 ≤ i → i < 10 → 0 ≤ D (100 + i) ∧ D (100 + i) ≤ h ∧ (0 < D (100 + i) → tld T i)) ∧
  (0 ≤ D 150 ∧ D 150 ≤ 40) ∧ (∀ i : Int, 0 ≤ i → i < D 150 → 0 ≤ D (110 + i) ∧ D (110 + i) < 10) ∧
  (D 151 = -2 ∨ tld T (D 151)) ∧ (0 ≤ D 154 ∧ D 154 ≤ 18) ∧
  (0 < D 154 → D 151 = -2 ∧ tld T (D 152) ∧ tld T (D 153) ∧ D 152 ≠ D 153) ∧ (D 154 = 0 → D 153 = -2) ∧
  (0 ≤ D 155 ∧ D 155 ≤ 23) ∧ (0 ≤ D 156 ∧ 24 * D 156 + D 155 ≤ h) ∧ (D 157 = 0 ∨ D 157 = 1) ∧ (0 ≤ D 158 ∧ D 158 ≤ 65535)
def tapR (Mc Mr : oM) : Prop :=
  (0 ≤ Mc 1 1 ∧ Mc 1 1 ≤ 260) ∧ Mr 57 7 = Mc 1 1 ∧ ∀ i : Int, 0 ≤ i → i < Mc 1 1 → (0 ≤ Mc 2 i ∧ Mc 2 i ≤ 255) ∧ iand (Mr 63 i) 255 = Mc 2 i
def keptR (T : Nat) (h : Int) (Mc Mr : oM) : Prop :=
  (Mc 0 13 = 0 ∨ Mc 0 13 = 1) ∧ Mr 57 61 = Mc 0 13 ∧ (Mc 0 13 = 1 → dC Mc 10 (Mr 60) ∧ rOk T h (Mr 60))
/-! the law's code: the class's steps and the reference's codes -/
def opn (s : Int) : Int := if s = 48 then 0 else if s = 97 then 1 else if s = 43 then 2 else if s = 45 then 3 else if s = 42 then 4 else if s = 47 then 5 else if s = 37 then 6 else if s = 60 then 7 else if s = 62 then 8 else if s = 61 then 9 else if s = 33 then 10 else if s = 38 then 11 else 12
def opOk (s : Int) : Prop := s = 48 ∨ s = 97 ∨ s = 43 ∨ s = 45 ∨ s = 42 ∨ s = 47 ∨ s = 37 ∨ s = 60 ∨ s = 62 ∨ s = 61 ∨ s = 33 ∨ s = 38 ∨ s = 124
/-- one step keeps to the stack's kinds (true: a C's 0 or 1) -/
def stp (s d : Int → Int) (b : Int) (τ : Int → List Bool) (i : Int) : Prop :=
  (s i = 48 → τ (i + 1) = false :: τ i) ∧ (s i = 97 → 0 ≤ d i ∧ d i < 8 ∧ τ (i + 1) = false :: τ i) ∧
  (s i = 33 → ∃ σ, τ i = true :: σ ∧ τ (i + 1) = true :: σ) ∧
  (s i = 38 ∨ s i = 124 → ∃ σ, τ i = true :: σ ∧ τ (i + 1) = σ ∧ i < d i ∧ d i ≤ b ∧ τ (d i) = true :: σ) ∧
  (s i = 43 ∨ s i = 45 ∨ s i = 42 ∨ s i = 47 ∨ s i = 37 → ∃ σ, τ i = false :: false :: σ ∧ τ (i + 1) = false :: σ) ∧
  (s i = 60 ∨ s i = 62 ∨ s i = 61 → ∃ σ, τ i = false :: false :: σ ∧ τ (i + 1) = true :: σ)
def Sg (s d : Int → Int) (a b : Int) (σ σ' : List Bool) : Prop :=
  a ≤ b ∧ ∃ τ : Int → List Bool, τ a = σ ∧ τ b = σ' ∧ ∀ i : Int, a ≤ i → i < b → (τ i).length ≤ 60 ∧ opOk (s i) ∧ stp s d b τ i
def lawR (Mc Mr : oM) : Prop :=
  Mr 57 16 = Mc 18 10 ∧ (0 ≤ Mc 18 10 ∧ Mc 18 10 ≤ 16) ∧ ∃ N : Int, (0 ≤ N ∧ N ≤ 240) ∧
  (∀ i : Int, 0 ≤ i → i < N → (0 ≤ Mc 20 i ∧ Mc 20 i < 1048576) ∧ Mr 70 i = 1048576 * opn (Mc 19 i) + Mc 20 i) ∧
  (∀ q : Int, 0 ≤ q → q < Mc 18 10 → Mr 71 q = Mc 21 q ∧ Mr 72 q = Mc 22 q ∧ Mr 73 q = Mc 23 q ∧ Mr 74 q = Mc 24 q ∧ (0 ≤ Mc 22 q ∧ Mc 22 q ≤ Mc 23 q ∧ Mc 23 q ≤ Mc 24 q ∧ Mc 24 q ≤ N) ∧
    (Mc 21 q ≠ 115 → Sg (Mc 19) (Mc 20) (Mc 22 q) (Mc 23 q) [] [false]) ∧ Sg (Mc 19) (Mc 20) (Mc 23 q) (Mc 24 q) [] [true])
def Rel (T : Nat) (c : Int) (Mc Mr : oM) : Prop :=
  pplR T Mc Mr ∧ dC Mc 6 (Mr 58) ∧ rOk T (240 * c) (Mr 58) ∧ keptR T (240 * c) Mc Mr ∧ tapR Mc Mr ∧ lawR Mc Mr ∧ Mc 56 0 = 0
/-! places that stay -/
def outa (ws : List (Nat × Int)) (o : Nat) : Bool := ws.all (fun w => !(Nat.beq w.1 o))
theorem outa_w {ws : List (Nat × Int)} {o : Nat} (h : outa ws o = true) (i : Int) : outw ws o i = true := by
  unfold outa at h
  unfold outw
  rw [List.all_eq_true] at h ⊢
  intro w hw
  have h1 := h w hw
  cases hb : Nat.beq w.1 o with
  | false => simp
  | true => rw [hb] at h1; cases h1
theorem eqo_a {ws : List (Nat × Int)} {B M : oM} (e : eqo ws B M) (o : Nat) (h : outa ws o = true) : M o = B o := funext fun i => e o i (outa_w h i)
theorem eqo_f {ws : List (Nat × Int)} {B M : oM} (e : eqo ws B M) (o : Nat) (i : Int) (h : outw ws o i = true) : M o i = B o i := e o i h
theorem pplR_eqo {T : Nat} {Mc Mr Mc' Mr' : oM} {w1 w2 : List (Nat × Int)} (h : pplR T Mc Mr) (e1 : eqo w1 Mc Mc') (e2 : eqo w2 Mr Mr') (k : (outw w1 3 2 && (outa w1 4 && (outa w1 5 && (outw w2 57 5 && (outa w2 61 && outa w2 62))))) = true) : pplR T Mc' Mr' := by
  simp only [Bool.and_eq_true] at k
  obtain ⟨k1, k2, k3, k4, k5, k6⟩ := k
  unfold pplR
  rw [e1 3 2 k1, eqo_a e1 4 k2, eqo_a e1 5 k3, e2 57 5 k4, eqo_a e2 61 k5, eqo_a e2 62 k6]
  exact h
theorem dC_eqo {M M' : oM} {w : List (Nat × Int)} {o : Nat} {D : Int → Int} (h : dC M o D) (e : eqo w M M') (k : (outa w o && (outa w (o + 1) && (outa w (o + 2) && outa w (o + 3)))) = true) : dC M' o D := by
  simp only [Bool.and_eq_true] at k
  obtain ⟨k1, k2, k3, k4⟩ := k
  unfold dC
  rw [eqo_a e o k1, eqo_a e (o + 1) k2, eqo_a e (o + 2) k3, eqo_a e (o + 3) k4]
  exact h
theorem tapR_eqo {Mc Mr Mc' Mr' : oM} {w1 w2 : List (Nat × Int)} (h : tapR Mc Mr) (e1 : eqo w1 Mc Mc') (e2 : eqo w2 Mr Mr') (k : (outw w1 1 1 && (outa w1 2 && (outw w2 57 7 && outa w2 63))) = true) : tapR Mc' Mr' := by
  simp only [Bool.and_eq_true] at k
  obtain ⟨k1, k2, k3, k4⟩ := k
  unfold tapR
  rw [e1 1 1 k1, eqo_a e1 2 k2, e2 57 7 k3, eqo_a e2 63 k4]
  exact h
theorem keptR_eqo {T : Nat} {h : Int} {Mc Mr Mc' Mr' : oM} {w1 w2 : List (Nat × Int)} (hk : keptR T h Mc Mr) (e1 : eqo w1 Mc Mc') (e2 : eqo w2 Mr Mr') (k : (outw w1 0 13 && (outa w1 10 && (outa w1 11 && (outa w1 12 && (outa w1 13 && (outw w2 57 61 && outa w2 60)))))) = true) : keptR T h Mc' Mr' := by
  simp only [Bool.and_eq_true] at k
  obtain ⟨k1, k2, k3, k4, k5, k6, k7⟩ := k
  unfold keptR dC
  rw [e1 0 13 k1, eqo_a e1 10 k2, eqo_a e1 (10 + 1) k3, eqo_a e1 (10 + 2) k4, eqo_a e1 (10 + 3) k5, e2 57 61 k6, eqo_a e2 60 k7]
  exact hk
theorem lawR_eqo {Mc Mr Mc' Mr' : oM} {w1 w2 : List (Nat × Int)} (h : lawR Mc Mr) (e1 : eqo w1 Mc Mc') (e2 : eqo w2 Mr Mr') (k : (outw w1 18 10 && (outa w1 19 && (outa w1 20 && (outa w1 21 && (outa w1 22 && (outa w1 23 && (outa w1 24 && (outw w2 57 16 && (outa w2 70 && (outa w2 71 && (outa w2 72 && (outa w2 73 && outa w2 74)))))))))))) = true) : lawR Mc' Mr' := by
  simp only [Bool.and_eq_true] at k
  obtain ⟨k1, k2, k3, k4, k5, k6, k7, k8, k9, k10, k11, k12, k13⟩ := k
  unfold lawR
  rw [e1 18 10 k1, eqo_a e1 19 k2, eqo_a e1 20 k3, eqo_a e1 21 k4, eqo_a e1 22 k5, eqo_a e1 23 k6, eqo_a e1 24 k7, e2 57 16 k8, eqo_a e2 70 k9, eqo_a e2 71 k10, eqo_a e2 72 k11, eqo_a e2 73 k12, eqo_a e2 74 k13]
  exact h
/-! the relation is of the class's part of the one and of the reference's of the other -/
theorem Rel_loc {T : Nat} {c : Int} {Mc Mr Mc' Mr' : oM} (h : Rel T c Mc Mr) (e1 : ∀ o : Nat, o < 57 → Mc' o = Mc o) (e2 : ∀ o : Nat, 57 ≤ o → Mr' o = Mr o) : Rel T c Mc' Mr' := by
  unfold Rel pplR keptR tapR lawR dC at h ⊢
  simp only [e1 0 (by omega), e1 1 (by omega), e1 2 (by omega), e1 3 (by omega), e1 4 (by omega), e1 5 (by omega), e1 6 (by omega), e1 (6 + 1) (by omega), e1 (6 + 2) (by omega), e1 (6 + 3) (by omega), e1 10 (by omega), e1 (10 + 1) (by omega), e1 (10 + 2) (by omega), e1 (10 + 3) (by omega), e1 18 (by omega), e1 19 (by omega), e1 20 (by omega), e1 21 (by omega), e1 22 (by omega), e1 23 (by omega), e1 24 (by omega), e1 56 (by omega), e2 57 (by omega), e2 58 (by omega), e2 60 (by omega), e2 61 (by omega), e2 62 (by omega), e2 63 (by omega), e2 70 (by omega), e2 71 (by omega), e2 72 (by omega), e2 73 (by omega), e2 74 (by omega)]
  exact h
theorem okp_det {α : Type} {x : Option α} {a : α} {K : α → Prop} (h : okp x K) (e : x = some a) : K a := by rw [e] at h; exact h
theorem outa_lo {ws : List (Nat × Int)} {o : Nat} (k : ws.all (fun w => decide (w.1 < 57)) = true) (h : 57 ≤ o) : outa ws o = true := by
  unfold outa
  rw [List.all_eq_true] at k ⊢
  intro w hw
  have := of_decide_eq_true (k w hw)
  cases hb : Nat.beq w.1 o with
  | false => rfl
  | true => have := Nat.eq_of_beq_eq_true hb; omega
theorem outa_hi {ws : List (Nat × Int)} {o : Nat} (k : ws.all (fun w => decide (57 ≤ w.1)) = true) (h : o < 57) : outa ws o = true := by
  unfold outa
  rw [List.all_eq_true] at k ⊢
  intro w hw
  have := of_decide_eq_true (k w hw)
  cases hb : Nat.beq w.1 o with
  | false => rfl
  | true => have := Nat.eq_of_beq_eq_true hb; omega
/-- one call: the class's on the memory, then the reference's on what it left -/
theorem wrap {C R : oM → Option (Int × oM)} {w1 w2 : List (Nat × Int)} {T : Nat} {c : Int} {M : oM} (hC : ∀ M : oM, par (C M) (fun q => eqo w1 M q.2)) (hR : ∀ M : oM, par (R M) (fun q => eqo w2 M q.2))
    (k1 : w1.all (fun w => decide (w.1 < 57)) = true) (k2 : w2.all (fun w => decide (57 ≤ w.1)) = true)
    (hcall : ∀ Mc Mr : oM, Rel T c Mc Mr → okp (C Mc) (fun q => okp (R Mr) (fun q' => q.1 = q'.1 ∧ ∃ T', Rel T' (c + 1) q.2 q'.2))) (h : Rel T c M M) :
    okp (C M) (fun q => okp (R q.2) (fun q' => q.1 = q'.1 ∧ ∃ T', Rel T' (c + 1) q'.2 q'.2)) := by
  obtain ⟨a, ea, _⟩ := okp_ex (hcall M M h)
  have fa := hC M a ea
  have h2 := okp_det (hcall M a.2 (Rel_loc h (fun _ _ => rfl) (fun o ho => eqo_a fa o (outa_lo k1 ho)))) ea
  rw [ea]
  show okp (R a.2) _
  obtain ⟨b, eb, hb, T', hb'⟩ := okp_ex h2
  have fb := hR a.2 b eb
  rw [eb]
  exact ⟨hb, T', Rel_loc hb' (fun o ho => eqo_a fb o (outa_hi k2 ho)) (fun _ _ => rfl)⟩
/-! the rows' facts by their places alone -/
theorem rOk_congr {T : Nat} {h : Int} {D D' : Int → Int} (hd : rOk T h D) (he : ∀ i : Int, 0 ≤ i → i < 159 → D' i = D i) : rOk T h D' := by
  obtain ⟨h1, h2, h3, h4, h5, h6, h7, h8, h9, h10, h11, h12, h13⟩ := hd
  have e0 := he 150 (by omega) (by omega)
  unfold rOk
  rw [e0, he 151 (by omega) (by omega), he 152 (by omega) (by omega), he 153 (by omega) (by omega), he 154 (by omega) (by omega), he 155 (by omega) (by omega), he 156 (by omega) (by omega), he 157 (by omega) (by omega), he 158 (by omega) (by omega)]
  refine ⟨fun i a b => by rw [he i (by omega) (by omega)]; exact h1 i a b, fun a b a0 a1 b0 b1 q => ?_, fun i a b => by rw [he (100 + i) (by omega) (by omega)]; exact h3 i a b, h4, fun i a b => by rw [he (110 + i) (by omega) (by omega)]; exact h5 i a b, h6, h7, h8, h9, h10, h11, h12, h13⟩
  rw [he (10 * a + b) (by omega) (by omega)] at q
  exact h2 a b a0 a1 b0 b1 q
theorem rOk_mono {T : Nat} {h h' : Int} {D : Int → Int} (hd : rOk T h D) (hh : h ≤ h') : rOk T h' D := by
  obtain ⟨h1, h2, h3, h4, h5, h6, h7, h8, h9, h10, h11, h12, h13⟩ := hd
  exact ⟨h1, h2, fun i a b => ⟨(h3 i a b).1, by have := (h3 i a b).2.1; omega, (h3 i a b).2.2⟩, h4, h5, h6, h7, h8, h9, h10, ⟨h11.1, by omega⟩, h12, h13⟩
theorem dC_congr {M : oM} {o : Nat} {T : Nat} {h : Int} {D D' : Int → Int} (hc : dC M o D) (hd : rOk T h D) (he : ∀ i : Int, 0 ≤ i → i < 159 → D' i = D i) : dC M o D' := by
  obtain ⟨h1, h2, h3, h4⟩ := hc
  have hb := hd.2.2.2.1
  unfold dC
  rw [he 150 (by omega) (by omega), he 151 (by omega) (by omega), he 152 (by omega) (by omega), he 153 (by omega) (by omega), he 154 (by omega) (by omega), he 155 (by omega) (by omega), he 156 (by omega) (by omega), he 157 (by omega) (by omega), he 158 (by omega) (by omega)]
  exact ⟨fun i a b => by rw [he i (by omega) (by omega)]; exact h1 i a b, fun i a b => by rw [he (100 + i) (by omega) (by omega)]; exact h2 i a b, fun i a b => by rw [he (110 + i) (by omega) (by omega)]; exact h3 i a b, h4⟩
theorem keptR_mono {T : Nat} {h h' : Int} {Mc Mr : oM} (hk : keptR T h Mc Mr) (hh : h ≤ h') : keptR T h' Mc Mr := ⟨hk.1, hk.2.1, fun q => ⟨(hk.2.2 q).1, rOk_mono (hk.2.2 q).2 hh⟩⟩
theorem Rel_mono {T : Nat} {c c' : Int} {Mc Mr : oM} (h : Rel T c Mc Mr) (hh : c ≤ c') : Rel T c' Mc Mr := by
  obtain ⟨h1, h2, h3, h4, h5⟩ := h
  exact ⟨h1, h2, rOk_mono h3 (by omega), keptR_mono h4 (by omega), h5⟩
def relK (w1 w2 : List (Nat × Int)) : Bool :=
  (outw w1 3 2 && (outa w1 4 && (outa w1 5 && (outw w2 57 5 && (outa w2 61 && outa w2 62))))) &&
  ((outa w1 6 && (outa w1 (6 + 1) && (outa w1 (6 + 2) && outa w1 (6 + 3)))) &&
  ((outw w1 0 13 && (outa w1 10 && (outa w1 11 && (outa w1 12 && (outa w1 13 && (outw w2 57 61 && outa w2 60)))))) &&
  ((outw w1 1 1 && (outa w1 2 && (outw w2 57 7 && outa w2 63))) &&
  (outw w1 18 10 && (outa w1 19 && (outa w1 20 && (outa w1 21 && (outa w1 22 && (outa w1 23 && (outa w1 24 && (outw w2 57 16 && (outa w2 70 && (outa w2 71 && (outa w2 72 && (outa w2 73 && outa w2 74)))))))))))))))
theorem Rel_eqo {T : Nat} {c : Int} {Mc Mr Mc' Mr' : oM} {w1 w2 : List (Nat × Int)} (h : Rel T c Mc Mr) (e1 : eqo w1 Mc Mc') (e2 : eqo w2 Mr Mr') (k : relK w1 w2 = true) (h58 : ∀ i : Int, 0 ≤ i → i < 159 → Mr' 58 i = Mr 58 i) (h56 : Mc' 56 0 = 0) : Rel T (c + 1) Mc' Mr' := by
  unfold relK at k
  obtain ⟨k1, k⟩ := (Bool.and_eq_true _ _).mp k
  obtain ⟨k2, k⟩ := (Bool.and_eq_true _ _).mp k
  obtain ⟨k3, k⟩ := (Bool.and_eq_true _ _).mp k
  obtain ⟨k4, k5⟩ := (Bool.and_eq_true _ _).mp k
  obtain ⟨h1, h2, h3, h4, h5, h6, h7⟩ := h
  refine ⟨pplR_eqo h1 e1 e2 k1, dC_congr (dC_eqo h2 e1 k2) h3 h58, rOk_mono (rOk_congr h3 h58) (by omega), keptR_mono (keptR_eqo h4 e1 e2 k3) (by omega), tapR_eqo h5 e1 e2 k4, lawR_eqo h6 e1 e2 k5, h56⟩
