/-! Euler's rule for rows that pay all: pure mathematics over graphs of ten -/
def sN (f : Nat → Nat) : Nat → Nat
  | 0 => 0
  | n + 1 => sN f n + f n
theorem sN_congr {f g : Nat → Nat} (n : Nat) (h : ∀ k, k < n → f k = g k) : sN f n = sN g n := by
  induction n with
  | zero => rfl
  | succ n ih => unfold sN; rw [ih (fun k hk => h k (by omega)), h n (by omega)]
theorem sN_add {f g : Nat → Nat} (n : Nat) : sN (fun k => f k + g k) n = sN f n + sN g n := by
  induction n with
  | zero => rfl
  | succ n ih => unfold sN; rw [ih]; omega
theorem sN_zero (n : Nat) : sN (fun _ => 0) n = 0 := by
  induction n with
  | zero => rfl
  | succ n ih => unfold sN; rw [ih]
theorem sN_swap {f : Nat → Nat → Nat} (n m : Nat) : sN (fun a => sN (fun b => f a b) m) n = sN (fun b => sN (fun a => f a b) n) m := by
  induction n with
  | zero => show 0 = _; rw [show sN (fun b => sN (fun a => f a b) 0) m = sN (fun _ => 0) m from rfl, sN_zero]
  | succ n ih =>
    show sN _ n + sN (fun b => f n b) m = _
    rw [ih, ← sN_add]; rfl
theorem sN_pos {f : Nat → Nat} (n : Nat) (h : 0 < sN f n) : ∃ k, k < n ∧ 0 < f k := by
  induction n with
  | zero => exact absurd h (by unfold sN; omega)
  | succ n ih =>
    by_cases q : 0 < f n
    · exact ⟨n, by omega, q⟩
    · unfold sN at h
      obtain ⟨k, hk, hf⟩ := ih (by omega)
      exact ⟨k, by omega, hf⟩
theorem sN_le {f : Nat → Nat} (n k : Nat) (hk : k < n) : f k ≤ sN f n := by
  induction n with
  | zero => omega
  | succ n ih =>
    unfold sN
    by_cases q : k = n
    · subst q; omega
    · have := ih (by omega); omega
theorem sN_mono {f g : Nat → Nat} (n : Nat) (h : ∀ k, k < n → f k ≤ g k) : sN f n ≤ sN g n := by
  induction n with
  | zero => exact Nat.le_refl _
  | succ n ih => unfold sN; have := ih (fun k hk => h k (by omega)); have := h n (by omega); omega
/-- one place more -/
theorem sN_one {f g : Nat → Nat} (n j : Nat) (hj : j < n) (h : ∀ k, k < n → k ≠ j → f k = g k) (hf : f j = g j + 1) : sN f n = sN g n + 1 := by
  induction n with
  | zero => omega
  | succ n ih =>
    unfold sN
    by_cases q : j = n
    · subst q
      rw [sN_congr j (fun k hk => h k (by omega) (by omega)), hf]; omega
    · rw [ih (by omega) (fun k hk => h k (by omega)), h n (by omega) (Ne.symm q)]; omega
theorem sN_ind (n s : Nat) (hs : s < n) : sN (fun v => if v = s then 1 else 0) n = 1 := by
  have := sN_one (f := fun v => if v = s then 1 else 0) (g := fun _ => 0) n s hs (fun k _ hk => by simp [hk]) (by simp)
  rw [this, sN_zero]
theorem sN_eq {f g : Nat → Nat} (n : Nat) (h : ∀ k, k < n → f k ≤ g k) (he : sN f n = sN g n) : ∀ k, k < n → f k = g k := by
  induction n with
  | zero => intro k hk; omega
  | succ n ih =>
    unfold sN at he
    have h1 := sN_mono n (fun k hk => h k (by omega))
    have h2 := h n (by omega)
    intro k hk
    by_cases q : k = n
    · subst q; omega
    · exact ih (fun k hk => h k (by omega)) (by omega) k (by omega)
def outg (g : Nat → Nat → Nat) (v : Nat) : Nat := sN (fun b => g v b) 10
def ing (g : Nat → Nat → Nat) (v : Nat) : Nat := sN (fun a => g a v) 10
def totg (g : Nat → Nat → Nat) : Nat := sN (fun v => outg g v) 10
def decg (g : Nat → Nat → Nat) (s q : Nat) : Nat → Nat → Nat := fun a b => if a = s ∧ b = q then g a b - 1 else g a b
def ind1 (a b : Nat) : Nat := if a = b then 1 else 0
def Bal (g : Nat → Nat → Nat) (s t : Nat) : Prop := ∀ v, v < 10 → outg g v + ind1 v t = ing g v + ind1 v s
def Rn (g : Nat → Nat → Nat) (s : Nat) : Nat → Nat → Prop
  | 0, v => v = s
  | n + 1, v => ∃ u, u < 10 ∧ Rn g s n u ∧ 0 < g u v ∧ v < 10
def Rc (g : Nat → Nat → Nat) (s v : Nat) : Prop := ∃ n, Rn g s n v
def Cov (g : Nat → Nat → Nat) (s : Nat) : Prop := ∀ v, v < 10 → 0 < outg g v → Rc g s v
theorem Rc_refl {g : Nat → Nat → Nat} {s : Nat} : Rc g s s := ⟨0, rfl⟩
theorem Rc_step {g : Nat → Nat → Nat} {s u v : Nat} (h : Rc g s u) (hu : u < 10) (hv : v < 10) (hg : 0 < g u v) : Rc g s v := by
  obtain ⟨n, h⟩ := h
  exact ⟨n + 1, u, hu, h, hg, hv⟩
theorem Rc_ind {g : Nat → Nat → Nat} {s : Nat} {P : Nat → Prop} (h0 : P s) (hs : ∀ u v, u < 10 → v < 10 → Rc g s u → P u → 0 < g u v → P v) : ∀ v, Rc g s v → P v := by
  intro v ⟨n, h⟩
  induction n generalizing v with
  | zero => rw [show v = s from h]; exact h0
  | succ n ih =>
    obtain ⟨u, hu, h1, h2, h3⟩ := h
    exact hs u v hu h3 ⟨n, h1⟩ (ih u h1) h2
theorem Rc_mono {g g' : Nat → Nat → Nat} {s : Nat} (h : ∀ a b, a < 10 → b < 10 → 0 < g a b → 0 < g' a b) : ∀ v, Rc g s v → Rc g' s v := Rc_ind Rc_refl (fun u v hu hv _ h1 h2 => Rc_step h1 hu hv (h u v hu hv h2))
theorem Rc_head {g : Nat → Nat → Nat} {s q : Nat} (hs : s < 10) (hq : q < 10) (hg : 0 < g s q) : ∀ v, Rc g q v → Rc g s v := Rc_ind (Rc_step Rc_refl hs hq hg) (fun _ _ hu hv _ h1 h2 => Rc_step h1 hu hv h2)
theorem Rc_lt {g : Nat → Nat → Nat} {s v : Nat} (hs : s < 10) (h : Rc g s v) : v < 10 := by
  obtain ⟨n, h⟩ := h
  cases n with
  | zero => rw [show v = s from h]; exact hs
  | succ n => obtain ⟨_, _, _, _, h⟩ := h; exact h
def Trl : List Nat → (Nat → Nat → Nat) → Nat → Nat → Prop
  | [], g, s, t => s = t ∧ ∀ a b, a < 10 → b < 10 → g a b = 0
  | q :: l, g, s, t => q < 10 ∧ 0 < g s q ∧ Trl l (decg g s q) q t
theorem Trl_congr : ∀ (l : List Nat) {g g' : Nat → Nat → Nat} {s t : Nat}, s < 10 → (∀ a b, a < 10 → b < 10 → g a b = g' a b) → Trl l g s t → Trl l g' s t := by
  intro l
  induction l with
  | nil => intro g g' s t _ h ht; exact ⟨ht.1, fun a b ha hb => by rw [← h a b ha hb]; exact ht.2 a b ha hb⟩
  | cons q l ih =>
    intro g g' s t hs h ht
    refine ⟨ht.1, by rw [← h s q hs ht.1]; exact ht.2.1, ih ht.1 ?_ ht.2.2⟩
    intro a b ha hb
    unfold decg
    rw [h a b ha hb]
theorem Trl_app : ∀ (l : List Nat) {g g' : Nat → Nat → Nat} {s u t : Nat} {l' : List Nat}, s < 10 → Trl l g s u → Trl l' g' u t → Trl (l ++ l') (fun a b => g a b + g' a b) s t := by
  intro l
  induction l with
  | nil =>
    intro g g' s u t l' hs h h'
    have h1 := h.1
    subst h1
    exact Trl_congr l' hs (fun a b ha hb => by rw [h.2 a b ha hb, Nat.zero_add]) h'
  | cons q l ih =>
    intro g g' s u t l' hs h h'
    refine ⟨h.1, by have := h.2.1; show 0 < g s q + g' s q; omega, ?_⟩
    refine Trl_congr (l ++ l') h.1 ?_ (ih h.1 h.2.2 h')
    intro a b _ _
    unfold decg
    by_cases q1 : a = s ∧ b = q
    · obtain ⟨rfl, rfl⟩ := q1
      have := h.2.1
      simp; omega
    · simp [q1]
theorem decg_out {g : Nat → Nat → Nat} {s q v : Nat} (hq : q < 10) (hg : 0 < g s q) : outg g v = outg (decg g s q) v + ind1 v s := by
  unfold outg ind1
  by_cases h : v = s
  · subst h
    rw [if_pos rfl]
    refine sN_one 10 q hq (fun k _ hk => ?_) ?_
    · unfold decg; rw [if_neg (fun z => hk z.2)]
    · unfold decg; rw [if_pos ⟨rfl, rfl⟩]; omega
  · rw [if_neg h]
    refine (sN_congr 10 fun k _ => ?_).trans (Nat.add_zero _).symm
    unfold decg; rw [if_neg (fun z => h z.1)]
theorem decg_in {g : Nat → Nat → Nat} {s q v : Nat} (hs : s < 10) (hg : 0 < g s q) : ing g v = ing (decg g s q) v + ind1 v q := by
  unfold ing ind1
  by_cases h : v = q
  · subst h
    rw [if_pos rfl]
    refine sN_one 10 s hs (fun k _ hk => ?_) ?_
    · unfold decg; rw [if_neg (fun z => hk z.1)]
    · unfold decg; rw [if_pos ⟨rfl, rfl⟩]; omega
  · rw [if_neg h]
    refine (sN_congr 10 fun k _ => ?_).trans (Nat.add_zero _).symm
    unfold decg; rw [if_neg (fun z => h z.2)]
theorem decg_tot {g : Nat → Nat → Nat} {s q : Nat} (hs : s < 10) (hq : q < 10) (hg : 0 < g s q) : totg g = totg (decg g s q) + 1 := by
  unfold totg
  refine sN_one 10 s hs (fun k _ hk => ?_) ?_
  · rw [decg_out hq hg, ind1, if_neg hk, Nat.add_zero]
  · rw [decg_out hq hg, ind1, if_pos rfl]
theorem tot_zero {g : Nat → Nat → Nat} (h : totg g = 0) : ∀ a b, a < 10 → b < 10 → g a b = 0 := by
  intro a b ha hb
  have h1 := sN_le (f := fun v => outg g v) 10 a ha
  have h2 := sN_le (f := fun b => g a b) 10 b hb
  unfold totg at h
  simp only [outg] at h1 h

  omega
theorem Bal_dec {g : Nat → Nat → Nat} {s q t : Nat} (hs : s < 10) (hq : q < 10) (hg : 0 < g s q) : Bal g s t ↔ Bal (decg g s q) q t := by
  have h1 := fun v => decg_out (v := v) hq hg
  have h2 := fun v => decg_in (v := v) hs hg
  constructor
  · intro h v hv; have := h v hv; have := h1 v; have := h2 v; omega
  · intro h v hv; have := h v hv; have := h1 v; have := h2 v; omega
/-- a row that pays all keeps the balance, and comes to all -/
theorem Trl_bal : ∀ (l : List Nat) {g : Nat → Nat → Nat} {s t : Nat}, s < 10 → Trl l g s t → Bal g s t ∧ Cov g s := by
  intro l
  induction l with
  | nil =>
    intro g s t hs h
    have e1 : ∀ v, v < 10 → outg g v = 0 := fun v hv => by
      unfold outg; rw [sN_congr 10 (g := fun _ => 0) (fun k hk => h.2 v k hv hk), sN_zero]
    have e2 : ∀ v, v < 10 → ing g v = 0 := fun v hv => by
      unfold ing; rw [sN_congr 10 (g := fun _ => 0) (fun k hk => h.2 k v hk hv), sN_zero]
    refine ⟨fun v hv => by rw [e1 v hv, e2 v hv, h.1], fun v hv q => by rw [e1 v hv] at q; omega⟩
  | cons q l ih =>
    intro g s t hs h
    obtain ⟨h1, h2⟩ := ih h.1 h.2.2
    refine ⟨(Bal_dec hs h.1 h.2.1).2 h1, fun v hv q' => ?_⟩
    by_cases hv' : v = s
    · subst hv'; exact Rc_refl
    · have := decg_out (v := v) h.1 h.2.1
      rw [ind1, if_neg hv', Nat.add_zero] at this
      refine Rc_head hs h.1 h.2.1 v (Rc_mono (fun a b _ _ z => ?_) v (h2 v hv (by omega)))
      unfold decg at z
      split at z <;> omega
theorem ind1_sum {s : Nat} (hs : s < 10) : sN (fun v => ind1 v s) 10 = 1 := sN_ind 10 s hs
theorem euler : ∀ (m : Nat) (g : Nat → Nat → Nat) (s t : Nat), totg g = m → s < 10 → t < 10 → Bal g s t → Cov g s → ∃ l, Trl l g s t := by
  intro m
  induction m using Nat.strongRecOn with
  | ind m ih =>
  intro g s t hm hs ht hb hc
  by_cases m0 : m = 0
  · subst m0
    have hz := tot_zero hm
    refine ⟨[], ?_, hz⟩
    have h := hb s hs
    have e1 : outg g s = 0 := by unfold outg; rw [sN_congr 10 (g := fun _ => 0) (fun k hk => hz s k hs hk), sN_zero]
    have e2 : ing g s = 0 := by unfold ing; rw [sN_congr 10 (g := fun _ => 0) (fun k hk => hz k s hk hs), sN_zero]
    rw [e1, e2] at h
    unfold ind1 at h
    rw [if_pos rfl] at h
    by_cases q : s = t
    · exact q
    · rw [if_neg q] at h; omega
  -- somebody is paid first
  have hout : 0 < outg g s := by
    obtain ⟨v, hv, hv'⟩ := sN_pos (f := fun v => outg g v) 10 (by unfold totg at hm; omega)
    have : v = s ∨ 0 < outg g s := by
      refine Rc_ind (g := g) (s := s) (P := fun v => v = s ∨ 0 < outg g s) (.inl rfl) ?_ v (hc v hv hv')
      intro u w hu hw _ hP hg
      rcases hP with rfl | hP
      · have := sN_le (f := fun b => g u b) 10 w hw
        right; unfold outg; omega
      · exact .inr hP
    rcases this with rfl | h
    · exact hv'
    · exact h
  obtain ⟨q, hq, hg⟩ := sN_pos (f := fun b => g s b) 10 hout

  have hb' := (Bal_dec (t := t) hs hq hg).1 hb
  have htot := decg_tot hs hq hg
  -- the part that is come to from there
  let G := decg g s q
  have hG : G = decg g s q := rfl
  rw [← hG] at hb' htot
  classical
  let g1 : Nat → Nat → Nat := fun a b => if Rc G q a then G a b else 0
  let g2 : Nat → Nat → Nat := fun a b => if Rc G q a then 0 else G a b
  have hsum : ∀ a b, G a b = g1 a b + g2 a b := fun a b => by
    show G a b = (if Rc G q a then G a b else 0) + (if Rc G q a then 0 else G a b)
    by_cases h : Rc G q a
    · rw [if_pos h, if_pos h]; omega
    · rw [if_neg h, if_neg h]; omega
  have hcl : ∀ a b, a < 10 → b < 10 → Rc G q a → ¬ Rc G q b → G a b = 0 := fun a b ha hb h h' => by
    by_cases z : 0 < G a b
    · exact absurd (Rc_step h ha hb z) h'
    · omega
  -- what comes in from outside
  let chi : Nat → Nat := fun v => if Rc G q v then 1 else 0
  have hX : (∀ a b, a < 10 → b < 10 → ¬ Rc G q a → Rc G q b → G a b = 0) ∧ Rc G q t := by
    -- sums over the part
    let E : Nat → Nat → Nat := fun a b => if Rc G q a then (if Rc G q b then G a b else 0) else 0
    let X : Nat → Nat → Nat := fun a b => if Rc G q a then 0 else (if Rc G q b then G a b else 0)
    have ho : ∀ v, v < 10 → (if Rc G q v then outg G v else 0) = sN (fun b => E v b) 10 := by
      intro v hv
      by_cases h : Rc G q v
      · rw [if_pos h]
        refine sN_congr 10 fun b hb => ?_
        show G v b = if Rc G q v then (if Rc G q b then G v b else 0) else 0
        rw [if_pos h]
        by_cases h' : Rc G q b
        · rw [if_pos h']
        · rw [if_neg h', hcl v b hv hb h h']
      · rw [if_neg h]
        refine ((sN_congr 10 (g := fun _ => 0) fun b hb => ?_).trans (sN_zero 10)).symm
        show (if Rc G q v then (if Rc G q b then G v b else 0) else 0) = 0
        rw [if_neg h]
    have hi : ∀ v, v < 10 → (if Rc G q v then ing G v else 0) = sN (fun a => E a v) 10 + sN (fun a => X a v) 10 := by
      intro v hv
      rw [← sN_add]
      by_cases h : Rc G q v
      · rw [if_pos h]
        refine sN_congr 10 fun a ha => ?_
        show G a v = (if Rc G q a then (if Rc G q v then G a v else 0) else 0) + (if Rc G q a then 0 else (if Rc G q v then G a v else 0))
        rw [if_pos h]
        by_cases h' : Rc G q a
        · rw [if_pos h', if_pos h']; omega
        · rw [if_neg h', if_neg h']; omega
      · rw [if_neg h]
        refine ((sN_congr 10 (g := fun _ => 0) fun a ha => ?_).trans (sN_zero 10)).symm
        show (if Rc G q a then (if Rc G q v then G a v else 0) else 0) + (if Rc G q a then 0 else (if Rc G q v then G a v else 0)) = 0
        rw [if_neg h]
        by_cases h' : Rc G q a
        · rw [if_pos h']
        · rw [if_neg h']
    have hbal : ∀ v, v < 10 → (if Rc G q v then outg G v else 0) + (if Rc G q v then ind1 v t else 0) = (if Rc G q v then ing G v else 0) + (if Rc G q v then ind1 v q else 0) := by
      intro v hv
      by_cases h : Rc G q v
      · rw [if_pos h, if_pos h, if_pos h, if_pos h]; exact hb' v hv
      · rw [if_neg h, if_neg h, if_neg h, if_neg h]
    have e := sN_congr 10 hbal
    rw [sN_add, sN_add, sN_congr 10 ho, sN_congr 10 hi, sN_add, sN_swap (f := E)] at e
    have eq : sN (fun v => if Rc G q v then ind1 v q else 0) 10 = 1 := by
      refine (sN_congr 10 fun v hv => ?_).trans (ind1_sum hq)
      by_cases h : Rc G q v
      · rw [if_pos h]
      · rw [if_neg h]; unfold ind1; rw [if_neg]; intro z; exact h (z ▸ Rc_refl)
    rw [eq] at e
    have et : sN (fun v => if Rc G q v then ind1 v t else 0) 10 ≤ 1 := by
      refine Nat.le_trans (sN_mono 10 (g := fun v => ind1 v t) fun v hv => ?_) (Nat.le_of_eq (ind1_sum ht))
      by_cases h : Rc G q v
      · rw [if_pos h]; exact Nat.le_refl _
      · rw [if_neg h]; exact Nat.zero_le _
    have hX0 : sN (fun v => sN (fun a => X a v) 10) 10 = 0 := by omega
    constructor
    · intro a b ha hb h h'
      have z1 := sN_le (f := fun v => sN (fun a => X a v) 10) 10 b hb
      have z2 := sN_le (f := fun a => X a b) 10 a ha
      have z3 : X a b = G a b := by
        show (if Rc G q a then 0 else (if Rc G q b then G a b else 0)) = G a b
        rw [if_neg h, if_pos h']
      omega
    · obtain ⟨v, hv, hv'⟩ := sN_pos (f := fun v => if Rc G q v then ind1 v t else 0) 10 (by omega)
      by_cases h : Rc G q v
      · rw [if_pos h] at hv'
        unfold ind1 at hv'
        by_cases z : v = t
        · exact z ▸ h
        · rw [if_neg z] at hv'; omega
      · rw [if_neg h] at hv'; omega
  obtain ⟨hX1, hX2⟩ := hX
  have g1in : ∀ a b, Rc G q a → g1 a b = G a b := fun a b h => if_pos h
  have g1out : ∀ a b, ¬ Rc G q a → g1 a b = 0 := fun a b h => if_neg h
  have g2in : ∀ a b, Rc G q a → g2 a b = 0 := fun a b h => if_pos h
  have g2out : ∀ a b, ¬ Rc G q a → g2 a b = G a b := fun a b h => if_neg h
  have zz : ∀ {f : Nat → Nat}, (∀ k, k < 10 → f k = 0) → sN f 10 = 0 := fun h => by rw [sN_congr 10 (g := fun _ => 0) h, sN_zero]
  have bal1 : Bal g1 q t := by
    intro v hv
    by_cases h : Rc G q v
    · have e1 : outg g1 v = outg G v := sN_congr 10 fun b _ => g1in v b h
      have e2 : ing g1 v = ing G v := sN_congr 10 fun a ha => by
        by_cases h' : Rc G q a
        · exact g1in a v h'
        · rw [g1out a v h', hX1 a v ha hv h' h]
      rw [e1, e2]; exact hb' v hv
    · have e1 : outg g1 v = 0 := zz fun b _ => g1out v b h
      have e2 : ing g1 v = 0 := zz fun a ha => by
        by_cases h' : Rc G q a
        · rw [g1in a v h', hcl a v ha hv h' h]
        · exact g1out a v h'
      rw [e1, e2]
      unfold ind1
      rw [if_neg (fun z : v = t => h (z ▸ hX2)), if_neg (fun z : v = q => h (z ▸ Rc_refl))]
  have cov1 : Cov g1 q := by
    intro v hv h
    have hR : Rc G q v := by
      by_cases h' : Rc G q v
      · exact h'
      · have : outg g1 v = 0 := zz fun b _ => g1out v b h'
        omega
    have := Rc_ind (g := G) (s := q) (P := fun v => Rc g1 q v) Rc_refl (fun u w hu hw hRu hP hg' => Rc_step hP hu hw (by rw [g1in u w hRu]; exact hg')) v hR
    exact this
  have tot12 : totg G = totg g1 + totg g2 := by
    unfold totg outg
    rw [← sN_add]
    refine sN_congr 10 fun a _ => ?_
    rw [← sN_add]
    exact sN_congr 10 fun b _ => hsum a b
  obtain ⟨l1, hl1⟩ := ih (totg g1) (by omega) g1 q t rfl hq ht bal1 cov1
  by_cases t2 : totg g2 = 0
  · refine ⟨q :: l1, hq, hg, ?_⟩
    refine Trl_congr l1 hq (fun a b ha hb => ?_) hl1
    have := tot_zero t2 a b ha hb
    have := hsum a b
    show g1 a b = G a b
    omega
  · -- all that is come to in g is in the part, or come to outside of it
    have hall : ∀ v, Rc g s v → Rc G q v ∨ (¬ Rc G q s ∧ Rc g2 s v) := by
      refine Rc_ind ?_ ?_
      · by_cases h : Rc G q s
        · exact .inl h
        · exact .inr ⟨h, Rc_refl⟩
      · intro u w hu hw _ hP hg'
        by_cases hz : 0 < G u w
        · rcases hP with hP | ⟨hP1, hP2⟩
          · exact .inl (Rc_step hP hu hw hz)
          · by_cases hRu : Rc G q u
            · exact .inl (Rc_step hRu hu hw hz)
            · exact .inr ⟨hP1, Rc_step hP2 hu hw (by rw [g2out u w hRu]; exact hz)⟩
        · have : u = s ∧ w = q := by
            by_cases z : u = s ∧ w = q
            · exact z
            · have : G u w = g u w := by show (if u = s ∧ w = q then g u w - 1 else g u w) = g u w; rw [if_neg z]
              omega
          exact .inl (this.2 ▸ Rc_refl)
    have hle : ∀ v, v < 10 → 0 < outg g2 v → ¬ Rc G q v ∧ 0 < outg g v := by
      intro v hv h
      refine ⟨fun h' => ?_, ?_⟩
      · have : outg g2 v = 0 := zz fun b _ => g2in v b h'
        omega
      · refine Nat.lt_of_lt_of_le h (sN_mono 10 fun b _ => ?_)
        have z1 : G v b = if v = s ∧ b = q then g v b - 1 else g v b := rfl
        have z2 := hsum v b
        split at z1 <;> omega
    have hs2 : ¬ Rc G q s := by
      obtain ⟨v, hv, hv'⟩ := sN_pos (f := fun v => outg g2 v) 10 (by unfold totg at t2; omega)
      obtain ⟨h1, h2⟩ := hle v hv hv'
      rcases hall v (hc v hv h2) with h | h
      · exact absurd h h1
      · exact h.1
    have bal2 : Bal g2 s s := by
      intro v hv
      congr 1
      by_cases h : Rc G q v
      · have e1 : outg g2 v = 0 := zz fun b _ => g2in v b h
        have e2 : ing g2 v = 0 := zz fun a ha => by
          by_cases h' : Rc G q a
          · exact g2in a v h'
          · rw [g2out a v h', hX1 a v ha hv h' h]
        rw [e1, e2]
      · have e1 : outg g2 v = outg G v := sN_congr 10 fun b _ => g2out v b h
        have e2 : ing g2 v = ing G v := sN_congr 10 fun a ha => by
          by_cases h' : Rc G q a
          · rw [g2in a v h', hcl a v ha hv h' h]
          · exact g2out a v h'
        have := hb' v hv
        unfold ind1 at this
        rw [if_neg (fun z : v = t => h (z ▸ hX2)), if_neg (fun z : v = q => h (z ▸ Rc_refl))] at this
        omega
    have cov2 : Cov g2 s := by
      intro v hv h
      obtain ⟨h1, h2⟩ := hle v hv h
      rcases hall v (hc v hv h2) with h | h
      · exact absurd h h1
      · exact h.2
    obtain ⟨l2, hl2⟩ := ih (totg g2) (by omega) g2 s s rfl hs hs bal2 cov2
    let g3 : Nat → Nat → Nat := fun a b => if a = s ∧ b = q then g1 a b + 1 else g1 a b
    have h3 : Trl (q :: l1) g3 s t := by
      refine ⟨hq, ?_, ?_⟩
      · show 0 < if s = s ∧ q = q then g1 s q + 1 else g1 s q
        rw [if_pos ⟨rfl, rfl⟩]; omega
      · refine Trl_congr l1 hq (fun a b _ _ => ?_) hl1
        show g1 a b = if a = s ∧ b = q then (if a = s ∧ b = q then g1 a b + 1 else g1 a b) - 1 else (if a = s ∧ b = q then g1 a b + 1 else g1 a b)
        by_cases z : a = s ∧ b = q
        · rw [if_pos z, if_pos z]; omega
        · rw [if_neg z, if_neg z]
    refine ⟨l2 ++ q :: l1, Trl_congr _ hs (fun a b _ _ => ?_) (Trl_app l2 hs hl2 h3)⟩
    show g2 a b + (if a = s ∧ b = q then g1 a b + 1 else g1 a b) = g a b
    have z1 := hsum a b
    have z2 : G a b = if a = s ∧ b = q then g a b - 1 else g a b := rfl
    by_cases z : a = s ∧ b = q
    · rw [if_pos z] at z2 ⊢
      obtain ⟨rfl, rfl⟩ := z
      omega
    · rw [if_neg z] at z2 ⊢
      omega
/-- where all can be paid in a row, there is a first paying after which all that is left can be -/
theorem euler_next {g : Nat → Nat → Nat} {s t : Nat} (hs : s < 10) (ht : t < 10) (hb : Bal g s t) (hc : Cov g s) (hp : 0 < totg g) : ∃ q, q < 10 ∧ 0 < g s q ∧ Bal (decg g s q) q t ∧ Cov (decg g s q) q := by
  obtain ⟨l, hl⟩ := euler _ g s t rfl hs ht hb hc
  cases l with
  | nil =>
    have : totg g = 0 := by
      unfold totg outg
      rw [sN_congr 10 (g := fun _ => 0) (fun a ha => by rw [sN_congr 10 (g := fun _ => 0) (fun b hb => hl.2 a b ha hb), sN_zero]), sN_zero]
    omega
  | cons q l =>
    have := Trl_bal l hl.1 hl.2.2
    exact ⟨q, hl.1, hl.2.1, this.1, this.2⟩
