/-! new debts: the best row as a function; the first best of the codes is it -/
def decc (c : Nat → Nat) (q : Nat) : Nat → Nat := fun x => if x = q then c x - 1 else c x
def evV (w : Nat → Nat → Int) (F : (Nat → Nat) → Nat → Int) (c : Nat → Nat) (k q : Nat) : Int := if 0 < c q then w k q + F (decc c q) (k + 1) else 1000000
def evK (w : Nat → Nat → Int) (F : (Nat → Nat) → Nat → Int) (c : Nat → Nat) (k : Nat) : Nat → Int
  | 0 => 1000000
  | j + 1 => if evV w F c k j < evK w F c k j then evV w F c k j else evK w F c k j
def bv (w : Nat → Nat → Int) : Nat → (Nat → Nat) → Nat → Int
  | 0, _, _ => 0
  | r + 1, c, k => evK w (bv w r) c k 10
def blK (w : Nat → Nat → Int) (r : Nat) (G : (Nat → Nat) → Nat → List Nat) (c : Nat → Nat) (k : Nat) : Nat → List Nat
  | 0 => []
  | j + 1 => if evV w (bv w r) c k j < evK w (bv w r) c k j then j :: G (decc c j) (k + 1) else blK w r G c k j
def bl (w : Nat → Nat → Int) : Nat → (Nat → Nat) → Nat → List Nat
  | 0, _, _ => []
  | r + 1, c, k => blK w r (bl w r) c k 10
theorem evK_succ {w : Nat → Nat → Int} {F : (Nat → Nat) → Nat → Int} {c : Nat → Nat} {k j : Nat} : evK w F c k (j + 1) = if evV w F c k j < evK w F c k j then evV w F c k j else evK w F c k j := rfl
theorem blK_succ {w : Nat → Nat → Int} {r : Nat} {G : (Nat → Nat) → Nat → List Nat} {c : Nat → Nat} {k j : Nat} : blK w r G c k (j + 1) = if evV w (bv w r) c k j < evK w (bv w r) c k j then j :: G (decc c j) (k + 1) else blK w r G c k j := rfl
theorem evK_le {w : Nat → Nat → Int} {F : (Nat → Nat) → Nat → Int} {c : Nat → Nat} {k : Nat} : ∀ j q, q < j → evK w F c k j ≤ evV w F c k q := by
  intro j
  induction j with
  | zero => intro q h; exact absurd h (Nat.not_lt_zero _)
  | succ j ih =>
    intro q h
    rw [evK_succ]
    by_cases e : q = j
    · subst e
      split
      · exact Int.le_refl _
      · rename_i z; exact Int.not_lt.mp z
    · have := ih q (by omega)
      split
      · rename_i z; exact Int.le_of_lt (Int.lt_of_lt_of_le z this)
      · exact this
theorem blK_pick {w : Nat → Nat → Int} {r : Nat} {G : (Nat → Nat) → Nat → List Nat} {c : Nat → Nat} {k : Nat} : ∀ j, (evK w (bv w r) c k j = 1000000 ∧ blK w r G c k j = []) ∨ ∃ q, q < j ∧ blK w r G c k j = q :: G (decc c q) (k + 1) ∧ 0 < c q ∧ evV w (bv w r) c k q = evK w (bv w r) c k j ∧ evK w (bv w r) c k j < 1000000 ∧ ∀ q', q' < q → evK w (bv w r) c k j < evV w (bv w r) c k q' := by
  intro j
  induction j with
  | zero => exact .inl ⟨rfl, rfl⟩
  | succ j ih =>
    rw [blK_succ, evK_succ]
    by_cases h : evV w (bv w r) c k j < evK w (bv w r) c k j
    · rw [if_pos h, if_pos h]
      have hB : evK w (bv w r) c k j ≤ 1000000 := by
        rcases ih with z | ⟨q, _, _, _, _, z, _⟩
        · exact Int.le_of_eq z.1
        · exact Int.le_of_lt z
      refine .inr ⟨j, Nat.lt_succ_self j, rfl, ?_, rfl, Int.lt_of_lt_of_le h hB, fun q' hq' => ?_⟩
      · by_cases z : 0 < c j
        · exact z
        · unfold evV at h
          rw [if_neg z] at h
          exact absurd (Int.lt_of_lt_of_le h hB) (by decide)
      · exact Int.lt_of_lt_of_le h (evK_le j q' hq')
    · rw [if_neg h, if_neg h]
      rcases ih with z | ⟨q, z1, z2⟩
      · exact .inl z
      · exact .inr ⟨q, Nat.lt_succ_of_lt z1, z2⟩
theorem bl_pick {w : Nat → Nat → Int} {r : Nat} {c : Nat → Nat} {k : Nat} : (bv w (r + 1) c k = 1000000 ∧ bl w (r + 1) c k = []) ∨ ∃ q, q < 10 ∧ bl w (r + 1) c k = q :: bl w r (decc c q) (k + 1) ∧ 0 < c q ∧ evV w (bv w r) c k q = bv w (r + 1) c k ∧ bv w (r + 1) c k < 1000000 ∧ ∀ q', q' < q → bv w (r + 1) c k < evV w (bv w r) c k q' := blK_pick 10
theorem bv_nn {w : Nat → Nat → Int} (hw : ∀ k q, 0 ≤ w k q) : ∀ (r : Nat) (c : Nat → Nat) (k : Nat), 0 ≤ bv w r c k := by
  intro r
  induction r with
  | zero => intro c k; exact Int.le_refl _
  | succ r ih =>
    intro c k
    rcases bl_pick (w := w) (r := r) (c := c) (k := k) with z | ⟨q, _, _, h3, h4, _, _⟩
    · rw [z.1]; decide
    · rw [← h4]
      unfold evV
      rw [if_pos h3]
      exact Int.add_nonneg (hw k q) (ih _ _)
/-- a row of persons that the counts allow; what it costs from place k on -/
def vl : (Nat → Nat) → List Nat → Prop
  | _, [] => True
  | c, q :: x => q < 10 ∧ 0 < c q ∧ vl (decc c q) x
def clw (w : Nat → Nat → Int) : Nat → List Nat → Int
  | _, [] => 0
  | k, q :: x => w k q + clw w (k + 1) x
theorem bv_le {w : Nat → Nat → Int} : ∀ (x : List Nat) (c : Nat → Nat) (k : Nat), vl c x → bv w x.length c k ≤ clw w k x := by
  intro x
  induction x with
  | nil => intro c k _; exact Int.le_refl _
  | cons q x ih =>
    intro c k h
    have h1 := evK_le (w := w) (F := bv w x.length) (c := c) (k := k) 10 q h.1
    have h2 : evV w (bv w x.length) c k q = w k q + bv w x.length (decc c q) (k + 1) := if_pos h.2.1
    rw [h2] at h1
    exact Int.le_trans h1 (Int.add_le_add_left (ih _ _ h.2.2) _)
theorem bl_ok {w : Nat → Nat → Int} (hw : ∀ k q, 0 ≤ w k q) : ∀ (r : Nat) (c : Nat → Nat) (k : Nat), bv w r c k < 1000000 → vl c (bl w r c k) ∧ (bl w r c k).length = r ∧ clw w k (bl w r c k) = bv w r c k := by
  intro r
  induction r with
  | zero => intro c k _; exact ⟨trivial, rfl, rfl⟩
  | succ r ih =>
    intro c k h
    rcases bl_pick (w := w) (r := r) (c := c) (k := k) with z | ⟨q, h1, h2, h3, h4, _, _⟩
    · rw [z.1] at h; exact absurd h (by decide)
    · have e : evV w (bv w r) c k q = w k q + bv w r (decc c q) (k + 1) := if_pos h3
      have hq := hw k q
      obtain ⟨g1, g2, g3⟩ := ih (decc c q) (k + 1) (by omega)
      rw [h2]
      refine ⟨⟨h1, h3, g1⟩, by rw [List.length_cons, g2], ?_⟩
      show w k q + clw w (k + 1) (bl w r (decc c q) (k + 1)) = _
      rw [g3, ← e, h4]
/-! rows of places (indices), their codes -/
def updU (U : Nat → Bool) (i : Nat) : Nat → Bool := fun j => if j = i then true else U j
def viU (n : Nat) : (Nat → Bool) → List Nat → Prop
  | _, [] => True
  | U, i :: x => i < n ∧ U i = false ∧ viU n (updU U i) x
def cu (n : Nat) (wt : Nat → Nat) (U : Nat → Bool) (q : Nat) : Nat := sN (fun i => if U i = false ∧ wt i = q then 1 else 0) n
def ecd (n : Nat) : Nat → List Nat → Nat
  | e, [] => e
  | e, i :: x => ecd n (n * e + i) x
theorem cu_upd {n i : Nat} {wt : Nat → Nat} {U : Nat → Bool} (hi : i < n) (hU : U i = false) : cu n wt (updU U i) = decc (cu n wt U) (wt i) := by
  funext q
  unfold decc
  have hne : ∀ j, j ≠ i → updU U i j = U j := fun j hj => if_neg hj
  have hii : updU U i i = true := if_pos rfl
  by_cases e : q = wt i
  · rw [if_pos e]
    have h1 : cu n wt U q = cu n wt (updU U i) q + 1 := by
      refine sN_one n i hi (fun j _ hj => ?_) ?_
      · rw [hne j hj]
      · rw [if_pos ⟨hU, e.symm⟩, if_neg (fun z => absurd (hii.symm.trans z.1) (by decide))]
    rw [h1, Nat.add_sub_cancel]
  · rw [if_neg e]
    refine sN_congr n fun j _ => ?_
    by_cases hj : j = i
    · subst hj
      rw [if_neg (fun z => e z.2.symm), if_neg (fun z => e z.2.symm)]
    · rw [hne j hj]
theorem cu_pos {n q : Nat} {wt : Nat → Nat} {U : Nat → Bool} (h : 0 < cu n wt U q) : ∃ i, i < n ∧ U i = false ∧ wt i = q := by
  obtain ⟨i, hi, h1⟩ := sN_pos n h
  by_cases z : U i = false ∧ wt i = q
  · exact ⟨i, hi, z⟩
  · rw [if_neg z] at h1; exact absurd h1 (Nat.lt_irrefl 0)
theorem cu_gt {n i : Nat} {wt : Nat → Nat} {U : Nat → Bool} (hi : i < n) (hU : U i = false) : 0 < cu n wt U (wt i) := by
  have h := sN_le (f := fun j => if U j = false ∧ wt j = wt i then 1 else 0) n i hi
  have e : (if U i = false ∧ wt i = wt i then 1 else 0) = 1 := if_pos ⟨hU, rfl⟩
  exact Nat.lt_of_lt_of_le (by rw [e]; decide) h
theorem vi_vl {n : Nat} {wt : Nat → Nat} (hwt : ∀ i, i < n → wt i < 10) : ∀ (x : List Nat) (U : Nat → Bool), viU n U x → vl (cu n wt U) (x.map wt) := by
  intro x
  induction x with
  | nil => intro U _; exact trivial
  | cons i x ih =>
    intro U h
    refine ⟨hwt i h.1, cu_gt h.1 h.2.1, ?_⟩
    rw [← cu_upd h.1 h.2.1]
    exact ih _ h.2.2
theorem vl_vi {n : Nat} {wt : Nat → Nat} : ∀ (x : List Nat) (U : Nat → Bool), vl (cu n wt U) x → ∃ y, viU n U y ∧ y.map wt = x := by
  intro x
  induction x with
  | nil => intro U _; exact ⟨[], trivial, rfl⟩
  | cons q x ih =>
    intro U h
    obtain ⟨i, h1, h2, h3⟩ := cu_pos h.2.1
    have h4 := h.2.2
    rw [← h3, ← cu_upd h1 h2] at h4
    obtain ⟨y, g1, g2⟩ := ih _ h4
    exact ⟨i :: y, ⟨h1, h2, g1⟩, by rw [List.map_cons, h3, g2]⟩
theorem ecd_lt {n : Nat} : ∀ (x y : List Nat) (e e' : Nat) (U U' : Nat → Bool), x.length = y.length → viU n U x → viU n U' y → e < e' → ecd n e x < ecd n e' y := by
  intro x
  induction x with
  | nil =>
    intro y e e' U U' hl _ _ h
    cases y with
    | nil => exact h
    | cons b y => exact absurd hl (by rw [List.length_cons]; exact (Nat.succ_ne_zero _).symm)
  | cons a x ih =>
    intro y e e' U U' hl hx hy h
    cases y with
    | nil => exact absurd hl (by rw [List.length_cons]; exact Nat.succ_ne_zero _)
    | cons b y =>
      refine ih y _ _ (updU U a) (updU U' b) (by rw [List.length_cons, List.length_cons] at hl; omega) hx.2.2 hy.2.2 ?_
      have h1 : n * e + n ≤ n * e' := by
        rw [← Nat.mul_succ]; exact Nat.mul_le_mul_left n h
      have := hx.1
      omega
theorem clw_bd {w : Nat → Nat → Int} (hw : ∀ k q, 0 ≤ w k q ∧ w k q ≤ 18) : ∀ (x : List Nat) (k : Nat), clw w k x ≤ 18 * (x.length : Int) := by
  intro x
  induction x with
  | nil => intro k; exact Int.le_refl _
  | cons q x ih =>
    intro k
    have h1 := ih (k + 1)
    have h2 := (hw k q).2
    show w k q + clw w (k + 1) x ≤ _
    rw [List.length_cons, Int.natCast_add, Int.mul_add]
    omega
/-- the first best row of places from used U on is the best row -/
def fmI (n : Nat) (wt : Nat → Nat) (w : Nat → Nat → Int) (U : Nat → Bool) (k e : Nat) (x : List Nat) : Prop := viU n U x ∧ ∀ y, viU n U y → y.length = x.length → clw w k (x.map wt) ≤ clw w k (y.map wt) ∧ (ecd n e y < ecd n e x → clw w k (x.map wt) < clw w k (y.map wt))
theorem fm_bl {n : Nat} {wt : Nat → Nat} {w : Nat → Nat → Int} (hw : ∀ k q, 0 ≤ w k q ∧ w k q ≤ 18) (hwt : ∀ i, i < n → wt i < 10) (hmono : ∀ i j, i < n → j < n → wt i < wt j → i < j) : ∀ (x : List Nat) (U : Nat → Bool) (k e : Nat), x.length ≤ 6 → fmI n wt w U k e x → x.map wt = bl w x.length (cu n wt U) k ∧ clw w k (x.map wt) = bv w x.length (cu n wt U) k := by
  have hw0 : ∀ k q, 0 ≤ w k q := fun k q => (hw k q).1
  intro x
  induction x with
  | nil => intro U k e _ _; exact ⟨rfl, rfl⟩
  | cons i x ih =>
    intro U k e hl h
    have hl' : x.length ≤ 6 := by rw [List.length_cons] at hl; omega
    have hv := h.1
    have e1 := cu_upd (wt := wt) hv.1 hv.2.1
    obtain ⟨g1, g2⟩ := ih (updU U i) (k + 1) (n * e + i) hl' ⟨hv.2.2, fun y hy hyl => by
      have := h.2 (i :: y) ⟨hv.1, hv.2.1, hy⟩ (by rw [List.length_cons, List.length_cons, hyl])
      have t1 : clw w k ((i :: x).map wt) = w k (wt i) + clw w (k + 1) (x.map wt) := rfl
      have t2 : clw w k ((i :: y).map wt) = w k (wt i) + clw w (k + 1) (y.map wt) := rfl
      rw [t1, t2] at this
      exact ⟨by omega, fun z => by have := this.2 z; omega⟩⟩
    rw [e1] at g1 g2
    have hlen : (i :: x).length = x.length + 1 := rfl
    have hc : clw w k ((i :: x).map wt) = w k (wt i) + bv w x.length (decc (cu n wt U) (wt i)) (k + 1) := by
      show w k (wt i) + clw w (k + 1) (x.map wt) = _
      rw [g2]
    have hvl := vi_vl hwt _ _ hv
    have b1 := bv_le (w := w) ((i :: x).map wt) (cu n wt U) k hvl
    rw [List.length_map, hlen] at b1
    have hsmall : bv w (x.length + 1) (cu n wt U) k < 1000000 := by
      have := clw_bd hw ((i :: x).map wt) k
      rw [List.length_map] at this
      have h6 : ((i :: x).length : Int) ≤ 6 := Int.ofNat_le.mpr hl
      omega
    obtain ⟨c1, c2, c3⟩ := bl_ok hw0 (x.length + 1) (cu n wt U) k hsmall
    obtain ⟨y, y1, y2⟩ := vl_vi _ U c1
    have hyl : y.length = (i :: x).length := by rw [hlen, ← c2, ← y2, List.length_map]
    have b2 := (h.2 y y1 hyl).1
    rw [y2, c3] at b2
    have heq : clw w k ((i :: x).map wt) = bv w (x.length + 1) (cu n wt U) k := Int.le_antisymm b2 b1
    refine ⟨?_, heq⟩
    have hgt := cu_gt (wt := wt) hv.1 hv.2.1
    have hev : evV w (bv w x.length) (cu n wt U) k (wt i) = bv w (x.length + 1) (cu n wt U) k := by
      rw [← heq, hc]; exact if_pos hgt
    rcases bl_pick (w := w) (r := x.length) (c := cu n wt U) (k := k) with z | ⟨q, q1, q2, q3, q4, _, q6⟩
    · rw [z.1] at hsmall; exact absurd hsmall (by decide)
    · have hq : q = wt i := by
        rcases Nat.lt_trichotomy q (wt i) with z | z | z
        · obtain ⟨j, j1, j2, j3⟩ := cu_pos q3
          have d1 : evV w (bv w x.length) (cu n wt U) k q = w k q + bv w x.length (decc (cu n wt U) q) (k + 1) := if_pos q3
          have hq0 := hw0 k q
          obtain ⟨r1, r2, r3⟩ := bl_ok hw0 x.length (decc (cu n wt U) q) (k + 1) (by omega)
          rw [← j3, ← cu_upd j1 j2] at r1
          obtain ⟨y', y1', y2'⟩ := vl_vi _ _ r1
          have yl : y'.length = x.length := by
            rw [← r2, ← List.length_map (f := wt), y2', cu_upd j1 j2, j3]
          have hcost : clw w k ((j :: y').map wt) = bv w (x.length + 1) (cu n wt U) k := by
            show w k (wt j) + clw w (k + 1) (y'.map wt) = _
            rw [y2', cu_upd j1 j2, j3, r3, ← d1, q4]
          have hji : j < i := hmono j i j1 hv.1 (by rw [j3]; exact z)
          have hcode : ecd n e (j :: y') < ecd n e (i :: x) := ecd_lt y' x _ _ _ _ yl y1' hv.2.2 (by omega)
          have := (h.2 (j :: y') ⟨j1, j2, y1'⟩ (by rw [List.length_cons, List.length_cons, yl])).2 hcode
          rw [hcost, heq] at this
          exact absurd this (Int.lt_irrefl _)
        · exact z
        · have := q6 (wt i) z
          rw [hev] at this
          exact absurd this (Int.lt_irrefl _)
      show wt i :: x.map wt = bl w (x.length + 1) (cu n wt U) k
      rw [q2, hq, g1]
