/-! the way back: the reference's tables -/
abbrev gO (M : oM) (o : Nat) (D : Nat → Nat → Int) : Prop := ∀ x y : Nat, x < 10 → y < 10 → M o (10 * (x : Int) + (y : Int)) = D x y
abbrev dn (a b x y : Nat) : Prop := x < a ∨ (x = a ∧ y < b)
theorem dn_next {a b x y : Nat} : dn a (b + 1) x y ↔ dn a b x y ∨ (x = a ∧ y = b) := by omega
theorem dn_line {a x y : Nat} (hy : y < 10) : dn a 10 x y ↔ dn (a + 1) 0 x y := by omega
theorem dn_zero {x y : Nat} : ¬ dn 0 0 x y := by omega
theorem dn_all {x y : Nat} (hx : x < 10) : dn 10 0 x y := by omega
theorem dn_self {a b : Nat} : ¬ dn a b a b := by omega

def pm (D : Nat → Nat → Int) (m a b : Nat) : Nat → Nat → Int := fun x y => if dn a b x y then flS D m x y else D x y
theorem e_M_mn {f : Nat} {a b : Int} {M : oM} : p_M_min f a b M = some (mn a b, M) := e_M_min
theorem cell_ne {a b x y : Nat} (hb : b < 10) (hy : y < 10) (h : ¬ (x = a ∧ y = b)) : ¬ 10 * (x : Int) + (y : Int) = 10 * (a : Int) + (b : Int) := by omega
theorem pm_at {D : Nat → Nat → Int} {m a b : Nat} : pm D m a b a b = D a b := if_neg dn_self
theorem pm_row {D : Nat → Nat → Int} {m a b x : Nat} (h : 0 ≤ D m m) : pm D m a b x m = D x m := by
  unfold pm
  split
  · exact flS_row h
  · rfl
theorem pm_col {D : Nat → Nat → Int} {m a b y : Nat} (h : 0 ≤ D m m) : pm D m a b m y = D m y := by
  unfold pm
  split
  · exact flS_col h
  · rfl
theorem pm_put {M : oM} {o m a b : Nat} {D : Nat → Nat → Int} {i v : Int} (h : gO M o (pm D m a b)) (hb : b < 10) (hi : i = 10 * (a : Int) + b) (hv : v = flS D m a b) : gO (oU M o i v) o (pm D m a (b + 1)) := by
  intro x y hx hy
  by_cases q : x = a ∧ y = b
  · obtain ⟨rfl, rfl⟩ := q
    rw [hi, oU_at, hv]
    unfold pm
    rw [if_pos (dn_next.2 (.inr ⟨rfl, rfl⟩))]
  · rw [hi, oU_i (cell_ne hb hy q), h x y hx hy]
    unfold pm
    by_cases z : dn a b x y
    · rw [if_pos z, if_pos (dn_next.2 (.inl z))]
    · rw [if_neg z, if_neg (fun w => (dn_next.1 w).elim z q)]
theorem gO_o {M : oM} {o o' : Nat} {i v : Int} {D : Nat → Nat → Int} (h : gO M o D) (ho : o ≠ o') : gO (oU M o' i v) o D := fun x y hx hy => (oU_o ho).trans (h x y hx hy)
theorem fl_cell {f m a b : Nat} {x1 y1 z1 x2 y2 z2 : Int} {M : oM} (hm : m < 10) (ha : a < 10) (hb : b < 10) (e1 : M 87 (10 * (a : Int) + b) = x1) (e2 : M 87 (10 * (a : Int) + m) = y1) (e3 : M 87 (10 * (m : Int) + b) = z1) (g1 : M 88 (10 * (a : Int) + b) = x2) (g2 : M 88 (10 * (a : Int) + m) = y2) (g3 : M 88 (10 * (m : Int) + b) = z2)
    (w1 : w32 (y1 + z1) = y1 + z1) (w2 : w32 (y2 + z2) = y2 + z2) : p_M_laysBack_L110 f m a ((b : Int), M) = some (.inl (((b + 1 : Nat) : Int), oU (oU M 87 (10 * (a : Int) + b) (mn x1 (y1 + z1))) 88 (10 * (a : Int) + b) (mn x2 (y2 + z2)))) := by
  have n1 := nat100 ha hb
  have n2 := nat100 ha hm
  have n3 := nat100 hm hb
  have o1 : oU M 87 (10 * (a : Int) + b) (mn x1 (y1 + z1)) 88 (10 * (a : Int) + b) = x2 := (oU_o (by decide)).trans g1
  have o2 : oU M 87 (10 * (a : Int) + b) (mn x1 (y1 + z1)) 88 (10 * (a : Int) + m) = y2 := (oU_o (by decide)).trans g2
  have o3 : oU M 87 (10 * (a : Int) + b) (mn x1 (y1 + z1)) 88 (10 * (m : Int) + b) = z2 := (oU_o (by decide)).trans g3
  unfold p_M_laysBack_L110
  simp only []
  rw [if_pos (nat9 hb).2, wx10 ha hb, wx10 ha hm, wx10 hm hb, bnd_eq n1.1 n1.2, bnd_eq n2.1 n2.2, bnd_eq n3.1 n3.2, e1, e2, e3, w1, e_M_mn, Option.bind_some, bnd_eq n1.1 n1.2, lt_eq, bnd_eq n1.1 n1.2, bnd_eq n2.1 n2.2, bnd_eq n3.1 n3.2, o1, o2, o3, w2, e_M_mn, Option.bind_some, bnd_eq n1.1 n1.2, lt_eq, lt_eq, w32nat (Nat.lt_trans hb (by decide))]
def flOk (D : Nat → Nat → Int) : Prop := ∀ x y, x < 10 → y < 10 → 1 ≤ D x y ∧ D x y ≤ 1000000
def w88 : List (Nat × Int) := [(87, (-1)), (88, (-1))]
theorem mem87 : ((87 : Nat), (-1 : Int)) ∈ w88 := .head _
theorem mem88 : ((88 : Nat), (-1 : Int)) ∈ w88 := .tail _ (.head _)
theorem flw {D : Nat → Nat → Int} {m x y : Nat} (h : flOk D) (hm : m < 10) (hx : x < 10) (hy : y < 10) : w32 (D x m + D m y) = D x m + D m y := by
  have h1 := h x m hx hm
  have h2 := h m y hm hy
  rw [w32_of (by omega) (by omega)]
def fcI (B : oM) (D1 D2 : Nat → Nat → Int) (m a b : Nat) (s : Int × oM) : Prop := s.1 = (b : Int) ∧ gO s.2 87 (pm D1 m a b) ∧ gO s.2 88 (pm D2 m a b) ∧ eqo w88 B s.2
theorem fc_step {f m a b : Nat} {B : oM} {D1 D2 : Nat → Nat → Int} {s : Int × oM} (hm : m < 10) (ha : a < 10) (hb : b < 10) (h1 : flOk D1) (h2 : flOk D2) (hI : fcI B D1 D2 m a b s) : okp (p_M_laysBack_L110 f m a s) (psum (fcI B D1 D2 m a (b + 1)) (fun N => gO N 87 (pm D1 m a 10) ∧ gO N 88 (pm D2 m a 10) ∧ eqo w88 B N)) := by
  obtain ⟨j, N⟩ := s
  obtain ⟨i1, i2, i3, i4⟩ := hI
  simp only at i1 i2 i3 i4
  subst i1
  have c1 : 0 ≤ D1 m m := Int.le_trans (by decide) (h1 m m hm hm).1
  have c2 : 0 ≤ D2 m m := Int.le_trans (by decide) (h2 m m hm hm).1
  rw [fl_cell hm ha hb ((i2 a b ha hb).trans pm_at) ((i2 a m ha hm).trans (pm_row c1)) ((i2 m b hm hb).trans (pm_col c1)) ((i3 a b ha hb).trans pm_at) ((i3 a m ha hm).trans (pm_row c2)) ((i3 m b hm hb).trans (pm_col c2)) (flw h1 hm ha hb) (flw h2 hm ha hb)]
  refine ⟨rfl, gO_o (pm_put i2 hb rfl rfl) (by decide), pm_put (gO_o i3 (by decide)) hb rfl rfl, eqo_oUa mem88 (eqo_oUa mem87 i4)⟩
theorem fc_line {f m a : Nat} {M B : oM} {D1 D2 : Nat → Nat → Int} (hf : 2000 < f) (hm : m < 10) (ha : a < 10) (h1 : flOk D1) (h2 : flOk D2) (g1 : gO M 87 (pm D1 m a 0)) (g2 : gO M 88 (pm D2 m a 0)) (he : eqo w88 B M) : ∃ N, iter (p_M_laysBack_L110 f m a) f (0, M) = some N ∧ gO N 87 (pm D1 m a 10) ∧ gO N 88 (pm D2 m a 10) ∧ eqo w88 B N := by
  refine okp_ex (for_ok 10 (fcI B D1 D2 m a) (fun b s hb hI => fc_step hm ha hb h1 h2 hI) (fun s hI => ?_) f (Nat.lt_trans (by decide) hf) ⟨rfl, g1, g2, he⟩)
  obtain ⟨j, N⟩ := s
  obtain ⟨i1, i2, i3, i4⟩ := hI
  simp only at i1 i2 i3 i4
  subst i1
  unfold p_M_laysBack_L110
  simp only []
  rw [if_neg (show ¬ (((10 : Nat) : Int) < 10) by decide)]
  exact ⟨i2, i3, i4⟩
theorem pm_line {M : oM} {o m a : Nat} {D : Nat → Nat → Int} (h : gO M o (pm D m a 10)) : gO M o (pm D m (a + 1) 0) := by
  intro x y hx hy
  rw [h x y hx hy]
  unfold pm
  by_cases z : dn a 10 x y
  · rw [if_pos z, if_pos ((dn_line hy).1 z)]
  · rw [if_neg z, if_neg (fun w => z ((dn_line hy).2 w))]
theorem pm_start {M : oM} {o m : Nat} {D : Nat → Nat → Int} (h : gO M o D) : gO M o (pm D m 0 0) := by
  intro x y hx hy
  rw [h x y hx hy]
  unfold pm
  rw [if_neg dn_zero]
theorem pm_end {M : oM} {o m : Nat} {D : Nat → Nat → Int} (h : gO M o (pm D m 10 0)) : gO M o (flS D m) := by
  intro x y hx hy
  rw [h x y hx hy]
  unfold pm
  rw [if_pos (dn_all hx)]
theorem fc_round {f m : Nat} {M B : oM} {D1 D2 : Nat → Nat → Int} (hf : 2000 < f) (hm : m < 10) (h1 : flOk D1) (h2 : flOk D2) (g1 : gO M 87 D1) (g2 : gO M 88 D2) (he : eqo w88 B M) : ∃ N, iter (p_M_laysBack_L102 f m) f (0, M) = some N ∧ gO N 87 (flS D1 m) ∧ gO N 88 (flS D2 m) ∧ eqo w88 B N := by
  refine okp_ex (for_ok 10 (fun (a : Nat) (s : Int × oM) => s.1 = (a : Int) ∧ gO s.2 87 (pm D1 m a 0) ∧ gO s.2 88 (pm D2 m a 0) ∧ eqo w88 B s.2) (fun a s ha hI => ?_) (fun s hI => ?_) f (Nat.lt_trans (by decide) hf) ⟨rfl, pm_start g1, pm_start g2, he⟩)
  · obtain ⟨j, N⟩ := s
    obtain ⟨i1, i2, i3, i4⟩ := hI
    simp only at i1 i2 i3 i4
    subst i1
    obtain ⟨N', e, k1, k2, k3⟩ := fc_line (f := f) hf hm ha h1 h2 i2 i3 i4
    unfold p_M_laysBack_L102
    simp only []
    rw [if_pos (nat9 ha).2, e, Option.bind_some]
    unfold p_M_laysBack_X110
    rw [lt_eq, w32nat (Nat.lt_trans ha (by decide))]
    exact ⟨rfl, pm_line k1, pm_line k2, k3⟩
  · obtain ⟨j, N⟩ := s
    obtain ⟨i1, i2, i3, i4⟩ := hI
    simp only at i1 i2 i3 i4
    subst i1
    unfold p_M_laysBack_L102
    simp only []
    rw [if_neg (show ¬ (((10 : Nat) : Int) < 10) by decide)]
    exact ⟨pm_end i2, pm_end i3, i4⟩
theorem fc_all {f : Nat} {M B : oM} {D1 D2 : Nat → Nat → Int} (hf : 2000 < f) (h1 : flOk D1) (h2 : flOk D2) (g1 : gO M 87 D1) (g2 : gO M 88 D2) (he : eqo w88 B M) : ∃ N, iter (p_M_laysBack_L94 f) f (0, M) = some (0, N) ∧ (∀ m, m = 10 → gO N 87 (flR D1 m) ∧ gO N 88 (flR D2 m)) ∧ eqo w88 B N := by
  have hr : okp (iter (p_M_laysBack_L94 f) f (0, M)) (fun q => q.1 = 0 ∧ (∀ m, m = 10 → gO q.2 87 (flR D1 m) ∧ gO q.2 88 (flR D2 m)) ∧ eqo w88 B q.2) := by
    refine for_ok 10 (fun (m : Nat) (s : Int × oM) => s.1 = (m : Int) ∧ (∀ k, k = m → gO s.2 87 (flR D1 k) ∧ gO s.2 88 (flR D2 k)) ∧ eqo w88 B s.2) (fun m s hm hI => ?_) (fun s hI => ?_) f (Nat.lt_trans (by decide) hf) ⟨rfl, fun k hk => by subst hk; exact ⟨g1, g2⟩, he⟩
    · obtain ⟨j, N⟩ := s
      obtain ⟨i1, i2, i4⟩ := hI
      simp only at i1 i2 i4
      subst i1
      obtain ⟨N', e, k1, k2, k3⟩ := fc_round (f := f) hf hm (flR_bd h1 m (Nat.le_of_lt hm)) (flR_bd h2 m (Nat.le_of_lt hm)) (i2 m rfl).1 (i2 m rfl).2 i4
      unfold p_M_laysBack_L94
      simp only []
      rw [if_pos (nat9 hm).2, e, Option.bind_some]
      unfold p_M_laysBack_X102
      rw [lt_eq, w32nat (Nat.lt_trans hm (by decide))]
      exact ⟨rfl, fun k hk => by subst hk; exact ⟨k1, k2⟩, k3⟩
    · obtain ⟨j, N⟩ := s
      obtain ⟨i1, i2, i4⟩ := hI
      simp only at i1 i2 i4
      subst i1
      unfold p_M_laysBack_L94
      simp only []
      rw [if_neg (show ¬ (((10 : Nat) : Int) < 10) by decide)]
      exact ⟨rfl, i2, i4⟩
  obtain ⟨q, eq, a1, a2⟩ := okp_ex hr
  exact ⟨q.2, by rw [eq, ← a1], a2⟩
/-! the tables as they begin -/
def iD1 (d : Int → Int) (a b : Nat) : Int := if 0 < d (10 * (a : Int) + b) then 1 else 1000000
def iD2 (d X Y : Int → Int) (a b : Nat) : Int := if 0 < d (10 * (a : Int) + b) then wayS X Y a b else 1000000
theorem iD1_ok {d : Int → Int} : flOk (iD1 d) := fun x y _ _ => by unfold iD1; split <;> decide
theorem iD2_ok {d X Y : Int → Int} (hX : spotOk X) (hY : spotOk Y) : flOk (iD2 d X Y) := fun x y hx hy => by
  unfold iD2
  split
  · have := wayS_bd hX hY (nat9 hx) (nat9 hy)
    omega
  · decide
theorem in_cell {f a b : Nat} {M : oM} (ha : a < 10) (hb : b < 10) (hX : spotOk (M 61)) (hY : spotOk (M 62)) : p_M_laysBack_L10 f a ((b : Int), M) = some (.inl (((b + 1 : Nat) : Int), oU (oU M 87 (10 * (a : Int) + b) (iD1 (M 58) a b)) 88 (10 * (a : Int) + b) (iD2 (M 58) (M 61) (M 62) a b))) := by
  have n1 := nat100 ha hb
  have w1 := w32nat (a := b) (Nat.lt_trans hb (by decide))
  unfold p_M_laysBack_L10 p_M_laysBack_B30_10 p_M_laysBack_B52_10 p_M_laysBack_B79_10
  simp only []
  rw [if_pos (nat9 hb).2, e_M_debtOf (nat9 ha) (nat9 hb), Option.bind_some, wx10 ha hb]
  unfold iD1 iD2
  by_cases q : 0 < M 58 (10 * (a : Int) + b)
  · have hw : p_M_wayOf f a b (oU M 87 (10 * (a : Int) + b) 1) = some (wayS (M 61) (M 62) a b, oU M 87 (10 * (a : Int) + b) 1) := e_M_wayOf (M := oU M 87 (10 * (a : Int) + b) 1) hX hY (nat9 ha) (nat9 hb)
    rw [if_pos q, if_pos q, if_pos q, if_neg (by decide), bnd_eq n1.1 n1.2, lt_eq, if_neg (by decide), hw, Option.bind_some, bnd_eq n1.1 n1.2, lt_eq, lt_eq, w1]
  · rw [if_neg q, if_neg q, if_neg q, if_pos trivial, bnd_eq n1.1 n1.2, lt_eq, if_pos trivial, bnd_eq n1.1 n1.2, lt_eq, lt_eq, w1]
def inI (B : oM) (a b : Nat) (s : Int × oM) : Prop := s.1 = (b : Int) ∧ (∀ x y : Nat, x < 10 → y < 10 → dn a b x y → s.2 87 (10 * (x : Int) + y) = iD1 (B 58) x y ∧ s.2 88 (10 * (x : Int) + y) = iD2 (B 58) (B 61) (B 62) x y) ∧ eqo w88 B s.2
theorem in_step {f a b : Nat} {B : oM} {s : Int × oM} (ha : a < 10) (hb : b < 10) (hX : spotOk (B 61)) (hY : spotOk (B 62)) (hI : inI B a b s) : okp (p_M_laysBack_L10 f a s) (psum (inI B a (b + 1)) (fun N => inI B (a + 1) 0 (0, N))) := by
  obtain ⟨j, N⟩ := s
  obtain ⟨i1, i2, i3⟩ := hI
  simp only at i1 i2 i3
  subst i1
  have e61 : N 61 = B 61 := eqo_a i3 61 rfl
  have e62 : N 62 = B 62 := eqo_a i3 62 rfl
  have e58 : N 58 = B 58 := eqo_a i3 58 rfl
  rw [in_cell ha hb (e61 ▸ hX) (e62 ▸ hY), e61, e62, e58]
  refine ⟨rfl, fun x y hx hy hd => ?_, eqo_oUa mem88 (eqo_oUa mem87 i3)⟩
  show oU (oU N 87 (10 * (a : Int) + b) (iD1 (B 58) a b)) 88 (10 * (a : Int) + b) (iD2 (B 58) (B 61) (B 62) a b) 87 (10 * (x : Int) + y) = _ ∧ oU (oU N 87 (10 * (a : Int) + b) (iD1 (B 58) a b)) 88 (10 * (a : Int) + b) (iD2 (B 58) (B 61) (B 62) a b) 88 (10 * (x : Int) + y) = _
  by_cases q : x = a ∧ y = b
  · obtain ⟨rfl, rfl⟩ := q
    rw [oU_o (by decide), oU_at, oU_at]
    exact ⟨rfl, rfl⟩
  · have hn := cell_ne hb hy q
    rw [oU_o (by decide), oU_i hn, oU_i hn, oU_o (by decide)]
    exact i2 x y hx hy ((dn_next.1 hd).elim id (fun z => absurd z q))
theorem in_line {f a : Nat} {M B : oM} (hf : 2000 < f) (ha : a < 10) (hX : spotOk (B 61)) (hY : spotOk (B 62)) (hI : inI B a 0 (0, M)) : ∃ N, iter (p_M_laysBack_L10 f a) f (0, M) = some N ∧ inI B (a + 1) 0 (0, N) := by
  refine okp_ex (for_ok 10 (inI B a) (fun b s hb hI => in_step ha hb hX hY hI) (fun s hI => ?_) f (Nat.lt_trans (by decide) hf) hI)
  obtain ⟨j, N⟩ := s
  obtain ⟨i1, i2, i3⟩ := hI
  simp only at i1 i2 i3
  subst i1
  unfold p_M_laysBack_L10
  simp only []
  rw [if_neg (show ¬ (((10 : Nat) : Int) < 10) by decide)]
  exact ⟨rfl, fun x y hx hy hd => i2 x y hx hy ((dn_line hy).2 hd), i3⟩
theorem e_M_laysBack {f : Nat} {B : oM} (hf : 2000 < f) (hX : spotOk (B 61)) (hY : spotOk (B 62)) : ∃ N, p_M_laysBack f B = some (0, N) ∧ (∀ m, m = 10 → gO N 87 (flR (iD1 (B 58)) m) ∧ gO N 88 (flR (iD2 (B 58) (B 61) (B 62)) m)) ∧ eqo w88 B N := by
  obtain ⟨N, e, g1, g2, g3⟩ : ∃ N, iter (p_M_laysBack_L2 f) f (0, B) = some N ∧ gO N 87 (iD1 (B 58)) ∧ gO N 88 (iD2 (B 58) (B 61) (B 62)) ∧ eqo w88 B N := by
    refine okp_ex (for_ok 10 (fun (a : Nat) (s : Int × oM) => s.1 = (a : Int) ∧ inI B a 0 (0, s.2)) (fun a s ha hI => ?_) (fun s hI => ?_) f (Nat.lt_trans (by decide) hf) ⟨rfl, rfl, fun x y _ _ hd => absurd hd dn_zero, eqo_rfl _ _⟩)
    · obtain ⟨j, N⟩ := s
      obtain ⟨i1, i2⟩ := hI
      simp only at i1 i2
      subst i1
      obtain ⟨N', e, k1⟩ := in_line (f := f) hf ha hX hY i2
      unfold p_M_laysBack_L2
      simp only []
      rw [if_pos (nat9 ha).2, e, Option.bind_some]
      unfold p_M_laysBack_X10
      rw [lt_eq, w32nat (Nat.lt_trans ha (by decide))]
      exact ⟨rfl, k1⟩
    · obtain ⟨j, N⟩ := s
      obtain ⟨i1, i2⟩ := hI
      simp only at i1 i2
      subst i1
      unfold p_M_laysBack_L2
      simp only []
      rw [if_neg (show ¬ (((10 : Nat) : Int) < 10) by decide)]
      exact ⟨fun x y hx hy => (i2.2.1 x y hx hy (dn_all hx)).1, fun x y hx hy => (i2.2.1 x y hx hy (dn_all hx)).2, i2.2.2⟩
  obtain ⟨N', e', k1, k2⟩ := fc_all (f := f) hf iD1_ok (iD2_ok (d := B 58) hX hY) g1 g2 g3
  refine ⟨N', ?_, k1, k2⟩
  unfold p_M_laysBack
  rw [e, Option.bind_some]
  unfold p_M_laysBack_X2
  exact e'
