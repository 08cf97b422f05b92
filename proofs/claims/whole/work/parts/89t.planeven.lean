/-! new debts: the class's plan -/
theorem sN_split {f : Nat → Nat} (a b : Nat) : sN f (a + b) = sN f a + sN (fun k => f (a + k)) b := by
  induction b with
  | zero => rfl
  | succ b ih =>
    show sN f (a + b) + f (a + b) = sN f a + (sN (fun k => f (a + k)) b + f (a + b))
    rw [ih, Nat.add_assoc]
theorem sN_cst (v n : Nat) : sN (fun _ => v) n = n * v := by
  induction n with
  | zero => rw [Nat.zero_mul]; rfl
  | succ n ih =>
    show sN (fun _ => v) n + v = _
    rw [ih, Nat.succ_mul]
theorem clf_cnt {d : Int → Int} {m q : Nat} : ∀ n, n ≤ m → sN (fun j => if clf d j m = q then 1 else 0) (cs d n) = if q < n then (d q).toNat else 0 := by
  intro n
  induction n with
  | zero => intro _; rw [if_neg (Nat.not_lt_zero _)]; rfl
  | succ n ih =>
    intro hn
    show sN (fun j => if clf d j m = q then 1 else 0) (cs d n + (d n).toNat) = _
    rw [sN_split, ih (Nat.le_of_succ_le hn)]
    have e : sN (fun k => if clf d (cs d n + k) m = q then 1 else 0) (d n).toNat = sN (fun _ => if n = q then 1 else 0) (d n).toNat := by
      refine sN_congr _ fun k hk => ?_
      have h1 : cs d n + k < cs d (n + 1) := Nat.add_lt_add_left hk _
      have h2 := clf_ok m (Nat.lt_of_lt_of_le h1 (cs_le hn))
      rw [cell_uniq h2.2.1 h2.2.2 (Nat.le_add_right _ _) h1]
    rw [e, sN_cst]
    by_cases z : q < n
    · rw [if_pos z, if_pos (Nat.lt_succ_of_lt z), if_neg (show ¬ n = q by omega), Nat.mul_zero, Nat.add_zero]
    · rw [if_neg z]
      by_cases z2 : n = q
      · rw [if_pos z2, if_pos (show q < n + 1 by omega), Nat.mul_one, Nat.zero_add, z2]
      · rw [if_neg z2, if_neg (show ¬ q < n + 1 by omega), Nat.mul_zero]
theorem sumN_swap {g : Nat → Nat → Int} (n m : Nat) : sumN (fun a => sumN (fun b => g a b) m) n = sumN (fun b => sumN (fun a => g a b) n) m := by
  induction n with
  | zero =>
    refine ((sumN_congr (g' := fun _ => 0) m fun b _ => rfl).trans (sumN_zero m)).symm
  | succ n ih =>
    show sumN (fun a => sumN (fun b => g a b) m) n + sumN (fun b => g n b) m = _
    rw [ih, ← sumN_add2]
    rfl
theorem wOf_total (d : Int → Int) : sumN (fun p => wOf d p) 10 = 0 := by
  have e : sumN (fun p => wOf d p) 10 = sumN (fun p => getS d (p : Int)) 10 - sumN (fun p => oweS d (p : Int)) 10 := sumN_sub 10
  have h : sumN (fun p => getS d (p : Int)) 10 = sumN (fun p => oweS d (p : Int)) 10 := sumN_swap (g := fun a k => d (10 * (k : Int) + (a : Int))) 10 10
  rw [e, h, Int.sub_self]
theorem cs_diff {d : Int → Int} (n : Nat) : ((cs (wP d) n : Nat) : Int) - ((cs (wN d) n : Nat) : Int) = sumN (fun p => wOf d p) n := by
  induction n with
  | zero => rfl
  | succ n ih =>
    show ((cs (wP d) n + (wP d n).toNat : Nat) : Int) - ((cs (wN d) n + (wN d n).toNat : Nat) : Int) = sumN (fun p => wOf d p) n + wOf d n
    rw [← ih, wP_nat, wN_nat]
    generalize cs (wP d) n = a
    generalize cs (wN d) n = b
    generalize wOf d n = x
    omega
theorem cs_same (d : Int → Int) : cs (wP d) 10 = cs (wN d) 10 := by
  have h := cs_diff (d := d) 10
  rw [wOf_total] at h
  generalize cs (wP d) 10 = a at *
  generalize cs (wN d) 10 = b at *
  omega
theorem nd_step {f p A : Nat} {x : Int} {M : oM} (hp : p < 10) (hx : M 50 (p : Int) = x) (hA : A < 20000) (hx2 : x ≤ 990) : p_B_newDebts_L9 f ((A : Int), (p : Int), M) = some (.inl (((A + x.toNat : Nat) : Int), ((p + 1 : Nat) : Int), M)) := by
  have e : imax 0 x = ((x.toNat : Nat) : Int) := by unfold imax; split <;> omega
  have w : w32 ((A : Int) + ((x.toNat : Nat) : Int)) = ((A + x.toNat : Nat) : Int) := by
    have : x.toNat ≤ 990 := by omega
    rw [w32_of (by omega) (by omega)]; rfl
  unfold p_B_newDebts_L9
  simp only []
  rw [if_pos (nat9 hp).2, bnd_eq (nat9 hp).1 (nat9 hp).2, hx, e, w, lt_eq, lt_eq, w32nat (Nat.lt_trans hp (by decide))]
theorem e_newDebts {f : Nat} {M : oM} (hf : 2000 < f) (h : dOk (M 7)) : ∃ N, p_B_newDebts f M = some (((cs (wP (M 7)) 10 : Nat) : Int), N) ∧ (∀ p : Nat, p < 10 → N 50 (p : Int) = wOf (M 7) p) ∧ eqo [(50, (-1))] M N := by
  obtain ⟨N, e1, h1, h2⟩ := e_weigh (f := f) (M := M) hf h
  refine ⟨N, ?_, h1, h2⟩
  unfold p_B_newDebts
  rw [e1, Option.bind_some]
  refine iter_up 10 (fun i => (((cs (wP (M 7)) i : Nat) : Int), (i : Int), N)) _ ?_ ?_ f (Nat.lt_trans (by decide) hf)
  · intro p hp
    have hb := wOf_bd h hp
    have c1 := cs_bd (d := wP (M 7)) 10 (fun p hp => by have := wOf_bd h hp; rw [wP_nat]; generalize wOf (M 7) p = x at *; omega) p (Nat.le_of_lt hp)
    show p_B_newDebts_L9 f (((cs (wP (M 7)) p : Nat) : Int), (p : Int), N) = _
    rw [nd_step hp (h1 p hp) (by omega) hb.2]
    rfl
  · show p_B_newDebts_L9 f (_, ((10 : Nat) : Int), N) = _
    unfold p_B_newDebts_L9
    simp only []
    rw [if_neg (show ¬ (((10 : Nat) : Int) < 10) by decide)]
def hrw (X Y : Int → Int) (lk : Nat → Nat) (k q : Nat) : Int := if lk k < 10 ∧ q < 10 then wayS X Y (lk k) q else 0
theorem hrw_bd {X Y : Int → Int} {lk : Nat → Nat} (hX : spotOk X) (hY : spotOk Y) (k q : Nat) : 0 ≤ hrw X Y lk k q ∧ hrw X Y lk k q ≤ 18 := by
  unfold hrw
  by_cases h : lk k < 10 ∧ q < 10
  · rw [if_pos h]
    have := wayS_bd hX hY (nat9 h.1) (nat9 h.2)
    omega
  · rw [if_neg h]; decide
def cNeg (d : Int → Int) (q : Nat) : Nat := if q < 10 then (wN d q).toNat else 0
theorem cOf_w {d : Int → Int} {N : oM} (h : dOk d) (h50 : ∀ p : Nat, p < 10 → N 50 (p : Int) = wOf d p) : cOf N (cNeg d) := by
  intro q hq
  have hb := wOf_bd h hq
  unfold cNeg
  rw [if_pos hq, h50 q hq, wN_nat]
  generalize wOf d q = x at *
  omega
theorem e_planNewDebts {f n : Nat} {M : oM} {d : Int → Int} (hf : 2000 < f) (hn : n ≤ 6) (hd : dOk d) (h50 : ∀ p : Nat, p < 10 → M 50 (p : Int) = wOf d p) (hcs : n = cs (wP d) 10) (hX : spotOk (M 4)) (hY : spotOk (M 5)) :
    ∀ m, m = n → bv (hrw (M 4) (M 5) (fun j => clf (wP d) j 10)) m (cNeg d) 0 < 1000000 → ∃ N, p_B_planNewDebts f n M = some (0, N) ∧ N 49 8 = bv (hrw (M 4) (M 5) (fun j => clf (wP d) j 10)) m (cNeg d) 0 ∧ ∀ i : Nat, i < (bl (hrw (M 4) (M 5) (fun j => clf (wP d) j 10)) m (cNeg d) 0).length → N 54 (i : Int) = (((bl (hrw (M 4) (M 5) (fun j => clf (wP d) j 10)) m (cNeg d) 0).getD i 0 : Nat) : Int) := by
  intro m hm hsm
  subst hm
  have hcc : ∀ p : Nat, p ≤ 10 → cs (M 50) p = cs (wP d) p := fun p hp => cs_congr p fun i hi => h50 i (Nat.lt_of_lt_of_le hi hp)
  generalize hw : hrw (M 4) (M 5) (fun j => clf (wP d) j 10) = w at *
  have hw18 : ∀ k q, 0 ≤ w k q ∧ w k q ≤ 18 := fun k q => by rw [← hw]; exact hrw_bd hX hY k q
  have hr : okp (p_B_planNewDebts f m M) (fun q => q.1 = 0 ∧ q.2 49 8 = bv w m (cNeg d) 0 ∧ ∀ i : Nat, i < (bl w m (cNeg d) 0).length → q.2 54 (i : Int) = (((bl w m (cNeg d) 0).getD i 0 : Nat) : Int)) := by
    unfold p_B_planNewDebts
    refine for_ok 10 (fun (p : Nat) (s : Int × Int × oM) => s.1 = ((cs (M 50) p : Nat) : Int) ∧ s.2.1 = (p : Int) ∧ lsK (M 50) (s.2.2 52) p 0 ∧ eqo [(52, (-1))] M s.2.2) (fun p s hp hI => ?_) (fun s hI => ?_) f (Nat.lt_trans (by decide) hf) ⟨rfl, rfl, lsK_zero, eqo_rfl _ _⟩
    · obtain ⟨a, i, N⟩ := s
      obtain ⟨i1, i2, i3, i4⟩ := hI
      simp only at i1 i2 i3 i4
      subst i1 i2
      have e50 : N 50 = M 50 := eqo_a i4 50 rfl
      have ht : cs (N 50) (p + 1) ≤ 6 := by
        rw [e50, hcc (p + 1) hp]
        exact Nat.le_trans (cs_le hp) (hcs ▸ hn)
      obtain ⟨N', e, g1, g2⟩ := pn_row (f := f) (l1 := (m : Int)) (M := N) hf hp ht (e50 ▸ i3)
      rw [e50] at e g1
      unfold p_B_planNewDebts_L4
      simp only []
      rw [if_pos (nat9 hp).2, e, Option.bind_some]
      unfold p_B_planNewDebts_X13
      simp only []
      rw [lt_eq, w32nat (Nat.lt_trans hp (by decide))]
      exact ⟨rfl, rfl, g1, eqo_tt i4 g2⟩
    · obtain ⟨a, i, N⟩ := s
      obtain ⟨i1, i2, i3, i4⟩ := hI
      simp only at i1 i2 i3 i4
      subst i1 i2
      have e10 : cs (M 50) 10 = m := (hcc 10 (Nat.le_refl _)).trans hcs.symm
      have emin : imin (m : Int) ((cs (M 50) 10 : Nat) : Int) = (m : Int) := by
        rw [e10]; unfold imin; rw [if_neg (Int.lt_irrefl _)]
      have hlk : ∀ j : Nat, j < m → N 52 (j : Int) = ((clf (wP d) j 10 : Nat) : Int) := by
        intro j hj
        have hj2 : j < cs (wP d) 10 := hcs ▸ hj
        have h := clf_ok 10 hj2
        refine i3.1 _ j (Nat.lt_of_lt_of_le hj hn) h.1 ?_ ?_
        · rw [hcc _ (Nat.le_of_lt h.1)]; exact h.2.1
        · rw [hcc _ h.1]; exact h.2.2
      have hway : ∀ (k q : Nat) (N' : oM), k < m → q < 10 → N' 4 = (oU N 49 8 1000000) 4 → N' 5 = (oU N 49 8 1000000) 5 → N' 52 = (oU N 49 8 1000000) 52 → p_P_way f (N' 52 (k : Int)) q N' = some (w k q, N') := by
        intro k q N' hk hq e4 e5 e52
        have f4 : N' 4 = M 4 := e4.trans ((oU_row (by decide)).trans (eqo_a i4 4 rfl))
        have f5 : N' 5 = M 5 := e5.trans ((oU_row (by decide)).trans (eqo_a i4 5 rfl))
        have f52 : N' 52 = N 52 := e52.trans (oU_row (by decide))
        have hlt : clf (wP d) k 10 < 10 := (clf_ok 10 (show k < cs (wP d) 10 from hcs ▸ hk)).1
        rw [f52, hlk k hk, e_P_way (f4 ▸ hX) (f5 ▸ hY) (nat9 hlt) (nat9 hq), f4, f5, ← hw]
        unfold hrw
        rw [if_pos ⟨hlt, hq⟩]
      have hc0 : cOf (oU N 49 8 1000000) (cNeg d) := cOf_w hd (fun p hp => (oU_o (by decide)).trans ((congrFun (eqo_a i4 50 rfl) _).trans (h50 p hp)))
      obtain ⟨Q, eQ, q1, q2, q3, q4⟩ := okp_ex (as_ok (f := f) (n := m) (B := oU N 49 8 1000000) (w := w) hf hn hw18 hway m 9 0 (by omega) (by omega) (cNeg d) (oU N 49 8 1000000) 1000000 0 hc0 (eqo_rfl _ _) oU_at (Int.le_refl _) (Int.le_refl _) (Int.le_refl _))
      have q5 := q4.1 (by rw [Int.zero_add]; exact hsm)
      unfold p_B_planNewDebts_L4
      simp only []
      rw [if_neg (show ¬ (((10 : Nat) : Int) < 10) by decide), lt_eq, emin, show p_B_assign f 9 0 (m : Int) 0 (oU N 49 8 1000000) = some Q from eQ, Option.bind_some]
      refine ⟨rfl, by show Q.2 49 8 = _; rw [q5.1, Int.zero_add], fun i hi => ?_⟩
      have := q5.2.2 i hi
      rw [Nat.zero_add] at this
      exact this
  obtain ⟨q, eq, h1, h2⟩ := okp_ex hr
  exact ⟨q.2, by rw [eq, ← h1], h2⟩
