/-! new debts: who lacks, who has over, on both sides -/
def lsK (d r : Int → Int) (n u : Nat) : Prop := (∀ i j : Nat, j < 6 → i < n → cs d i ≤ j → j < cs d (i + 1) → r j = (i : Int)) ∧ ∀ j : Nat, j < 6 → cs d n ≤ j → j < cs d n + u → r j = (n : Int)
theorem lsK_zero {d r : Int → Int} : lsK d r 0 0 := ⟨fun i j _ hi => absurd hi (Nat.not_lt_zero _), fun j _ h1 h2 => absurd h2 (Nat.not_lt.mpr h1)⟩
theorem lsK_next {d r : Int → Int} {n : Nat} (h : lsK d r n (d n).toNat) : lsK d r (n + 1) 0 := by
  refine ⟨fun i j hj hi h1 h2 => ?_, fun j _ h1 h2 => absurd h2 (Nat.not_lt.mpr h1)⟩
  rcases Nat.lt_or_ge i n with y | y
  · exact h.1 i j hj y h1 h2
  · have e : i = n := Nat.le_antisymm (Nat.le_of_lt_succ hi) y
    subst e
    exact h.2 j hj h1 h2
theorem lsK_put {d : Int → Int} {M : oM} {o n u : Nat} (h : lsK d (M o) n u) : lsK d (oU M o ((cs d n + u : Nat) : Int) (n : Int) o) n (u + 1) := by
  refine ⟨fun i j hj hi h1 h2 => ?_, fun j hj h1 h2 => ?_⟩
  · have h3 : j < cs d n + u := Nat.lt_of_lt_of_le h2 (Nat.le_trans (cs_le hi) (Nat.le_add_right _ _))
    rw [oU_i (ne_cast h3)]
    exact h.1 i j hj hi h1 h2
  · rcases Nat.lt_or_ge j (cs d n + u) with y | y
    · rw [oU_i (ne_cast y)]; exact h.2 j hj h1 y
    · have e : j = cs d n + u := Nat.le_antisymm (Nat.le_of_lt_succ h2) y
      rw [e, oU_at]
theorem lsK_skip {d r : Int → Int} {n u : Nat} (h : lsK d r n u) (h6 : 6 ≤ cs d n + u) : lsK d r n (u + 1) := ⟨h.1, fun j hj h1 h2 => h.2 j hj h1 (by omega)⟩
theorem lsK_clf {d r : Int → Int} {m j : Nat} (h : lsK d r m 0) (h6 : j < 6) (hj : j < cs d m) : r j = ((clf d j m : Nat) : Int) := by
  have := clf_ok m hj
  exact h.1 _ j h6 this.1 this.2.1 this.2.2
/-! the class's list -/
theorem pn_put {f p u A : Nat} {l1 x : Int} {M : oM} (hp : p < 10) (hx : M 50 (p : Int) = x) (hu : (u : Int) < x) (hA : A < 6) (hu' : u < 1000) : p_B_planNewDebts_L13 f l1 p ((A : Int), (u : Int), M) = some (.inl (((A + 1 : Nat) : Int), ((u + 1 : Nat) : Int), oU M 52 (A : Int) (p : Int))) := by
  have n6 : (A : Int) < 6 := nat_lt hA
  unfold p_B_planNewDebts_L13
  simp only []
  rw [bnd_eq (nat9 hp).1 (nat9 hp).2, hx, if_pos hu, if_pos n6, bnd_nat n6, lt_eq, lt_eq, lt_eq, w32nat (Nat.lt_trans hA (by decide)), w32nat (Nat.lt_trans hu' (by decide))]
theorem pn_end {f p u A : Nat} {l1 x : Int} {M : oM} (hp : p < 10) (hx : M 50 (p : Int) = x) (hu : ¬ (u : Int) < x) : p_B_planNewDebts_L13 f l1 p ((A : Int), (u : Int), M) = some (.inr ((A : Int), M)) := by
  unfold p_B_planNewDebts_L13
  simp only []
  rw [bnd_eq (nat9 hp).1 (nat9 hp).2, hx, if_neg hu]
theorem lt_toNat {u : Nat} {x : Int} (h : u < x.toNat) : (u : Int) < x := by omega
theorem nlt_toNat {x : Int} : ¬ ((x.toNat : Nat) : Int) < x := by omega
theorem pn_row {f p : Nat} {l1 : Int} {M : oM} (hf : 2000 < f) (hp : p < 10) (ht : cs (M 50) (p + 1) ≤ 6) (h : lsK (M 50) (M 52) p 0) : ∃ N, iter (p_B_planNewDebts_L13 f l1 p) f (((cs (M 50) p : Nat) : Int), 0, M) = some (((cs (M 50) (p + 1) : Nat) : Int), N) ∧ lsK (M 50) (N 52) (p + 1) 0 ∧ eqo [(52, (-1))] M N := by
  have ec : cs (M 50) (p + 1) = cs (M 50) p + (M 50 p).toNat := rfl
  have hr : okp (iter (p_B_planNewDebts_L13 f l1 p) f (((cs (M 50) p : Nat) : Int), 0, M)) (fun q => q.1 = ((cs (M 50) (p + 1) : Nat) : Int) ∧ lsK (M 50) (q.2 52) (p + 1) 0 ∧ eqo [(52, (-1))] M q.2) := by
    have hl : (M 50 p).toNat ≤ 6 := Nat.le_trans (ec ▸ Nat.le_add_left _ _) ht
    refine for_ok (M 50 p).toNat (fun u s => s.1 = ((cs (M 50) p + u : Nat) : Int) ∧ s.2.1 = (u : Int) ∧ lsK (M 50) (s.2.2 52) p u ∧ eqo [(52, (-1))] M s.2.2) (fun u s hu hI => ?_) (fun s hI => ?_) f (Nat.lt_of_le_of_lt hl (Nat.lt_trans (by decide) hf)) ⟨rfl, rfl, h, eqo_rfl _ _⟩
    · obtain ⟨a, i, N⟩ := s
      obtain ⟨i1, i2, i3, i4⟩ := hI
      simp only at i1 i2 i3 i4
      subst i1 i2
      have e50 : N 50 (p : Int) = M 50 (p : Int) := congrFun (eqo_a i4 50 rfl) _
      rw [pn_put hp e50 (lt_toNat hu) (Nat.lt_of_lt_of_le (Nat.add_lt_add_left hu _) (ec ▸ ht)) (Nat.lt_of_lt_of_le hu (Nat.le_trans hl (by decide)))]
      exact ⟨rfl, rfl, lsK_put i3, eqo_oUa (.head _) i4⟩
    · obtain ⟨a, i, N⟩ := s
      obtain ⟨i1, i2, i3, i4⟩ := hI
      simp only at i1 i2 i3 i4
      subst i1 i2
      have e50 : N 50 (p : Int) = M 50 (p : Int) := congrFun (eqo_a i4 50 rfl) _
      rw [pn_end hp e50 nlt_toNat]
      exact ⟨rfl, lsK_next i3, i4⟩
  obtain ⟨q, eq, h1, h2, h3⟩ := okp_ex hr
  exact ⟨q.2, by rw [eq, ← h1], h2, h3⟩
/-! the reference's lists -/
theorem ll_put {f p u A : Nat} {l1 x : Int} {M : oM} (hu : (u : Int) < x) (h58 : M 57 58 = (A : Int)) (hA : A < 20000) (hu' : u < 1000) : p_M_laysLacks_L24 f l1 p x ((u : Int), M) = some (.inl (((u + 1 : Nat) : Int), oU (if A < 6 then oU M 89 (A : Int) (p : Int) else M) 57 58 ((A + 1 : Nat) : Int))) := by
  have wA : w32 ((A : Int) + 1) = ((A + 1 : Nat) : Int) := by rw [w32_of (by omega) (by omega)]; rfl
  unfold p_M_laysLacks_L24 p_M_laysLacks_B49_24
  simp only []
  rw [if_pos hu, h58]
  by_cases h6 : A < 6
  · have n6 : (A : Int) < 6 := nat_lt h6
    rw [if_pos n6, if_pos h6, bnd_nat n6, lt_eq, oU_o (by decide), h58, wA, lt_eq, lt_eq, w32nat (Nat.lt_trans hu' (by decide))]
  · have n6 : ¬ (A : Int) < 6 := nat_nlt (Nat.le_of_not_lt h6)
    rw [if_neg n6, if_neg h6, wA, lt_eq, lt_eq, w32nat (Nat.lt_trans hu' (by decide))]
theorem ll_row {f p A : Nat} {l1 : Int} {M : oM} {d : Int → Int} (hf : 2000 < f) (hd : (d p).toNat ≤ 990) (hA : A = cs d p) (hA2 : A < 10000) (h58 : M 57 58 = (A : Int)) (h : lsK d (M 89) p 0) : ∃ N, iter (p_M_laysLacks_L24 f l1 p (d p)) f (0, M) = some N ∧ N 57 58 = ((cs d (p + 1) : Nat) : Int) ∧ lsK d (N 89) (p + 1) 0 ∧ eqo [(57, 58), (89, (-1))] M N := by
  subst hA
  have ec : cs d (p + 1) = cs d p + (d p).toNat := rfl
  refine okp_ex (for_ok (d p).toNat (fun (u : Nat) (s : Int × oM) => s.1 = (u : Int) ∧ s.2 57 58 = ((cs d p + u : Nat) : Int) ∧ lsK d (s.2 89) p u ∧ eqo [(57, 58), (89, (-1))] M s.2) (fun u s hu hI => ?_) (fun s hI => ?_) f (Nat.lt_of_le_of_lt hd (Nat.lt_trans (by decide) hf)) ⟨rfl, h58, h, eqo_rfl _ _⟩)
  · obtain ⟨i, N⟩ := s
    obtain ⟨i1, i2, i3, i4⟩ := hI
    simp only at i1 i2 i3 i4
    subst i1
    have hu9 : u < 990 := Nat.lt_of_lt_of_le hu hd
    rw [ll_put (lt_toNat hu) i2 (by clear i2 i3 hu ec; omega) (by clear i2 i3 hu ec; omega)]
    by_cases h6 : cs d p + u < 6
    · rw [if_pos h6]
      refine ⟨rfl, oU_at (M := oU N 89 ((cs d p + u : Nat) : Int) (p : Int)) (o := 57) (i := 58) (v := ((cs d p + u + 1 : Nat) : Int)), ?_, eqo_oU (.head _) (eqo_oUa (.tail _ (.head _)) i4)⟩
      show lsK d (oU (oU N 89 ((cs d p + u : Nat) : Int) (p : Int)) 57 58 ((cs d p + u + 1 : Nat) : Int) 89) p (u + 1)
      rw [oU_row (by decide)]
      exact lsK_put i3
    · rw [if_neg h6]
      refine ⟨rfl, oU_at (M := N) (o := 57) (i := 58) (v := ((cs d p + u + 1 : Nat) : Int)), ?_, eqo_oU (.head _) i4⟩
      show lsK d (oU N 57 58 ((cs d p + u + 1 : Nat) : Int) 89) p (u + 1)
      rw [oU_row (by decide)]
      exact lsK_skip i3 (Nat.le_of_not_lt h6)
  · obtain ⟨i, N⟩ := s
    obtain ⟨i1, i2, i3, i4⟩ := hI
    simp only at i1 i2 i3 i4
    subst i1
    unfold p_M_laysLacks_L24
    simp only []
    rw [if_neg nlt_toNat]
    exact ⟨i2, lsK_next i3, i4⟩
theorem lw_put {f p u A : Nat} {l3 x : Int} {M : oM} (hx : w32 (-l3) = x) (hu : (u : Int) < x) (hA : A < 20000) (hu' : u < 1000) : p_M_laysLacks_L68 f p l3 ((A : Int), (u : Int), M) = some (.inl (((A + 1 : Nat) : Int), ((u + 1 : Nat) : Int), if A < 6 then oU M 90 (A : Int) (p : Int) else M)) := by
  have wA : w32 ((A : Int) + 1) = ((A + 1 : Nat) : Int) := by rw [w32_of (by omega) (by omega)]; rfl
  unfold p_M_laysLacks_L68 p_M_laysLacks_B88_68
  simp only []
  rw [hx, if_pos hu]
  by_cases h6 : A < 6
  · have n6 : (A : Int) < 6 := nat_lt h6
    rw [if_pos n6, if_pos h6, bnd_nat n6, lt_eq, wA, lt_eq, lt_eq, w32nat (Nat.lt_trans hu' (by decide))]
  · have n6 : ¬ (A : Int) < 6 := nat_nlt (Nat.le_of_not_lt h6)
    rw [if_neg n6, if_neg h6, wA, lt_eq, lt_eq, w32nat (Nat.lt_trans hu' (by decide))]
theorem lw_row {f p A : Nat} {l3 : Int} {M : oM} {d : Int → Int} (hf : 2000 < f) (hd : (d p).toNat ≤ 990) (hl3 : w32 (-l3) = d p) (hA : A = cs d p) (hA2 : A < 10000) (h : lsK d (M 90) p 0) : ∃ N, iter (p_M_laysLacks_L68 f p l3) f ((A : Int), 0, M) = some (((cs d (p + 1) : Nat) : Int), N) ∧ lsK d (N 90) (p + 1) 0 ∧ eqo [(90, (-1))] M N := by
  subst hA
  have ec : cs d (p + 1) = cs d p + (d p).toNat := rfl
  have hr : okp (iter (p_M_laysLacks_L68 f p l3) f (((cs d p : Nat) : Int), 0, M)) (fun q => q.1 = ((cs d (p + 1) : Nat) : Int) ∧ lsK d (q.2 90) (p + 1) 0 ∧ eqo [(90, (-1))] M q.2) := by
    refine for_ok (d p).toNat (fun (u : Nat) (s : Int × Int × oM) => s.1 = ((cs d p + u : Nat) : Int) ∧ s.2.1 = (u : Int) ∧ lsK d (s.2.2 90) p u ∧ eqo [(90, (-1))] M s.2.2) (fun u s hu hI => ?_) (fun s hI => ?_) f (Nat.lt_of_le_of_lt hd (Nat.lt_trans (by decide) hf)) ⟨rfl, rfl, h, eqo_rfl _ _⟩
    · obtain ⟨a, i, N⟩ := s
      obtain ⟨i1, i2, i3, i4⟩ := hI
      simp only at i1 i2 i3 i4
      subst i1 i2
      have hu9 : u < 990 := Nat.lt_of_lt_of_le hu hd
      rw [lw_put hl3 (lt_toNat hu) (by clear i3 hu ec; omega) (by clear i3 hu ec; omega)]
      by_cases h6 : cs d p + u < 6
      · rw [if_pos h6]
        exact ⟨rfl, rfl, lsK_put i3, eqo_oUa (.head _) i4⟩
      · rw [if_neg h6]
        exact ⟨rfl, rfl, lsK_skip i3 (Nat.le_of_not_lt h6), i4⟩
    · obtain ⟨a, i, N⟩ := s
      obtain ⟨i1, i2, i3, i4⟩ := hI
      simp only at i1 i2 i3 i4
      subst i1 i2
      unfold p_M_laysLacks_L68
      simp only []
      rw [hl3, if_neg nlt_toNat]
      exact ⟨rfl, lsK_next i3, i4⟩
  obtain ⟨q, eq, h1, h2, h3⟩ := okp_ex hr
  exact ⟨q.2, by rw [eq, ← h1], h2, h3⟩
def wP (d : Int → Int) : Int → Int := fun i => wOf d i.toNat
def wN (d : Int → Int) : Int → Int := fun i => -wOf d i.toNat
theorem wP_nat {d : Int → Int} {p : Nat} : wP d (p : Int) = wOf d p := rfl
theorem wN_nat {d : Int → Int} {p : Nat} : wN d (p : Int) = -wOf d p := rfl
theorem cs_bd {d : Int → Int} (m : Nat) (h : ∀ p : Nat, p < m → (d p).toNat ≤ 990) : ∀ n : Nat, n ≤ m → cs d n ≤ 990 * n := by
  intro n
  induction n with
  | zero => intro _; exact Nat.le_refl _
  | succ n ih =>
    intro hn
    have h1 := ih (by omega)
    have h2 := h n (by omega)
    show cs d n + (d n).toNat ≤ 990 * (n + 1)
    omega
def w578 : List (Nat × Int) := [(57, 58), (89, (-1)), (90, (-1))]
theorem e_laysLacks {f : Nat} {M : oM} (hf : 2000 < f) (hd : dOk (M 58)) : ∃ N, p_M_laysLacks f M = some (0, N) ∧ N 57 58 = ((cs (wP (M 58)) 10 : Nat) : Int) ∧ lsK (wP (M 58)) (N 89) 10 0 ∧ lsK (wN (M 58)) (N 90) 10 0 ∧ eqo w578 M N := by
  have hw : ∀ p : Nat, p < 10 → (wP (M 58) p).toNat ≤ 990 ∧ (wN (M 58) p).toNat ≤ 990 := fun p hp => by
    have := wOf_bd hd hp
    rw [wP_nat, wN_nat]
    generalize wOf (M 58) p = x at *
    omega
  have hr : okp (p_M_laysLacks f M) (fun q => q.1 = 0 ∧ q.2 57 58 = ((cs (wP (M 58)) 10 : Nat) : Int) ∧ lsK (wP (M 58)) (q.2 89) 10 0 ∧ lsK (wN (M 58)) (q.2 90) 10 0 ∧ eqo w578 M q.2) := by
    unfold p_M_laysLacks
    rw [lt_eq]
    refine for_ok 10 (fun (p : Nat) (s : Int × Int × oM) => s.1 = ((cs (wN (M 58)) p : Nat) : Int) ∧ s.2.1 = (p : Int) ∧ s.2.2 57 58 = ((cs (wP (M 58)) p : Nat) : Int) ∧ lsK (wP (M 58)) (s.2.2 89) p 0 ∧ lsK (wN (M 58)) (s.2.2 90) p 0 ∧ eqo w578 M s.2.2) (fun p s hp hI => ?_) (fun s hI => ?_) f (Nat.lt_trans (by decide) hf) ⟨rfl, rfl, oU_at (M := M) (o := 57) (i := 58) (v := 0), lsK_zero, lsK_zero, eqo_oU (.head _) (eqo_rfl _ _)⟩
    · obtain ⟨a, i, N⟩ := s
      obtain ⟨i1, i2, i3, i4, i5, i6⟩ := hI
      simp only at i1 i2 i3 i4 i5 i6
      subst i1 i2
      have e58 : N 58 = M 58 := eqo_a i6 58 rfl
      have c1 := cs_bd 10 (fun p hp => (hw p hp).1) p (Nat.le_of_lt hp)
      have c2 := cs_bd 10 (fun p hp => (hw p hp).2) p (Nat.le_of_lt hp)
      have hso := e_M_setOffOf (f := f) (M := N) hf hp (e58 ▸ hd)
      rw [e58] at hso
      obtain ⟨N1, a1, a2, a3, a4⟩ := ll_row (f := f) (l1 := ((cs (wN (M 58)) p : Nat) : Int)) (M := N) (d := wP (M 58)) hf (hw p hp).1 rfl (by clear i3 i4 i5 c2; omega) i3 i4
      have hb := wOf_bd hd hp
      have e90 : N1 90 = N 90 := eqo_a a4 90 rfl
      obtain ⟨N2, b1, b2, b3⟩ := lw_row (f := f) (l3 := wOf (M 58) p) (M := N1) (d := wN (M 58)) hf (hw p hp).2 (by rw [wN_nat]; exact w32_of (by clear a2 i3; omega) (by clear a2 i3; omega)) rfl (by clear i3 i4 i5 c1 a2; omega) (e90 ▸ i5)
      unfold p_M_laysLacks_L9
      simp only []
      rw [if_pos (nat9 hp).2, hso, Option.bind_some, show iter (p_M_laysLacks_L24 f ((cs (wN (M 58)) p : Nat) : Int) p (wOf (M 58) p, N).fst) f (0, (wOf (M 58) p, N).snd) = some N1 from a1, Option.bind_some]
      unfold p_M_laysLacks_X24
      simp only []
      rw [b1, Option.bind_some]
      unfold p_M_laysLacks_X68
      simp only []
      rw [lt_eq, w32nat (Nat.lt_trans hp (by decide))]
      refine ⟨rfl, rfl, (eqo_f b3 57 58 rfl).trans a2, ?_, b2, eqo_tr (subw_cons (.tail _ (.tail _ (.head _))) subw_nil) (eqo_tr (subw_cons (.head _) (subw_cons (.tail _ (.head _)) subw_nil)) i6 a4) b3⟩
      show lsK (wP (M 58)) (N2 89) (p + 1) 0
      rw [eqo_a b3 89 rfl]; exact a3
    · obtain ⟨a, i, N⟩ := s
      obtain ⟨i1, i2, i3, i4, i5, i6⟩ := hI
      simp only at i1 i2 i3 i4 i5 i6
      subst i1 i2
      unfold p_M_laysLacks_L9
      simp only []
      rw [if_neg (show ¬ (((10 : Nat) : Int) < 10) by decide)]
      exact ⟨rfl, i3, i4, i5, i6⟩
  obtain ⟨q, eq, h1, h2⟩ := okp_ex hr
  exact ⟨q.2, by rw [eq, ← h1], h2⟩
