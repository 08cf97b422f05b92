/-! the coins one by one -/
def cs (d : Int → Int) : Nat → Nat
  | 0 => 0
  | n + 1 => cs d n + (d n).toNat
/-- the places of a row say in which cell each coin lies, for the cells below n and u coins of cell n -/
def lsC (d : Int → Int) (r : Int → Int) (n u : Nat) : Prop := (∀ i j : Nat, i < n → cs d i ≤ j → j < cs d (i + 1) → r j = (i : Int)) ∧ ∀ j : Nat, cs d n ≤ j → j < cs d n + u → r j = (n : Int)
theorem cs_le {d : Int → Int} {a b : Nat} (h : a ≤ b) : cs d a ≤ cs d b := by
  induction b with
  | zero => rw [Nat.le_zero.mp h]; exact Nat.le_refl _
  | succ b ih =>
    rcases Nat.lt_or_ge a (b + 1) with y | y
    · exact Nat.le_trans (ih (Nat.le_of_lt_succ y)) (Nat.le_add_right _ _)
    · rw [Nat.le_antisymm h y]; exact Nat.le_refl _
theorem lsC_next {d : Int → Int} {r : Int → Int} {n : Nat} (h : lsC d r n (d n).toNat) : lsC d r (n + 1) 0 := by
  refine ⟨fun i j hi h1 h2 => ?_, fun j h1 h2 => absurd h2 (Nat.not_lt.mpr h1)⟩
  rcases Nat.lt_or_ge i n with y | y
  · exact h.1 i j y h1 h2
  · have e : i = n := Nat.le_antisymm (Nat.le_of_lt_succ hi) y
    subst e
    exact h.2 j h1 h2
theorem lsC_put {d : Int → Int} {M : oM} {o n u : Nat} (h : lsC d (M o) n u) : lsC d (oU M o ((cs d n + u : Nat) : Int) (n : Int) o) n (u + 1) := by
  refine ⟨fun i j hi h1 h2 => ?_, fun j h1 h2 => ?_⟩
  · have h3 : j < cs d n + u := Nat.lt_of_lt_of_le h2 (Nat.le_trans (cs_le hi) (Nat.le_add_right _ _))
    rw [oU_i (ne_cast h3)]
    exact h.1 i j hi h1 h2
  · rcases Nat.lt_or_ge j (cs d n + u) with y | y
    · rw [oU_i (ne_cast y)]; exact h.2 j h1 y
    · have e : j = cs d n + u := Nat.le_antisymm (Nat.le_of_lt_succ h2) y
      rw [e, oU_at]
theorem coin_put {f o n u m : Nat} {x : Int} {M : oM} {a : Nat} (hn : n < 100) (hx : M 7 (n : Int) = x) (hu : (u : Int) < x) (hm : m ≤ 12) (ha : a < m) (hu' : u < 100) : p_D_listCoins_L13 f o (m : Int) n ((a : Int), (u : Int), M) = some (.inl (((a + 1 : Nat) : Int), ((u + 1 : Nat) : Int), oU M o (a : Int) (n : Int))) := by
  unfold p_D_listCoins_L13
  simp only []
  rw [bnd_eq (Int.natCast_nonneg _) (show (n : Int) < 100 by clear hx hu; omega), hx, if_pos hu, if_pos (show (a : Int) < m by clear hx hu; omega), bnd_eq (Int.natCast_nonneg _) (show (a : Int) < m by clear hx hu; omega), lt_eq, lt_eq, lt_eq, w32nat (Nat.lt_of_lt_of_le ha (Nat.le_trans hm (by decide))), w32nat (Nat.lt_trans hu' (by decide))]
theorem coin_end {f o n u m : Nat} {x : Int} {M : oM} {a : Nat} (hn : n < 100) (hx : M 7 (n : Int) = x) (hu : ¬ (u : Int) < x) : p_D_listCoins_L13 f o (m : Int) n ((a : Int), (u : Int), M) = some (.inr ((a : Int), M)) := by
  unfold p_D_listCoins_L13
  simp only []
  rw [bnd_eq (Int.natCast_nonneg _) (show (n : Int) < 100 by clear hx hu; omega), hx, if_neg hu]
theorem coin_row {f o n m : Nat} {M : oM} (hm : m ≤ 12) (hf : 2000 < f) (hn : n < 100) (ho : outa [(o, (-1))] 7 = true) (hd : dOk (M 7)) (ht : cs (M 7) (n + 1) ≤ m) (h : lsC (M 7) (M o) n 0) : ∃ N, iter (p_D_listCoins_L13 f o (m : Int) n) f (((cs (M 7) n : Nat) : Int), 0, M) = some (((cs (M 7) (n + 1) : Nat) : Int), N) ∧ lsC (M 7) (N o) (n + 1) 0 ∧ eqo [(o, (-1))] M N := by
  have hb := hd n (Int.natCast_nonneg _) (by clear ht h; omega)
  have ex : M 7 (n : Int) = (((M 7 n).toNat : Nat) : Int) := (Int.toNat_of_nonneg hb.1).symm
  have ec : cs (M 7) (n + 1) = cs (M 7) n + (M 7 n).toNat := rfl
  have hr : okp (iter (p_D_listCoins_L13 f o (m : Int) n) f (((cs (M 7) n : Nat) : Int), 0, M)) (fun q => q.1 = ((cs (M 7) (n + 1) : Nat) : Int) ∧ lsC (M 7) (q.2 o) (n + 1) 0 ∧ eqo [(o, (-1))] M q.2) := by
    have hx : ∀ N, eqo [(o, (-1))] M N → N 7 = M 7 := fun N hN => eqo_a hN 7 ho
    have hl : (M 7 n).toNat ≤ 12 := Nat.le_trans (ec ▸ Nat.le_add_left _ _) (Nat.le_trans ht hm)
    refine for_ok (M 7 n).toNat (fun u s => ∃ N : oM, s = (((cs (M 7) n + u : Nat) : Int), (u : Int), N) ∧ lsC (M 7) (N o) n u ∧ eqo [(o, (-1))] M N) (fun u s hu hI => ?_) (fun s hI => ?_) f (Nat.lt_of_le_of_lt hl (Nat.lt_trans (by decide) hf)) ⟨M, rfl, h, eqo_rfl _ _⟩
    · obtain ⟨N, hs, h1, h2⟩ := hI
      have e7 : N 7 (n : Int) = (((M 7 n).toNat : Nat) : Int) := (congrFun (hx N h2) _).trans ex
      rw [hs, coin_put hn e7 (Int.ofNat_lt.mpr hu) hm (Nat.lt_of_lt_of_le (Nat.add_lt_add_left hu _) (ec ▸ ht)) (Nat.lt_of_lt_of_le hu (Nat.le_trans hl (by decide)))]
      exact ⟨_, rfl, lsC_put h1, eqo_oUa (.head _) h2⟩
    · obtain ⟨N, hs, h1, h2⟩ := hI
      have e7 : N 7 (n : Int) = (((M 7 n).toNat : Nat) : Int) := (congrFun (hx N h2) _).trans ex
      rw [hs, coin_end hn e7 (Int.lt_irrefl _)]
      exact ⟨rfl, lsC_next h1, h2⟩
  obtain ⟨q, eq, h1, h2, h3⟩ := okp_ex hr
  obtain ⟨r, N⟩ := q
  simp only at h1 h2 h3
  subst h1
  exact ⟨N, eq, h2, h3⟩
theorem e_listCoins {f o m : Nat} {M : oM} (hm : m ≤ 12) (hf : 2000 < f) (ho : outa [(o, (-1))] 7 = true) (hd : dOk (M 7)) (ht : cs (M 7) 100 ≤ m) : ∃ N, p_D_listCoins f o (m : Int) M = some (((cs (M 7) 100 : Nat) : Int), N) ∧ lsC (M 7) (N o) 100 0 ∧ eqo [(o, (-1))] M N := by
  have hr : okp (p_D_listCoins f o (m : Int) M) (fun q => q.1 = ((cs (M 7) 100 : Nat) : Int) ∧ lsC (M 7) (q.2 o) 100 0 ∧ eqo [(o, (-1))] M q.2) := by
    unfold p_D_listCoins
    refine for_ok 100 (fun k s => ∃ N : oM, s = (((cs (M 7) k : Nat) : Int), (k : Int), N) ∧ lsC (M 7) (N o) k 0 ∧ eqo [(o, (-1))] M N) (fun k s hk hI => ?_) (fun s hI => ?_) f (Nat.lt_trans (by decide) hf) ⟨M, rfl, ⟨fun i j hi => absurd hi (Nat.not_lt_zero _), fun j h1 h2 => absurd h2 (Nat.not_lt.mpr h1)⟩, eqo_rfl _ _⟩
    · obtain ⟨N, hs, h1, h2⟩ := hI
      have e7 : N 7 = M 7 := eqo_a h2 7 ho
      obtain ⟨N2, e2, g1, g2⟩ := coin_row (f := f) (o := o) (M := N) hm hf hk ho (e7 ▸ hd) (e7 ▸ Nat.le_trans (cs_le hk) ht) (e7 ▸ h1)
      rw [e7] at e2 g1
      rw [hs]
      unfold p_D_listCoins_L4
      simp only []
      rw [if_pos (show (k : Int) < 100 by clear ht h1 g1; omega), e2]
      simp only [Option.bind_some]
      unfold p_D_listCoins_X13
      simp only []
      rw [lt_eq, w32nat (Nat.lt_trans hk (by decide))]
      exact ⟨N2, rfl, g1, eqo_tt h2 g2⟩
    · obtain ⟨N, hs, h1, h2⟩ := hI
      rw [hs]
      unfold p_D_listCoins_L4
      simp only []
      rw [if_neg (show ¬ (((100 : Nat) : Int) < 100) by decide)]
      exact ⟨rfl, h1, h2⟩
  obtain ⟨q, eq, h1, h2, h3⟩ := okp_ex hr
  obtain ⟨r, N⟩ := q
  simp only at h1 h2 h3
  subst h1
  exact ⟨N, eq, h2, h3⟩
