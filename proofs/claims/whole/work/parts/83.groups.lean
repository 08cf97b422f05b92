/-! the reference's fewest -/
theorem eqo_tt {ws : List (Nat × Int)} {B M M' : oM} (h1 : eqo ws B M) (h2 : eqo ws M M') : eqo ws B M' := fun o i q => (h2 o i q).trans (h1 o i q)
theorem gP0 (w : Nat → Int) : gP w 0 10 = 0 := by
  refine Nat.le_zero.mp (mxN_le (b := 0) 10 fun p _ => ?_)
  rw [Nat.zero_testBit]
  exact Nat.le_refl _
theorem grm_end {f S : Nat} {M : oM} (hS : S < 1024) : p_M_laysGroups_B120_2 f S M = some (.inl (((S + 1 : Nat) : Int), M)) := by
  unfold p_M_laysGroups_B120_2
  rw [lt_eq, w32nat (Nat.lt_trans hS (by decide))]
theorem grm_x {f S : Nat} {M : oM} {w : Nat → Int} (hS : S < 1024) (h93 : M 93 (S : Int) = smB w S 10) (h94 : M 94 (S : Int) = ((gP w S 10 : Nat) : Int)) (h : ∀ k : Nat, k < S → M 94 k = ((gG w k : Nat) : Int)) : ∃ N, p_M_laysGroups_X25 f S M = some (.inl (((S + 1 : Nat) : Int), N)) ∧ (∀ k : Nat, k < S + 1 → N 94 k = ((gG w k : Nat) : Int)) ∧ eqo [(93, (-1)), (94, (-1))] M N := by
  unfold p_M_laysGroups_X25
  simp only []
  have hl : ∀ {N : oM}, N 94 (S : Int) = ((gG w S : Nat) : Int) → (∀ k : Nat, k < S → N 94 k = ((gG w k : Nat) : Int)) → ∀ k : Nat, k < S + 1 → N 94 k = ((gG w k : Nat) : Int) := by
    intro N g1 g2 k hk
    rcases Nat.lt_or_ge k S with y | y
    · exact g2 k y
    · rw [Nat.le_antisymm (Nat.le_of_lt_succ hk) y]; exact g1
  by_cases h0 : S = 0
  · rw [if_pos (show ((S : Nat) : Int) = 0 by rw [h0]; rfl), grm_end hS]
    refine ⟨M, rfl, hl ?_ h, eqo_rfl _ _⟩
    rw [h94, h0, gP0, gG0]
  · rw [if_neg (show ¬ ((S : Nat) : Int) = 0 from fun z => h0 (Int.ofNat.inj z)), bnd_eq (Int.natCast_nonneg _) (nat1024 hS), h93]
    by_cases q : smB w S 10 = 0
    · rw [if_pos q, bnd_eq (Int.natCast_nonneg _) (nat1024 hS), bnd_eq (Int.natCast_nonneg _) (nat1024 hS), lt_eq, grm_end hS, h94, w32nat (Nat.lt_trans (gP_lt hS) (by decide))]
      refine ⟨_, rfl, hl ?_ (fun k hk => ?_), eqo_oUa (.tail _ (.head _)) (eqo_rfl _ _)⟩
      · rw [oU_at, gG_row h0, if_pos q]
      · rw [oU_i (ne_cast hk)]; exact h k hk
    · rw [if_neg q, grm_end hS]
      refine ⟨M, rfl, hl ?_ h, eqo_rfl _ _⟩
      rw [h94, gG_row h0, if_neg q, Nat.add_zero (gP w S 10)]
theorem e_M_laysGroups {f : Nat} {M : oM} {w : Nat → Int} (hf : 2000 < f) (hd : dOk (M 58)) (hwd : ∀ p, p < 10 → wOf (M 58) p = w p) (hw : ∀ p, p < 10 → -990 ≤ w p ∧ w p ≤ 990) : ∃ N, p_M_laysGroups f M = some (0, N) ∧ (∀ k : Nat, k < 1024 → N 94 k = ((gG w k : Nat) : Int)) ∧ eqo [(93, (-1)), (94, (-1))] M N := by
  have hr : okp (p_M_laysGroups f M) (fun q => q.1 = 0 ∧ (∀ k : Nat, k < 1024 → q.2 94 k = ((gG w k : Nat) : Int)) ∧ eqo [(93, (-1)), (94, (-1))] M q.2) := by
    unfold p_M_laysGroups
    refine for_ok 1024 (fun k s => ∃ N : oM, s = ((k : Int), N) ∧ (∀ j : Nat, j < k → N 94 j = ((gG w j : Nat) : Int)) ∧ eqo [(93, (-1)), (94, (-1))] M N) (fun k s hk hI => ?_) (fun s hI => ?_) f (Nat.lt_trans (by decide) hf) ⟨M, rfl, fun j hj => absurd hj (Nat.not_lt_zero _), eqo_rfl _ _⟩
    · obtain ⟨N, hs, h1, h2⟩ := hI
      have q0 : eqo [(93, (-1)), (94, (-1))] M (oU (oU N 93 (k : Int) 0) 94 (k : Int) 0) := eqo_oUa (.tail _ (.head _)) (eqo_oUa (.head _) h2)
      have e58 : (oU (oU N 93 (k : Int) 0) 94 (k : Int) 0) 58 = M 58 := eqo_a q0 58 rfl
      have g93 : (oU (oU N 93 (k : Int) 0) 94 (k : Int) 0) 93 (k : Int) = 0 := by rw [oU_o (by decide), oU_at]
      have g94 : (oU (oU N 93 (k : Int) 0) 94 (k : Int) 0) 94 (k : Int) = 0 := oU_at
      have gs : ∀ j : Nat, j < k → (oU (oU N 93 (k : Int) 0) 94 (k : Int) 0) 94 j = ((gG w j : Nat) : Int) := fun j hj => by
        rw [oU_i (ne_cast hj), oU_o (by decide)]; exact h1 j hj
      rw [hs]
      unfold p_M_laysGroups_L2
      simp only []
      rw [if_pos (nat1024 hk), bnd_eq (Int.natCast_nonneg _) (nat1024 hk), lt_eq, bnd_eq (Int.natCast_nonneg _) (nat1024 hk), lt_eq]
      generalize oU (oU N 93 (k : Int) 0) 94 (k : Int) 0 = N1 at *
      obtain ⟨N2, e2, a1, a2, a3, a4⟩ := grm_row (f := f) hf hk (e58 ▸ hd) (e58 ▸ hwd) hw g93 g94 gs
      rw [e2]
      simp only [Option.bind_some]
      obtain ⟨N3, e3, b1, b2⟩ := grm_x (f := f) hk a1 a2 a3
      rw [e3]
      exact ⟨N3, rfl, b1, eqo_tt (eqo_tt q0 a4) b2⟩
    · obtain ⟨N, hs, h1, h2⟩ := hI
      rw [hs]
      unfold p_M_laysGroups_L2
      simp only []
      rw [if_neg (show ¬ (((1024 : Nat) : Int) < 1024) by decide)]
      exact ⟨rfl, h1, h2⟩
  obtain ⟨q, eq, h1, h2, h3⟩ := okp_ex hr
  obtain ⟨r, N⟩ := q
  simp only at h1 h2 h3
  subst h1
  exact ⟨N, eq, h2, h3⟩
