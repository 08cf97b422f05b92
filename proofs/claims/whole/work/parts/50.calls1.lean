/-! the calls without loops -/
theorem b01_t : b01 true = 1 := rfl
theorem b01_f : b01 false = 0 := rfl
theorem tldb_rng {T : Nat} {p : Int} (h : tldb T p = true) : 0 ≤ p ∧ p < 10 := by
  have := tld_iff.1 h
  exact ⟨this.1, this.2.1⟩
theorem e_M_areTwo {f : Nat} {a b : Int} {M : oM} {T : Nat} (hT : M 57 5 = T) (hT' : T < 1024) : p_M_areTwo f a b M = some (b01 (!decide (a = b) && (tldb T a && tldb T b)), M) := by
  unfold p_M_areTwo
  rw [e_M_isPerson hT hT']
  simp only [Option.bind_some]
  cases ha : tldb T a
  · simp [b01]
  · simp only [b01, if_true]
    rw [if_neg (by omega), e_M_isPerson hT hT']
    simp only [Option.bind_some]
    cases hb : tldb T b
    · simp [b01]
    · by_cases h : a = b <;> simp [h, b01]
abbrev Same (f : Nat) (c : Int) (x y : Option (Int × oM)) : Prop := okp x (fun q => okp y (fun q' => q.1 = q'.1 ∧ ∃ T', Rel T' (c + 1) q.2 q'.2))
theorem same_some {f : Nat} {T : Nat} {c r : Int} {Mc Mr : oM} {x y : Option (Int × oM)} (h : Rel T c Mc Mr) (e : x = some (r, Mc)) (e' : y = some (r, Mr)) : Same f c x y := by
  subst e; subst e'
  exact ⟨rfl, T, Rel_mono h (by omega)⟩
theorem same_upd {f : Nat} {c r : Int} {Mc Mr : oM} {x y : Option (Int × oM)} (e : x = some (r, Mc)) (e' : y = some (r, Mr)) (h : ∃ T', Rel T' (c + 1) Mc Mr) : Same f c x y := by
  subst e; subst e'
  exact ⟨rfl, h⟩
theorem call_owes {f T : Nat} {c a b : Int} {Mc Mr : oM} (h : Rel T c Mc Mr) : Same f c (p_O_owes f a b Mc) (p_M_owes f a b Mr) := by
  obtain ⟨hp, hd, ho, -⟩ := id h
  unfold p_O_owes p_M_owes
  rw [e_P_hasBoth hp.2.1 hp.1, e_M_areTwo hp.2.2.1 hp.1]
  cases hb : (!decide (a = b) && (tldb T a && tldb T b))
  · refine same_some (r := -1) h ?_ ?_
    · simp (disch := omega) only [bnd_eq, nz_eq, lt_eq, if_pos, if_neg, w32_of, if_true, if_false, not_true_eq_false, not_false_eq_true, Option.bind_some, oU_at, oU_o, oU_i, b01_t, b01_f]
    · simp (disch := omega) only [bnd_eq, nz_eq, lt_eq, if_pos, if_neg, w32_of, if_true, if_false, not_true_eq_false, not_false_eq_true, Option.bind_some, oU_at, oU_o, oU_i, b01_t, b01_f]
  · simp only [Bool.and_eq_true] at hb
    have ha := tldb_rng hb.2.1
    have hb' := tldb_rng hb.2.2
    refine same_some (r := Mr 58 (10 * a + b)) h ?_ ?_
    · simp (disch := omega) only [bnd_eq, nz_eq, lt_eq, if_pos, if_neg, w32_of, if_true, if_false, not_true_eq_false, not_false_eq_true, Option.bind_some, oU_at, oU_o, oU_i, b01_t, b01_f, e_D_debtOf ha hb', hd.1]
    · simp (disch := omega) only [bnd_eq, nz_eq, lt_eq, if_pos, if_neg, w32_of, if_true, if_false, not_true_eq_false, not_false_eq_true, Option.bind_some, oU_at, oU_o, oU_i, b01_t, b01_f, e_M_debtOf ha hb']
/-! the row with one place set -/
def sD (D : Int → Int) (k v : Int) : Int → Int := fun i => if i = k then v else D i
theorem oU_sD {M : oM} {o : Nat} {k v : Int} : oU M o k v o = sD (M o) k v := by
  funext i
  unfold oU sD
  by_cases h : i = k
  · rw [if_pos ⟨rfl, h⟩, if_pos h]
  · rw [if_neg (fun z => h z.2), if_neg h]
theorem oU_row {M : oM} {o o' : Nat} {k v : Int} (h : o' ≠ o) : oU M o k v o' = M o' := by
  funext i; exact oU_o h
theorem sD_at {D : Int → Int} {k v : Int} : sD D k v k = v := if_pos rfl
theorem sD_ne {D : Int → Int} {k v i : Int} (h : i ≠ k) : sD D k v i = D i := if_neg h
theorem rOk_debt {T : Nat} {h : Int} {D : Int → Int} {a b n : Int} (hd : rOk T h D) (ha : 0 ≤ a ∧ a < 10) (hb : 0 ≤ b ∧ b < 10) (hn : 0 ≤ n ∧ n ≤ 99) (ht : 0 < n → tld T a ∧ tld T b ∧ a ≠ b) : rOk T h (sD D (10 * a + b) n) := by
  obtain ⟨h1, h2, h3, h4, h5, h6, h7, h8, h9, h10, h11, h12, h13⟩ := hd
  unfold rOk
  simp (disch := omega) only [sD_ne]
  refine ⟨fun i i0 i1 => ?_, fun a' b' a0 a1 b0 b1 q => ?_, fun i i0 i1 => ?_, h4, fun i i0 i1 => ?_, h6, h7, h8, h9, h10, h11, h12, h13⟩
  · by_cases hi : i = 10 * a + b
    · subst hi; rw [sD_at]; exact hn
    · rw [sD_ne hi]; exact h1 i i0 i1
  · by_cases hi : 10 * a' + b' = 10 * a + b
    · have e1 : a' = a := by omega
      have e2 : b' = b := by omega
      subst e1; subst e2
      rw [sD_at] at q; exact ht q
    · rw [sD_ne hi] at q; exact h2 a' b' a0 a1 b0 b1 q
  · rw [sD_ne (by omega)]; exact h3 i i0 i1
  · rw [sD_ne (by omega)]; exact h5 i i0 i1
theorem dC_debt {M : oM} {o : Nat} {T : Nat} {h : Int} {D : Int → Int} {k n : Int} (hc : dC M o D) (hd : rOk T h D) (hk : 0 ≤ k ∧ k < 100) : dC (oU M (o + 1) k n) o (sD D k n) := by
  obtain ⟨h1, h2, h3, h4⟩ := hc
  have hb := hd.2.2.2.1
  unfold dC
  simp (disch := omega) only [sD_ne, oU_o]
  refine ⟨fun i i0 i1 => ?_, fun i i0 i1 => ?_, fun i i0 i1 => ?_, h4⟩
  · by_cases hi : i = k
    · subst hi; rw [sD_at, oU_at]
    · rw [sD_ne hi, oU_i hi]; exact h1 i i0 i1
  · rw [sD_ne (by omega)]; exact h2 i i0 i1
  · rw [sD_ne (by omega)]; exact h3 i i0 i1
def relKd (w1 w2 : List (Nat × Int)) : Bool :=
  (outw w1 3 2 && (outa w1 4 && (outa w1 5 && (outw w2 57 5 && (outa w2 61 && outa w2 62))))) &&
  ((outw w1 0 13 && (outa w1 10 && (outa w1 11 && (outa w1 12 && (outa w1 13 && (outw w2 57 61 && outa w2 60)))))) &&
  ((outw w1 1 1 && (outa w1 2 && (outw w2 57 7 && outa w2 63))) &&
  ((outw w1 18 10 && (outa w1 19 && (outa w1 20 && (outa w1 21 && (outa w1 22 && (outa w1 23 && (outa w1 24 && (outw w2 57 16 && (outa w2 70 && (outa w2 71 && (outa w2 72 && (outa w2 73 && outa w2 74)))))))))))) && outw w1 56 0)))
theorem Rel_duchy {T : Nat} {c : Int} {Mc Mr Mc' Mr' : oM} {w1 w2 : List (Nat × Int)} (h : Rel T c Mc Mr) (e1 : eqo w1 Mc Mc') (e2 : eqo w2 Mr Mr') (k : relKd w1 w2 = true) (hd : dC Mc' 6 (Mr' 58)) (ho : rOk T (240 * (c + 1)) (Mr' 58)) : Rel T (c + 1) Mc' Mr' := by
  unfold relKd at k
  obtain ⟨k1, k⟩ := (Bool.and_eq_true _ _).mp k
  obtain ⟨k3, k⟩ := (Bool.and_eq_true _ _).mp k
  obtain ⟨k4, k⟩ := (Bool.and_eq_true _ _).mp k
  obtain ⟨k5, k6⟩ := (Bool.and_eq_true _ _).mp k
  obtain ⟨h1, h2, h3, h4, h5, h6, h7⟩ := h
  exact ⟨pplR_eqo h1 e1 e2 k1, hd, ho, keptR_mono (keptR_eqo h4 e1 e2 k3) (by omega), tapR_eqo h5 e1 e2 k4, lawR_eqo h6 e1 e2 k5, by rw [e1 56 0 k6]; exact h7⟩
theorem call_debt {f T : Nat} {c a b n : Int} {Mc Mr : oM} (h : Rel T c Mc Mr) : Same f c (p_O_debt f a b n Mc) (p_M_debt f a b n Mr) := by
  obtain ⟨hp, hd, ho, -⟩ := id h
  cases hb : (!decide (a = b) && (tldb T a && tldb T b))
  · refine same_some (r := 0) h ?_ ?_
    · unfold p_O_debt
      rw [e_P_hasBoth hp.2.1 hp.1, hb]
      simp (disch := omega) only [bnd_eq, nz_eq, lt_eq, if_pos, if_neg, w32_of, if_true, if_false, not_true_eq_false, not_false_eq_true, Option.bind_some, oU_at, oU_o, oU_i, b01_t, b01_f]
    · unfold p_M_debt
      rw [e_M_areTwo hp.2.2.1 hp.1, hb]
      simp (disch := omega) only [bnd_eq, nz_eq, lt_eq, if_pos, if_neg, w32_of, if_true, if_false, not_true_eq_false, not_false_eq_true, Option.bind_some, oU_at, oU_o, oU_i, b01_t, b01_f]
  · have hb1 := hb
    simp only [Bool.and_eq_true] at hb1
    have ha := tldb_rng hb1.2.1
    have hb' := tldb_rng hb1.2.2
    have hab : a ≠ b := by simpa using hb1.1
    by_cases hn : 0 ≤ n ∧ n ≤ 99
    · have e1 : p_O_debt f a b n Mc = some (1, oU Mc (6 + 1) (10 * a + b) n) := by
        unfold p_O_debt
        rw [e_P_hasBoth hp.2.1 hp.1, hb]
        simp (disch := omega) only [bnd_eq, nz_eq, lt_eq, if_pos, if_neg, w32_of, if_true, if_false, not_true_eq_false, not_false_eq_true, Option.bind_some, oU_at, oU_o, oU_i, b01_t, b01_f]
        rw [Int.mul_comm a 10]
      have e2 : p_M_debt f a b n Mr = some (1, oU Mr 58 (10 * a + b) n) := by
        unfold p_M_debt
        rw [e_M_areTwo hp.2.2.1 hp.1, hb]
        simp only [Option.bind_some, e_M_in]
        simp (disch := omega) only [bnd_eq, nz_eq, lt_eq, if_pos, if_neg, w32_of, if_true, if_false, not_true_eq_false, not_false_eq_true, Option.bind_some, oU_at, oU_o, oU_i, b01_t, b01_f, decide_eq_true hn.1, decide_eq_true hn.2, Bool.and_self, Int.zero_add]
      refine same_upd e1 e2 ⟨T, ?_⟩
      refine Rel_duchy h (fr_O_debt (eqo_rfl _ _) _ e1) (fr_M_debt (eqo_rfl _ _) _ e2) rfl ?_ ?_
      · rw [oU_sD]; exact dC_debt hd ho (by omega)
      · rw [oU_sD]; exact rOk_mono (rOk_debt ho ha hb' hn (fun _ => ⟨hb1.2.1, hb1.2.2, hab⟩)) (by omega)
    · refine same_some (r := 0) h ?_ ?_
      · unfold p_O_debt
        rw [e_P_hasBoth hp.2.1 hp.1, hb]
        by_cases q : n < 0
        · simp (disch := omega) only [bnd_eq, nz_eq, lt_eq, if_pos, if_neg, w32_of, if_true, if_false, not_true_eq_false, not_false_eq_true, Option.bind_some, oU_at, oU_o, oU_i, b01_t, b01_f]
        · simp (disch := omega) only [bnd_eq, nz_eq, lt_eq, if_pos, if_neg, w32_of, if_true, if_false, not_true_eq_false, not_false_eq_true, Option.bind_some, oU_at, oU_o, oU_i, b01_t, b01_f]
      · unfold p_M_debt
        rw [e_M_areTwo hp.2.2.1 hp.1, hb]
        simp only [Option.bind_some, e_M_in]
        have : (decide (0 ≤ n) && decide (n ≤ 99)) = false := by
          by_cases q : 0 ≤ n
          · have : ¬ n ≤ 99 := by omega
            simp [this]
          · simp [q]
        simp (disch := omega) only [bnd_eq, nz_eq, lt_eq, if_pos, if_neg, w32_of, if_true, if_false, not_true_eq_false, not_false_eq_true, Option.bind_some, oU_at, oU_o, oU_i, b01_t, b01_f, this]
