/-! a day begins, on both sides -/
abbrev tkR (T : Nat) (h : Int) (o : Nat) (Mc Mr : oM) : Prop := pplR T Mc Mr ∧ lawR Mc Mr ∧ dR T h o Mc Mr
def cnt (P : Prop) (Mc Mr : oM) : Prop := P → Mc 41 2 = Mr 57 32 ∧ Mc 41 3 = Mr 57 33 ∧ Mc 41 4 = Mr 57 34 ∧ inR (Mr 57 33)
theorem w32_w32_add (a b : Int) : w32 (w32 a + b) = w32 (a + b) := by unfold w32; omega
theorem w32_add_w32 (a b : Int) : w32 (a + w32 b) = w32 (a + b) := by unfold w32; omega
theorem w32_w32_sub (a b : Int) : w32 (w32 a - b) = w32 (a - b) := by unfold w32; omega
/-- a part of a loop -/
def stN {S R : Type} (step : S → Option (S ⊕ R)) : Nat → S → Option S
  | 0, s => some s
  | n + 1, s => (stN step n s).bind fun s' => (step s').bind fun y => match y with
    | .inl s'' => some s''
    | .inr _ => none
theorem stN_succ {S R : Type} {step : S → Option (S ⊕ R)} {n : Nat} {s s' s'' : S} (h : stN step n s = some s') (h' : step s' = some (.inl s'')) : stN step (n + 1) s = some s'' := by
  show (stN step n s).bind _ = _
  rw [h]
  show (step s').bind _ = _
  rw [h']; rfl
theorem iter_inl {S R : Type} {step : S → Option (S ⊕ R)} {f : Nat} {s s' : S} (h : step s = some (.inl s')) : iter step (f + 1) s = iter step f s' := by
  show (step s).bind _ = _
  rw [h]; rfl
theorem iter_inr {S R : Type} {step : S → Option (S ⊕ R)} {f : Nat} {s : S} {r : R} (h : step s = some (.inr r)) : iter step (f + 1) s = some r := by
  show (step s).bind _ = _
  rw [h]; rfl
theorem stN_iter {S R : Type} {step : S → Option (S ⊕ R)} : ∀ {n : Nat} {s s' : S} {f : Nat}, stN step n s = some s' → iter step (f + n) s = iter step f s' := by
  intro n
  induction n with
  | zero => intro s s' f h; rw [show s = s' from Option.some.inj h]; rfl
  | succ n ih =>
    intro s s' f h
    change (stN step n s).bind _ = _ at h
    cases h1 : stN step n s with
    | none => rw [h1] at h; cases h
    | some s1 =>
      rw [h1] at h
      change (step s1).bind _ = _ at h
      cases h2 : step s1 with
      | none => rw [h2] at h; cases h
      | some y =>
        rw [h2] at h
        cases y with
        | inl s2 =>
          have h3 : s2 = s' := Option.some.inj h
          rw [show f + (n + 1) = f + 1 + n from by omega, ih h1, iter_inl h2, h3]
        | inr r => cases h
theorem tdiv10 {a b : Int} (ha : 0 ≤ a ∧ a < 10) (hb : 0 ≤ b ∧ b < 10) : w32 (Int.tdiv (10 * a + b) 10) = a ∧ Int.tmod (10 * a + b) 10 = b := by
  have h1 : Int.tdiv (10 * a + b) 10 = a := by
    rw [Int.tdiv_eq_ediv_of_nonneg (by omega)]; omega
  have h2 : Int.tmod (10 * a + b) 10 = b := by
    rw [Int.tmod_eq_emod_of_nonneg (by omega)]; omega
  rw [h1, h2, w32_of (by omega) (by omega)]
  exact ⟨rfl, rfl⟩
theorem eqo2 {ws : List (Nat × Int)} {A B C : oM} (h1 : eqo ws A B) (h2 : eqo ws B C) : eqo ws A C := eqo_self h1 h2
theorem outa_cons {a b : Nat} {x : Int} {ws : List (Nat × Int)} (h : a ≠ b) : outa ((a, x) :: ws) b = outa ws b := by
  unfold outa
  rw [List.all_cons]
  cases hb : Nat.beq a b with
  | false => simp
  | true => exact absurd (Nat.eq_of_beq_eq_true hb) h
theorem outw_cons {a b : Nat} {x i : Int} {ws : List (Nat × Int)} (h : a ≠ b) : outw ((a, x) :: ws) b i = outw ws b i := by
  unfold outw
  rw [List.all_cons]
  cases hb : Nat.beq a b with
  | false => simp
  | true => exact absurd (Nat.eq_of_beq_eq_true hb) h
theorem outa_nil {b : Nat} : outa [] b = true := rfl
theorem outw_nil {b : Nat} {i : Int} : outw [] b i = true := rfl
theorem grow_o {o : Nat} (h : o < 25) : outa [(25, (-1)), (26, (-1))] o = true := by
  rw [outa_cons (by omega), outa_cons (by omega)]; rfl
theorem grow_k1 {o : Nat} (h : o ≤ 14 ∧ 6 ≤ o) : (outw [(25, (-1)), (26, (-1)), (41, (-1)), (o + 1, (-1))] 3 2 && (outa [(25, (-1)), (26, (-1)), (41, (-1)), (o + 1, (-1))] 4 && (outa [(25, (-1)), (26, (-1)), (41, (-1)), (o + 1, (-1))] 5 && (outw [(57, 34), (58, (-1)), (75, (-1)), (76, (-1))] 57 5 && (outa [(57, 34), (58, (-1)), (75, (-1)), (76, (-1))] 61 && outa [(57, 34), (58, (-1)), (75, (-1)), (76, (-1))] 62))))) = true := by
  simp (disch := omega) only [outa_cons, outw_cons, outa_nil, outw_nil, Bool.true_and]
  rfl
theorem grow_k2 {o : Nat} (h : o ≤ 14 ∧ 6 ≤ o) : (outw [(25, (-1)), (26, (-1)), (41, (-1)), (o + 1, (-1))] 18 10 && (outa [(25, (-1)), (26, (-1)), (41, (-1)), (o + 1, (-1))] 19 && (outa [(25, (-1)), (26, (-1)), (41, (-1)), (o + 1, (-1))] 20 && (outa [(25, (-1)), (26, (-1)), (41, (-1)), (o + 1, (-1))] 21 && (outa [(25, (-1)), (26, (-1)), (41, (-1)), (o + 1, (-1))] 22 && (outa [(25, (-1)), (26, (-1)), (41, (-1)), (o + 1, (-1))] 23 && (outa [(25, (-1)), (26, (-1)), (41, (-1)), (o + 1, (-1))] 24 && (outw [(57, 34), (58, (-1)), (75, (-1)), (76, (-1))] 57 16 && (outa [(57, 34), (58, (-1)), (75, (-1)), (76, (-1))] 70 && (outa [(57, 34), (58, (-1)), (75, (-1)), (76, (-1))] 71 && (outa [(57, 34), (58, (-1)), (75, (-1)), (76, (-1))] 72 && (outa [(57, 34), (58, (-1)), (75, (-1)), (76, (-1))] 73 && outa [(57, 34), (58, (-1)), (75, (-1)), (76, (-1))] 74)))))))))))) = true := by
  simp (disch := omega) only [outa_cons, outw_cons, outa_nil, outw_nil, Bool.true_and]
  rfl
/-- one DEBT grows -/
theorem grow_one {f o T : Nat} {h a b : Int} {P : Prop} {M M' : oM} (hf : 1000 < f) (ho : o ≤ 14 ∧ 6 ≤ o) (hR : tkR T h o M M') (hc : cnt P M M') (ha : 0 ≤ a ∧ a < 10) (hb : 0 ≤ b ∧ b < 10) :
    ∃ N N', p_C_beginDay_L46 f o (10 * a + b, M) = some (.inl (10 * a + b + 1, N)) ∧ p_M_dayBegins_L86 f a (b, M') = some (.inl (b + 1, N')) ∧ tkR T h o N N' ∧ cnt P N N' := by
  obtain ⟨hp, hl, hd⟩ := id hR
  have hk := hd.2.1 (10 * a + b) (by omega) (by omega)
  have ht := hd.2.2.1 a b ha.1 ha.2 hb.1 hb.2
  have ec := hd.1.1 (10 * a + b) (by omega) (by omega)
  unfold p_C_beginDay_L46 p_M_dayBegins_L86 p_C_beginDay_B113_46 p_M_dayBegins_B162_86
  simp only []
  rw [if_pos (by omega), bnd_eq (by omega) (by omega), lt_eq, ec, if_pos (c := b < 10) hb.2, e_M_debtOf ha hb]
  simp only [Option.bind_some]
  by_cases q : 0 < M' 58 (10 * a + b)
  · rw [if_pos q, if_neg (by omega), nz_eq (by omega), nz_eq (by omega), (tdiv10 ha hb).1, (tdiv10 ha hb).2]
    obtain ⟨g, g0, g', e1, e0, e2, h1, h2⟩ := growth_by (f := f) hf ho.1 hp hl hd ha hb
    have f1 := fr_L_growth (eqo_rfl _ _) _ e1
    have f0 := fr_M_feelsTwo (eqo_rfl _ _) _ e0
    have f2 := fr_M_byLaw (eqo_rfl _ _) _ e2
    have x0 : g0.2 58 (10 * a + b) = M' 58 (10 * a + b) := f0 58 _ rfl
    have x2 : g'.2 58 (10 * a + b) = M' 58 (10 * a + b) := (f2 58 _ rfl).trans x0
    rw [e1, e0]
    simp only [Option.bind_some]
    rw [e_M_debtOf ha hb]
    simp only [Option.bind_some]
    rw [e2]
    simp only [Option.bind_some]
    rw [e_M_min]
    simp only [Option.bind_some]
    rw [e_M_debtOf ha hb]
    simp only [Option.bind_some]
    rw [x0, x2, h1]
    have w : w32 (M' 58 (10 * a + b) + g'.1) = M' 58 (10 * a + b) + g'.1 := w32_of (by omega) (by omega)
    rw [w, lt_eq (v := M' 58 (10 * a + b) + g'.1)]
    have hm : imin 99 (M' 58 (10 * a + b) + g'.1) = if 99 < M' 58 (10 * a + b) + g'.1 then 99 else M' 58 (10 * a + b) + g'.1 := by
      unfold imin; split <;> split <;> omega
    generalize hv : (if 99 < M' 58 (10 * a + b) + g'.1 then (99 : Int) else M' 58 (10 * a + b) + g'.1) = v at *
    have hvb : 0 ≤ v ∧ v ≤ 99 := by rw [← hv]; split <;> omega
    rw [hm]
    simp (disch := omega) only [bnd_eq, lt_eq, w32_of (a := 10 * a + b + 1), w32_of (a := b + 1), w32_of (a := 10 * a), w32_of (a := 10 * a + b), oU_at, Int.zero_add]
    refine ⟨_, _, rfl, rfl, ⟨?_, ?_, ?_, ?_⟩, ?_⟩
    · exact pplR_eqo hp (eqo_oUa (ws := [(25, (-1)), (26, (-1)), (41, (-1)), (o + 1, (-1))]) (.tail _ (.tail _ (.head _))) (eqo_oUa (.tail _ (.tail _ (.tail _ (.head _)))) (eqo_tr (subw_cons (.head _) (subw_cons (.tail _ (.head _)) subw_nil)) (eqo_rfl _ _) f1))) (eqo_oUa (ws := [(57, 34), (58, (-1)), (75, (-1)), (76, (-1))]) (.tail _ (.head _)) (eqo_oU (.head _) (eqo_tr (subw_cons (.tail _ (.tail _ (.head _))) subw_nil) (eqo_tr (subw_cons (.tail _ (.tail _ (.tail _ (.head _)))) subw_nil) (eqo_rfl _ _) f0) f2))) (grow_k1 ho)
    · exact lawR_eqo hl (eqo_oUa (ws := [(25, (-1)), (26, (-1)), (41, (-1)), (o + 1, (-1))]) (.tail _ (.tail _ (.head _))) (eqo_oUa (.tail _ (.tail _ (.tail _ (.head _)))) (eqo_tr (subw_cons (.head _) (subw_cons (.tail _ (.head _)) subw_nil)) (eqo_rfl _ _) f1))) (eqo_oUa (ws := [(57, 34), (58, (-1)), (75, (-1)), (76, (-1))]) (.tail _ (.head _)) (eqo_oU (.head _) (eqo_tr (subw_cons (.tail _ (.tail _ (.head _))) subw_nil) (eqo_tr (subw_cons (.tail _ (.tail _ (.tail _ (.head _)))) subw_nil) (eqo_rfl _ _) f0) f2))) (grow_k2 ho)
    · have h58 : ∀ i, oU g'.2 57 34 (w32 (w32 (g'.2 57 34 + v) - M' 58 (10 * a + b))) 58 i = M' 58 i := fun i => by
        rw [oU_o (by omega)]; exact (f2 58 i rfl).trans (f0 58 i rfl)
      have e58 : oU g'.2 57 34 (w32 (w32 (g'.2 57 34 + v) - M' 58 (10 * a + b))) 58 = M' 58 := funext h58
      rw [oU_sD, e58]
      have hdc : dC (oU g.2 (o + 1) (10 * a + b) v) o (sD (M' 58) (10 * a + b) v) := dC_debt (dC_of hd.1 (eqo_a f1 o (by rw [grow_o (o := o) (by omega)])) (eqo_a f1 (o + 1) (by rw [grow_o (o := o + 1) (by omega)])) (eqo_a f1 (o + 2) (by rw [grow_o (o := o + 2) (by omega)])) (eqo_a f1 (o + 3) (by rw [grow_o (o := o + 3) (by omega)]))) hd.2 (by omega)
      exact dC_of hdc (oU_row (by omega)) (oU_row (by omega)) (oU_row (by omega)) (oU_row (by omega))
    · have h58 : ∀ i, oU g'.2 57 34 (w32 (w32 (g'.2 57 34 + v) - M' 58 (10 * a + b))) 58 i = M' 58 i := fun i => by
        rw [oU_o (by omega)]; exact (f2 58 i rfl).trans (f0 58 i rfl)
      have e58 : oU g'.2 57 34 (w32 (w32 (g'.2 57 34 + v) - M' 58 (10 * a + b))) 58 = M' 58 := funext h58
      rw [oU_sD, e58]
      exact rOk_debt hd.2 ha hb hvb (fun _ => ht q)
    · intro hP
      obtain ⟨c1, c2, c3, c4⟩ := hc hP
      have y1 : g.2 41 2 = M 41 2 := f1 41 2 rfl
      have y2 : g.2 41 3 = M 41 3 := f1 41 3 rfl
      have y3 : g.2 41 4 = M 41 4 := f1 41 4 rfl
      have z1 : g'.2 57 32 = M' 57 32 := (f2 57 32 rfl).trans (f0 57 32 rfl)
      have z2 : g'.2 57 33 = M' 57 33 := (f2 57 33 rfl).trans (f0 57 33 rfl)
      have z3 : g'.2 57 34 = M' 57 34 := (f2 57 34 rfl).trans (f0 57 34 rfl)
      simp (disch := omega) only [oU_o, oU_i, oU_at]
      rw [y1, y2, y3, z1, z2, z3, c1, c2, c3, w32_add_w32, w32_w32_sub]
      exact ⟨rfl, rfl, by congr 1; omega, c4⟩
  · rw [if_neg q, if_pos (by omega), lt_eq, lt_eq, w32_of (by omega) (by omega), w32_of (by omega) (by omega)]
    exact ⟨M, M', rfl, rfl, hR, hc⟩
