/-! when, wedding, dry -/
/-- the class's loop may end before the reference's -/
theorem iter2x_ok {S S' R R' : Type} {step : S → Option (S ⊕ R)} {step' : S' → Option (S' ⊕ R')} {Q : R → R' → Prop} (I : Nat → S → S' → Prop) (K : Nat)
    (h : ∀ n s s', I n s s' → okp (step s) (psum (fun a => okp (step' s') (fun y' => ∃ b, y' = .inl b ∧ ∃ m, m < n ∧ I m a b)) (fun r => ∀ f', K < f' → okp (iter step' f' s') (fun r' => Q r r')))) :
    ∀ (n f f' : Nat) {s : S} {s' : S'}, n < f → n + K < f' → I n s s' → okp (iter step f s) (fun r => okp (iter step' f' s') (fun r' => Q r r')) := by
  intro n
  induction n using Nat.strongRecOn with
  | ind n ih =>
    intro f f' s s' hf hf' hI
    match f, hf with
    | f + 1, hf =>
      change okp ((step s).bind (fun y => match y with | .inl s' => iter step f s' | .inr r => some r)) (fun r => okp (iter step' f' s') (fun r' => Q r r'))
      refine okp_bind' (okp_mono (h n s s' hI) ?_)
      intro y hy
      cases y with
      | inl a =>
        obtain ⟨y', e', b, hb, m, hm, hI'⟩ := okp_ex (show okp (step' s') (fun y' => ∃ b, y' = .inl b ∧ ∃ m, m < n ∧ I m a b) from hy)
        subst hb
        match f', hf' with
        | f' + 1, hf' =>
          have h2 := ih m hm f f' (by omega) (by omega) hI'
          refine okp_mono h2 ?_
          intro r hr
          rw [iter_inl e']
          exact hr
      | inr r => exact hy f' (by omega)
theorem call_when {f T : Nat} {c p n : Int} {Mc Mr : oM} (hf : 2000 < f) (hc0 : c ≤ 512) (h : Rel T c Mc Mr) : Same f c (p_O_when f p n Mc) (p_M_when f p n Mr) := by
  obtain ⟨hp, hd, ho, -⟩ := id h
  cases hb : tldb T p
  · refine same_some (r := -1) h ?_ ?_
    · unfold p_O_when
      rw [e_P_has hp.2.1 hp.1, hb]
      simp (disch := omega) only [bnd_eq, nz_eq, lt_eq, if_pos, if_neg, w32_of, if_true, if_false, not_true_eq_false, not_false_eq_true, Option.bind_some, oU_at, oU_o, oU_i, b01_t, b01_f]
    · unfold p_M_when
      rw [e_M_isPerson hp.2.2.1 hp.1, hb]
      simp (disch := omega) only [bnd_eq, nz_eq, lt_eq, if_pos, if_neg, w32_of, if_true, if_false, not_true_eq_false, not_false_eq_true, Option.bind_some, oU_at, oU_o, oU_i, b01_t, b01_f]
  have hpr := tldb_rng hb
  by_cases hn : 1 ≤ n ∧ n ≤ 240
  · have c4 := hd.2.2.2.2.1
    have hol := rOk_holder ho
    by_cases hq : Mr 58 151 = p
    · refine same_some (r := 0) h ?_ ?_
      · unfold p_O_when
        rw [e_P_has hp.2.1 hp.1, hb]
        simp only [Option.bind_some]
        rw [b01_t, if_neg (by omega), e_O_areHours, in_t hn]
        simp only [Option.bind_some]
        rw [b01_t, if_neg (by omega), c4, if_pos (by rw [hq]; unfold p21; rw [if_neg (by omega)])]
      · unfold p_M_when
        rw [e_M_isPerson hp.2.2.1 hp.1, hb]
        simp only [Option.bind_some]
        rw [b01_t, if_neg (by omega), e_M_in, in_t hn]
        simp only [Option.bind_some]
        rw [b01_t, if_neg (by omega), bnd_eq (by omega) (by omega), if_pos hq]
    · obtain ⟨a, b, ea, eb, g1, g2, f1, f2⟩ := try_start (f := f) (by omega) h
      have hb0 := rOk_hour g1.2.2.2
      have e1 : p_O_when f p n Mc = iter (p_O_when_L46 f p n) f (1, a.2) := by
        unfold p_O_when
        rw [e_P_has hp.2.1 hp.1, hb]
        simp only [Option.bind_some]
        rw [b01_t, if_neg (by omega), e_O_areHours, in_t hn]
        simp only [Option.bind_some]
        rw [b01_t, if_neg (by omega), c4, if_neg (by unfold p21; split <;> omega), ea]
        simp only [Option.bind_some]
      have e2 : p_M_when f p n Mr = iter (p_M_when_L56 f p n) f (-2, 1, oU (oU (oU b.2 57 32 0) 57 33 0) 57 34 0) := by
        unfold p_M_when
        rw [e_M_isPerson hp.2.2.1 hp.1, hb]
        simp only [Option.bind_some]
        rw [b01_t, if_neg (by omega), e_M_in, in_t hn]
        simp only [Option.bind_some]
        rw [b01_t, if_neg (by omega), bnd_eq (by omega) (by omega), if_neg hq, eb]
        simp only [Option.bind_some, p_M_begins, lt_eq]
      have hR1 : tkR T (240 * c) 14 a.2 (oU (oU (oU b.2 57 32 0) 57 33 0) 57 34 0) := by
        refine ⟨pplR_eqo g1.1 (eqo_rfl [] _) (eqo_oU (ws := [(57, 32), (57, 33), (57, 34)]) (.tail _ (.tail _ (.head _))) (eqo_oU (.tail _ (.head _)) (eqo_oU (.head _) (eqo_rfl _ _)))) rfl, lawR_eqo g1.2.1 (eqo_rfl [] _) (eqo_oU (ws := [(57, 32), (57, 33), (57, 34)]) (.tail _ (.tail _ (.head _))) (eqo_oU (.tail _ (.head _)) (eqo_oU (.head _) (eqo_rfl _ _)))) rfl, ?_⟩
        unfold dR
        rw [oU_row (o' := 58) (by omega), oU_row (o' := 58) (by omega), oU_row (o' := 58) (by omega)]
        exact g1.2.2
      have key : okp (iter (p_O_when_L46 f p n) f (1, a.2)) (fun q => okp (iter (p_M_when_L56 f p n) f (-2, 1, oU (oU (oU b.2 57 32 0) 57 33 0) 57 34 0)) (fun q' => q.1 = q'.1 ∧ ∀ i : Int, 0 ≤ i → i < 159 → q'.2 58 i = Mr 58 i)) := by
        refine iter2x_ok (fun k s s' => (k : Int) = n + 1 - s.1 ∧ 1 ≤ s.1 ∧ s'.1 = -2 ∧ s'.2.1 = s.1 ∧ tkR T (240 * c + (s.1 - 1)) 14 s.2 s'.2.2 ∧ ∀ i, s'.2.2 59 i = b.2 59 i) 2 ?_ n.toNat f f (by omega) (by omega) ⟨by show (n.toNat : Int) = n + 1 - 1; omega, by show (1 : Int) ≤ 1; omega, rfl, rfl, by rw [show 240 * c + ((1 : Int) - 1) = 240 * c from by omega]; exact hR1, fun i => by simp (disch := omega) only [oU_o]⟩
        intro k ⟨x, N⟩ ⟨t, x', M⟩ hI
        obtain ⟨i1, i2, i3, i4, i5, i6⟩ := hI
        simp only at i1 i2 i3 i4 i5 i6
        subst i3; subst i4
        have hb2 := rOk_hour i5.2.2.2
        have h59 : ∀ M2 : oM, (∀ i, M2 59 i = b.2 59 i) → ∀ i : Int, 0 ≤ i → i < 159 → M2 59 i = Mr 58 i := fun M2 hM i i0 i1 => by rw [hM i]; exact g2 i i0 i1
        unfold p_O_when_L46
        simp only []
        by_cases hend : n < x'
        · rw [if_pos hend]
          intro f' hf'
          obtain ⟨z, ez, hz, -⟩ := try_end (f := f) (M := Mr) (N := M) (by omega) (h59 M i6)
          rw [show f' = f' - 1 + 1 from by omega, iter_inr (r := (-2, z.2))]
          · exact ⟨rfl, hz⟩
          · unfold p_M_when_L56 p_M_when_B103_56
            simp only []
            rw [if_pos hend, ez]
            rfl
        · rw [if_neg hend]
          obtain ⟨a2, ea2, ha2⟩ := okp_ex (tick_hour (f := f) (P := False) hf (by omega) (.inr rfl) i5 (fun z => z.elim))
          obtain ⟨b2, eb2, g3, -, g4, -⟩ := okp_ex ha2
          have x59 := fr_M_hourGoes (eqo_rfl _ _) _ eb2
          have h59b : ∀ i, b2.2 59 i = b.2 59 i := fun i => (x59 59 i rfl).trans (i6 i)
          rw [ea2]
          simp only [Option.bind_some]
          have harr : a2.2 41 5 = p ↔ b2.2 57 35 = p := by
            rw [g4.1]; unfold p21
            by_cases z : b2.2 57 35 = -2
            · rw [if_pos z]; omega
            · rw [if_neg z]
          by_cases hq2 : b2.2 57 35 = p
          · rw [if_pos (harr.2 hq2)]
            intro f' hf'
            obtain ⟨z, ez, hz, -⟩ := try_end (f := f) (M := Mr) (N := b2.2) (by omega) (h59 b2.2 h59b)
            have s1 : p_M_when_L56 f p n (-2, x', M) = some (.inl (x', x' + 1, b2.2)) := by
              unfold p_M_when_L56 p_M_when_B97_56
              simp only []
              rw [if_neg hend, bnd_eq (by omega) (by omega), if_pos (by omega), if_pos trivial, eb2]
              simp only [Option.bind_some]
              rw [if_pos hq2, lt_eq, w32_of (by omega) (by omega)]
            have s2 : p_M_when_L56 f p n (x', x' + 1, b2.2) = some (.inr (x', z.2)) := by
              have hb3 := rOk_hour g3.2.2.2
              unfold p_M_when_L56 p_M_when_B103_56
              simp only []
              rw [ez]
              simp only [Option.bind_some]
              rw [bnd_eq (by omega) (by omega), if_neg (c := x' = -2) (by omega), ite_self, ite_self]
            rw [show f' = f' - 2 + 1 + 1 from by omega, iter_inl s1, iter_inr s2]
            exact ⟨rfl, hz⟩
          · rw [if_neg (fun z => hq2 (harr.1 z)), lt_eq, w32_of (by omega) (by omega)]
            have s3 : p_M_when_L56 f p n (-2, x', M) = some (.inl (-2, x' + 1, b2.2)) := by
              unfold p_M_when_L56 p_M_when_B97_56
              simp only []
              rw [if_neg hend, bnd_eq (by omega) (by omega), if_pos (by omega), if_pos trivial, eb2]
              simp only [Option.bind_some]
              rw [if_neg hq2, lt_eq, w32_of (by omega) (by omega)]
            refine okp_eq s3 ?_
            exact ⟨_, rfl, k - 1, by omega, by show ((k - 1 : Nat) : Int) = n + 1 - (x' + 1); omega, by show 1 ≤ x' + 1; omega, rfl, rfl, by rw [show 240 * c + ((x' + 1) - 1) = 240 * c + (x' - 1) + 1 from by omega]; exact g3, h59b⟩
      obtain ⟨q, eq, hq3⟩ := okp_ex key
      obtain ⟨q', eq', k1, k2⟩ := okp_ex hq3
      have e1' : p_O_when f p n Mc = some (q.1, q.2) := e1.trans eq
      have e2' : p_M_when f p n Mr = some (q.1, q'.2) := by rw [k1]; exact e2.trans eq'
      have x1 := fr_O_when (eqo_rfl _ _) _ e1'
      have x2 := fr_M_when (eqo_rfl _ _) _ e2'
      exact same_upd e1' e2' ⟨T, Rel_try h x1 x2 rfl k2⟩
  · refine same_some (r := -1) h ?_ ?_
    · unfold p_O_when
      rw [e_P_has hp.2.1 hp.1, hb]
      simp only [Option.bind_some]
      rw [b01_t, if_neg (by omega), e_O_areHours, in_f hn]
      simp (disch := omega) only [bnd_eq, nz_eq, lt_eq, if_pos, if_neg, w32_of, if_true, if_false, not_true_eq_false, not_false_eq_true, Option.bind_some, oU_at, oU_o, oU_i, b01_t, b01_f]
    · unfold p_M_when
      rw [e_M_isPerson hp.2.2.1 hp.1, hb]
      simp only [Option.bind_some]
      rw [b01_t, if_neg (by omega), e_M_in, in_f hn]
      simp (disch := omega) only [bnd_eq, nz_eq, lt_eq, if_pos, if_neg, w32_of, if_true, if_false, not_true_eq_false, not_false_eq_true, Option.bind_some, oU_at, oU_o, oU_i, b01_t, b01_f]
