/-! calls of hours: hours, tried, when, wedding; dry -/
theorem Rel_of_tk {T : Nat} {c : Int} {Mc Mr Mc' Mr' : oM} {w1 w2 : List (Nat × Int)} (h : Rel T c Mc Mr) (e1 : eqo w1 Mc Mc') (e2 : eqo w2 Mr Mr') (k : relKd w1 w2 = true) {h' : Int} (hR : tkR T h' 6 Mc' Mr') (hh : h' ≤ 240 * (c + 1)) : Rel T (c + 1) Mc' Mr' :=
  Rel_duchy h e1 e2 k hR.2.2.1 (rOk_mono hR.2.2.2 hh)
/-- n hours on both sides -/
theorem pass_hours {f o T : Nat} {h n : Int} {Mc Mr : oM} (hf : 2000 < f) (hh0 : h + n ≤ 200000) (hn : 1 ≤ n ∧ n ≤ 240) (ho : o = 6 ∨ o = 14) (hR : tkR T h o Mc Mr) :
    okp (p_C_pass f o n Mc) (fun q => okp (p_M_hoursGo f n Mr) (fun q' => tkR T (h + n) o q.2 q'.2 ∧ cnt True q.2 q'.2)) := by
  have ho' : o ≤ 14 ∧ 6 ≤ o := by omega
  obtain ⟨hp, hl, hd⟩ := id hR
  have hb := rOk_hour hd.2
  unfold p_C_pass p_M_hoursGo p_M_begins
  rw [lt_eq, lt_eq, lt_eq, lt_eq, lt_eq, lt_eq]
  simp only [Option.bind_some]
  have hR1 : tkR T h o (oU (oU (oU Mc 41 2 0) 41 3 0) 41 4 0) (oU (oU (oU Mr 57 32 0) 57 33 0) 57 34 0) := by
    refine tk_field (w := [(57, 32), (57, 33), (57, 34)]) hp hl ho' (eqo_oUa (.tail _ (.tail _ (.tail _ (.tail _ mem_wK41)))) (eqo_oUa (.tail _ (.tail _ (.tail _ (.tail _ mem_wK41)))) (eqo_oUa (.tail _ (.tail _ (.tail _ (.tail _ mem_wK41)))) (eqo_rfl _ _)))) (eqo_oU (.tail _ (.tail _ (.head _))) (eqo_oU (.tail _ (.head _)) (eqo_oU (.head _) (eqo_rfl _ _)))) rfl ⟨?_, ?_⟩
    · rw [oU_row (o' := 58) (by omega), oU_row (o' := 58) (by omega), oU_row (o' := 58) (by omega)]
      exact dC_of hd.1 (by rw [oU_row (by omega), oU_row (by omega), oU_row (by omega)]) (by rw [oU_row (by omega), oU_row (by omega), oU_row (by omega)]) (by rw [oU_row (by omega), oU_row (by omega), oU_row (by omega)]) (by rw [oU_row (by omega), oU_row (by omega), oU_row (by omega)])
    · rw [oU_row (o' := 58) (by omega), oU_row (o' := 58) (by omega), oU_row (o' := 58) (by omega)]
      exact hd.2
  have hc1 : cnt True (oU (oU (oU Mc 41 2 0) 41 3 0) 41 4 0) (oU (oU (oU Mr 57 32 0) 57 33 0) 57 34 0) := by
    intro _
    simp (disch := omega) only [oU_i, oU_at]
    exact ⟨trivial, trivial, trivial, inR_0⟩
  refine for2_ok n.toNat (fun k s s' => s.1 = (k : Int) ∧ s'.1 = (k : Int) ∧ tkR T (h + k) o s.2 s'.2 ∧ cnt True s.2 s'.2) ?_ ?_ f f (by omega) (by omega) ⟨rfl, rfl, by rw [show h + ((0 : Nat) : Int) = h from by omega]; exact hR1, hc1⟩
  · intro k ⟨x, N⟩ ⟨x', M⟩ hk hI
    obtain ⟨i1, i2, i3, i4⟩ := hI
    simp only at i1 i2 i3 i4
    subst i1; subst i2
    have hb2 := rOk_hour i3.2.2.2
    unfold p_C_pass_L17 p_M_hoursGo_L6
    simp only []
    rw [if_pos (by omega), if_pos (c := (k : Int) < n) (by omega), bnd_eq (by omega) (by omega), if_pos (by omega)]
    refine okp_bind' (okp_mono (tick_hour (f := f) hf (by omega) ho i3 i4) ?_)
    intro a ha
    rw [lt_eq, w32_of (by omega) (by omega)]
    obtain ⟨b, eb, g1, g2, g3, -⟩ := okp_ex ha
    rw [eb]
    simp only [Option.bind_some]
    rw [lt_eq]
    exact ⟨by show (k : Int) + 1 = ((k + 1 : Nat) : Int); omega, by show (k : Int) + 1 = ((k + 1 : Nat) : Int); omega, by rw [show h + ((k + 1 : Nat) : Int) = h + k + 1 from by omega]; exact g1, g2⟩
  · intro ⟨x, N⟩ ⟨x', M⟩ hI
    obtain ⟨i1, i2, i3, i4⟩ := hI
    simp only at i1 i2 i3 i4
    unfold p_C_pass_L17 p_M_hoursGo_L6
    simp only []
    rw [if_neg (by omega), if_neg (by omega)]
    exact ⟨by rw [show h + n = h + (n.toNat : Int) from by omega]; exact i3, i4⟩
theorem e_O_areHours {f : Nat} {n : Int} {M : oM} : p_O_areHours f n M = some (b01 (decide (1 ≤ n) && decide (n ≤ 240)), M) := by
  unfold p_O_areHours
  by_cases h0 : n < 1
  · rw [if_pos h0, in_f (fun z => by omega)]; rfl
  · rw [if_neg h0]
    by_cases h1 : 240 < n
    · rw [if_pos h1, in_f (fun z => by omega)]; rfl
    · rw [if_neg h1, in_t ⟨by omega, by omega⟩]; rfl
theorem Rel_tk {T : Nat} {c : Int} {Mc Mr : oM} (h : Rel T c Mc Mr) : tkR T (240 * c) 6 Mc Mr := ⟨h.1, h.2.2.2.2.2.1, h.2.1, h.2.2.1⟩
theorem call_hours {f T : Nat} {c n : Int} {Mc Mr : oM} (hf : 2000 < f) (hc0 : c ≤ 512) (h : Rel T c Mc Mr) : Same f c (p_O_hours f n Mc) (p_M_hours f n Mr) := by
  by_cases hn : 1 ≤ n ∧ n ≤ 240
  · obtain ⟨a, ea, ha⟩ := okp_ex (pass_hours (f := f) hf (by omega) hn (.inl rfl) (Rel_tk h))
    obtain ⟨b, eb, g1, g2⟩ := okp_ex ha
    have e1 : p_O_hours f n Mc = some (a.2 41 2, a.2) := by
      unfold p_O_hours
      rw [e_O_areHours, in_t hn]
      simp (disch := omega) only [bnd_eq, nz_eq, lt_eq, if_pos, if_neg, w32_of, if_true, if_false, not_true_eq_false, not_false_eq_true, Option.bind_some, oU_at, oU_o, oU_i, b01_t, b01_f, ea]
    have e2 : p_M_hours f n Mr = some (a.2 41 2, b.2) := by
      unfold p_M_hours
      rw [e_M_in, in_t hn]
      simp (disch := omega) only [bnd_eq, nz_eq, lt_eq, if_pos, if_neg, w32_of, if_true, if_false, not_true_eq_false, not_false_eq_true, Option.bind_some, oU_at, oU_o, oU_i, b01_t, b01_f, eb]
      rw [(g2 trivial).1]
    have f1 := fr_O_hours (eqo_rfl _ _) _ e1
    have f2 := fr_M_hours (eqo_rfl _ _) _ e2
    exact same_upd e1 e2 ⟨T, Rel_of_tk h f1 f2 rfl g1 (by omega)⟩
  · refine same_some (r := -1) h ?_ ?_
    · unfold p_O_hours
      rw [e_O_areHours, in_f hn]
      simp (disch := omega) only [bnd_eq, nz_eq, lt_eq, if_pos, if_neg, w32_of, if_true, if_false, not_true_eq_false, not_false_eq_true, Option.bind_some, oU_at, oU_o, oU_i, b01_t, b01_f]
    · unfold p_M_hours
      rw [e_M_in, in_f hn]
      simp (disch := omega) only [bnd_eq, nz_eq, lt_eq, if_pos, if_neg, w32_of, if_true, if_false, not_true_eq_false, not_false_eq_true, Option.bind_some, oU_at, oU_o, oU_i, b01_t, b01_f]
/-- the class's trial and the reference's own row after it has been set aside -/
theorem try_start {f T : Nat} {c : Int} {Mc Mr : oM} (hf : 1000 < f) (h : Rel T c Mc Mr) : ∃ q q', p_D_takeFrom f 14 6 Mc = some q ∧ p_M_copies f 58 59 Mr = some q' ∧ tkR T (240 * c) 14 q.2 q'.2 ∧ (∀ i : Int, 0 ≤ i → i < 159 → q'.2 59 i = Mr 58 i) ∧ eqo [(14, (-1)), (15, (-1)), (16, (-1)), (17, (-1))] Mc q.2 ∧ eqo [(59, (-1))] Mr q'.2 := by
  obtain ⟨hp, hl, hd⟩ := id (Rel_tk h)
  obtain ⟨a, ea, ha, -⟩ := okp_ex (e_D_takeFrom (f := f) (o0 := 14) (o1 := 6) (by omega) hd.1 hd.2)
  obtain ⟨b, eb, hb⟩ := okp_ex (e_M_copies (f := f) (a := 58) (b := 59) (M := Mr) hf (by omega))
  have f1 : eqo [(14, (-1)), (15, (-1)), (16, (-1)), (17, (-1))] Mc a.2 := eqo_tr (subw_all (.head _) (subw_all (.head _) (subw_all (.head _) (subw_all (.head _) (subw_all (.head _) (subw_all (.head _) (subw_all (.head _) (subw_all (.head _) (subw_all (.head _) (subw_cons (.tail _ (.head _)) (subw_cons (.tail _ (.tail _ (.head _))) (subw_cons (.tail _ (.tail _ (.tail _ (.head _)))) subw_nil)))))))))))) (eqo_rfl _ _) (fr_D_takeFrom (eqo_rfl _ _) _ ea)
  have f2 : eqo [(59, (-1))] Mr b.2 := fr_M_copies (eqo_rfl _ _) _ eb
  refine ⟨a, b, ea, eb, ⟨pplR_eqo hp f1 f2 rfl, lawR_eqo hl f1 f2 rfl, ?_, ?_⟩, hb, f1, f2⟩
  · rw [eqo_a f2 58 rfl]; exact ha
  · rw [eqo_a f2 58 rfl]; exact hd.2
/-- after a trial: the reference's row is as it was -/
theorem Rel_try {T : Nat} {c : Int} {Mc Mr Mc' Mr' : oM} {w1 w2 : List (Nat × Int)} (h : Rel T c Mc Mr) (e1 : eqo w1 Mc Mc') (e2 : eqo w2 Mr Mr') (k : (relK w1 w2 && outw w1 56 0) = true) (h58 : ∀ i : Int, 0 ≤ i → i < 159 → Mr' 58 i = Mr 58 i) : Rel T (c + 1) Mc' Mr' := by
  obtain ⟨k1, k2⟩ := (Bool.and_eq_true _ _).mp k
  exact Rel_eqo h e1 e2 k1 h58 (by rw [e1 56 0 k2]; exact h.2.2.2.2.2.2)
theorem try_end {f : Nat} {M N : oM} (hf : 1000 < f) (h59 : ∀ i : Int, 0 ≤ i → i < 159 → N 59 i = M 58 i) : ∃ q, p_M_copies f 59 58 N = some q ∧ (∀ i : Int, 0 ≤ i → i < 159 → q.2 58 i = M 58 i) ∧ eqo [(58, (-1))] N q.2 := by
  obtain ⟨b, eb, hb⟩ := okp_ex (e_M_copies (f := f) (a := 59) (b := 58) (M := N) hf (by omega))
  exact ⟨b, eb, fun i i0 i1 => by rw [hb i i0 i1]; exact h59 i i0 i1, fr_M_copies (eqo_rfl _ _) _ eb⟩
theorem call_tried {f T : Nat} {c n what : Int} {Mc Mr : oM} (hf : 2000 < f) (hc0 : c ≤ 512) (hwr : inR what) (h : Rel T c Mc Mr) : Same f c (p_O_tried f n what Mc) (p_M_tried f n what Mr) := by
  obtain ⟨hp, hd, ho, -⟩ := id h
  have hin : inR (w32 (what - 10)) := inR_w32 _
  by_cases hn : 1 ≤ n ∧ n ≤ 240
  · by_cases hw : (0 ≤ what ∧ what ≤ 5) ∨ ((10 ≤ what ∧ what ≤ 19) ∧ tldb T (what - 10) = true)
    · -- it is tried
      obtain ⟨a, b, ea, eb, g1, g2, f1, f2⟩ := try_start (f := f) (by omega) h
      obtain ⟨a2, ea2, ha2⟩ := okp_ex (pass_hours (f := f) hf (by omega) hn (.inr rfl) g1)
      obtain ⟨b2, eb2, g3, g4⟩ := okp_ex ha2
      have f3 := fr_C_pass (eqo_rfl _ _) _ ea2
      have f4 := fr_M_hoursGo (eqo_rfl _ _) _ eb2
      obtain ⟨b3, eb3, g5, f5⟩ := try_end (f := f) (M := Mr) (N := b2.2) (by omega) (fun i i0 i1 => (f4 59 i rfl).trans (g2 i i0 i1))
      have y8 : ∀ i, a2.2 8 i = Mc 8 i := fun i => (f3 8 i rfl).trans (f1 8 i rfl)
      have y59 : ∀ i, b2.2 59 i = b.2 59 i := fun i => f4 59 i rfl
      have hdd := dC_dOk g3.2.2.1 g3.2.2.2
      have hol := rOk_holder g3.2.2.2
      obtain ⟨c1, c2, c3, c4⟩ := g4 trivial
      have e1 : p_O_tried f n what Mc = p_O_tried_B34 f n what Mc := by
        unfold p_O_tried p_O_tried_B28
        rw [e_P_has hp.2.1 hp.1]
        simp only [Option.bind_some]
        rw [e_O_areHours, in_t hn]
        simp only [Option.bind_some]
        rw [b01_t, if_neg (by omega)]
        rcases hw with hw | ⟨hw, hw2⟩
        · rw [if_neg (by omega), if_neg (by omega)]
        · rw [w32_of (by omega) (by omega), hw2, b01_t, if_neg (by omega), if_pos (by omega), if_neg (by omega)]
      have e2 : p_M_tried f n what Mr = p_M_tried_B44 f n what Mr := by
        unfold p_M_tried
        rw [e_M_in, in_t hn]
        simp only [Option.bind_some]
        rw [b01_t, if_neg (by omega), e_M_in]
        simp only [Option.bind_some]
        rcases hw with hw | ⟨hw, hw2⟩
        · rw [in_t hw, b01_t, if_neg (by omega)]
        · rw [in_f (by omega), b01_f, if_pos rfl, e_M_in, in_t hw]
          simp only [Option.bind_some]
          rw [b01_t, if_neg (by omega), w32_of (by omega) (by omega), e_M_isPerson hp.2.2.1 hp.1, hw2]
          simp only [Option.bind_some]
          rw [b01_t, if_neg (by omega)]
      have key : ∃ r M1 M2, p_O_tried_B34 f n what Mc = some (r, M1) ∧ p_M_tried_B44 f n what Mr = some (r, M2) ∧ (∀ i : Int, 0 ≤ i → i < 159 → M2 58 i = Mr 58 i) := by
        unfold p_O_tried_B34 p_M_tried_B44 p_M_tried_B182
        rw [ea, eb]
        simp only [Option.bind_some]
        rw [ea2, eb2]
        simp only [Option.bind_some]
        by_cases w0 : what = 0
        · rw [if_pos w0, if_pos w0, lt_eq, eb3]
          exact ⟨_, _, _, rfl, by rw [c1]; rfl, g5⟩
        rw [if_neg w0, if_neg w0]
        by_cases w1 : what = 1
        · rw [if_pos w1, if_pos w1, e_D_owedInAll (by omega) hdd, e_M_owedInAll (by omega) (rOk_dOk g3.2.2.2)]
          simp only [Option.bind_some]
          rw [eb3]
          exact ⟨_, _, _, rfl, by rw [allS_congr (d := a2.2 (14 + 1)) g3.2.2.1.1]; rfl, g5⟩
        rw [if_neg w1, if_neg w1]
        by_cases w2 : what = 2
        · have c4' := g3.2.2.1.2.2.2.2.1
          rw [if_pos w2, if_pos w2, bnd_eq (by omega) (by omega), lt_eq, eb3]
          refine ⟨b2.2 58 151, a2.2, b3.2, ?_, rfl, g5⟩
          rw [c4']
          by_cases z : p21 (b2.2 58 151) < 0
          · rw [if_pos z, (p21_neg (hol.elim .inl (fun z => .inr z.1))).1 z]
          · rw [if_neg z, (p21_neg (hol.elim .inl (fun z => .inr z.1))).2 z]
        rw [if_neg w2, if_neg w2]
        by_cases w3 : what = 3
        · rw [if_pos w3, if_pos w3, lt_eq, eb3]
          exact ⟨_, _, _, rfl, by rw [c2]; rfl, g5⟩
        rw [if_neg w3, if_neg w3]
        by_cases w4 : what = 4
        · rw [if_pos w4, if_pos w4, lt_eq, eb3]
          exact ⟨_, _, _, rfl, by rw [c3]; rfl, g5⟩
        rw [if_neg w4, if_neg w4]
        by_cases w5 : what = 5
        · rw [if_pos w5, if_pos w5, bnd_eq (by omega) (by omega), lt_eq, eb3]
          exact ⟨_, _, _, rfl, by rw [(dC_hour g3.2.2.1).1]; rfl, g5⟩
        rw [if_neg w5, if_neg w5]
        have hw' : 10 ≤ what ∧ what ≤ 19 := by
          rcases hw with hw | hw
          · omega
          · exact hw.1
        rw [w32_of (a := what - 10) (by omega) (by omega), bnd_eq (by omega) (by omega), bnd_eq (by omega) (by omega), w32_of (a := 100 + what) (by omega) (by omega), w32_of (a := 100 + what - 10) (by omega) (by omega), bnd_eq (by omega) (by omega), bnd_eq (by omega) (by omega), lt_eq, eb3]
        refine ⟨_, _, _, rfl, ?_, g5⟩
        have z1 : a2.2 16 (what - 10) = b2.2 58 (100 + (what - 10)) := g3.2.2.1.2.1 _ (by omega) (by omega)
        have z2 : Mc 8 (what - 10) = Mr 58 (100 + (what - 10)) := hd.2.1 _ (by omega) (by omega)
        rw [z1, y8, z2, y59, g2 _ (by omega) (by omega), show 100 + what - 10 = 100 + (what - 10) from by omega]
        rfl
      obtain ⟨r, M1, M2, k1, k2, k3⟩ := key
      have e1' := e1.trans k1
      have e2' := e2.trans k2
      have x1 := fr_O_tried (eqo_rfl _ _) _ e1'
      have x2 := fr_M_tried (eqo_rfl _ _) _ e2'
      exact same_upd e1' e2' ⟨T, Rel_try h x1 x2 rfl k3⟩
    · refine same_some (r := -1) h ?_ ?_
      · unfold p_O_tried p_O_tried_B28
        rw [e_P_has hp.2.1 hp.1]
        simp only [Option.bind_some]
        rw [e_O_areHours, in_t hn]
        simp only [Option.bind_some]
        rw [b01_t, if_neg (by omega)]
        have hnt : tldb T (w32 (what - 10)) = false := by
          cases hb : tldb T (w32 (what - 10)) with
          | false => rfl
          | true =>
            have hr := tldb_rng hb
            have : what = w32 (what - 10) + 10 := by unfold inR at hwr; unfold w32 at hr ⊢; omega
            exfalso
            exact hw (.inr ⟨by omega, by rw [show what - 10 = w32 (what - 10) from by omega]; exact hb⟩)
        rw [hnt, b01_f]
        by_cases z : what < 0
        · rw [if_pos z, if_pos rfl]
        · rw [if_neg z, if_pos (by omega), if_pos rfl]
      · unfold p_M_tried
        rw [e_M_in, in_t hn]
        simp only [Option.bind_some]
        rw [b01_t, if_neg (by omega), e_M_in, in_f (by omega)]
        simp only [Option.bind_some]
        rw [b01_f, if_pos rfl, e_M_in]
        simp only [Option.bind_some]
        by_cases z : 10 ≤ what ∧ what ≤ 19
        · rw [in_t z, b01_t, if_neg (by omega), w32_of (by omega) (by omega), e_M_isPerson hp.2.2.1 hp.1]
          simp only [Option.bind_some]
          have : tldb T (what - 10) = false := by
            cases hb : tldb T (what - 10) with
            | false => rfl
            | true => exact absurd (.inr ⟨z, hb⟩) hw
          rw [this, b01_f, if_pos rfl]
        · rw [in_f z, b01_f, if_pos rfl]
  · refine same_some (r := -1) h ?_ ?_
    · unfold p_O_tried
      rw [e_P_has hp.2.1 hp.1]
      simp only [Option.bind_some]
      rw [e_O_areHours, in_f hn]
      simp only [Option.bind_some]
      rw [b01_f, if_pos rfl]
    · unfold p_M_tried
      rw [e_M_in, in_f hn]
      simp (disch := omega) only [bnd_eq, nz_eq, lt_eq, if_pos, if_neg, w32_of, if_true, if_false, not_true_eq_false, not_false_eq_true, Option.bind_some, oU_at, oU_o, oU_i, b01_t, b01_f]
