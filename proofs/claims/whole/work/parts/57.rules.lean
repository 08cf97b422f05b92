/-! rules: the first whose C holds; likes, growth, rain -/
abbrev facR (Mc Mr : oM) : Prop := ∀ j : Int, 0 ≤ j → j < 8 → Mc 25 j = Mr 76 j
theorem facR_eqo {Mc Mr M M' : oM} {w1 w2 : List (Nat × Int)} (h : facR Mc Mr) (e1 : eqo w1 Mc M) (e2 : eqo w2 Mr M') (k : (outa w1 25 && outa w2 76) = true) : facR M M' := by
  obtain ⟨k1, k2⟩ := (Bool.and_eq_true _ _).mp k
  intro j j0 j1
  rw [eqo_a e1 25 k1, eqo_a e2 76 k2]; exact h j j0 j1
/-- a rule's C and E, by both -/
theorem rule_C {f : Nat} {q : Int} {Mc Mr : oM} (hf : 1000 < f) (hl : lawR Mc Mr) (hfac : facR Mc Mr) (h0 : 0 ≤ q) (h1 : q < Mc 18 10) : ∃ a b, p_L_reckoned f (Mc 23 q) (Mc 24 q) Mc = some a ∧ p_M_comesTo f (Mr 73 q) (Mr 74 q) Mr = some b ∧ a.1 = b.1 ∧ (a.1 = 0 ∨ a.1 = 1) ∧ eqo [(26, (-1))] Mc a.2 ∧ eqo [(75, (-1))] Mr b.2 := by
  obtain ⟨l1, l2, N, l3, l4, l5⟩ := hl
  obtain ⟨q1, q2, q3, q4, q5, q6, q7⟩ := l5 q h0 h1
  obtain ⟨a, ea, ha⟩ := okp_ex (reck (f := f) (a := Mc 23 q) (b := Mc 24 q) hf (by omega) (by omega) q7 (fun i i0 i1 => l4 i (by omega) (by omega)) hfac)
  obtain ⟨b, eb, hb⟩ := okp_ex ha
  rw [q3, q4]
  exact ⟨a, b, ea, eb, hb.1, hb.2 rfl, fr_L_reckoned (eqo_rfl _ _) _ ea, fr_M_comesTo (eqo_rfl _ _) _ eb⟩
theorem rule_E {f : Nat} {q : Int} {Mc Mr : oM} (hf : 1000 < f) (hl : lawR Mc Mr) (hfac : facR Mc Mr) (h0 : 0 ≤ q) (h1 : q < Mc 18 10) (hk : Mc 21 q ≠ 115) : ∃ a b, p_L_reckoned f (Mc 22 q) (Mc 23 q) Mc = some a ∧ p_M_comesTo f (Mr 72 q) (Mr 73 q) Mr = some b ∧ a.1 = b.1 ∧ eqo [(26, (-1))] Mc a.2 ∧ eqo [(75, (-1))] Mr b.2 := by
  obtain ⟨l1, l2, N, l3, l4, l5⟩ := hl
  obtain ⟨q1, q2, q3, q4, q5, q6, q7⟩ := l5 q h0 h1
  obtain ⟨a, ea, ha⟩ := okp_ex (reck (f := f) (a := Mc 22 q) (b := Mc 23 q) hf (by omega) (by omega) (q6 hk) (fun i i0 i1 => l4 i (by omega) (by omega)) hfac)
  obtain ⟨b, eb, hb⟩ := okp_ex ha
  rw [q2, q3]
  exact ⟨a, b, ea, eb, hb.1, fr_L_reckoned (eqo_rfl _ _) _ ea, fr_M_comesTo (eqo_rfl _ _) _ eb⟩
theorem law_kind {Mc Mr : oM} {q : Int} (hl : lawR Mc Mr) (h0 : 0 ≤ q) (h1 : q < Mc 18 10) : Mr 71 q = Mc 21 q := by
  obtain ⟨l1, l2, N, l3, l4, l5⟩ := hl
  exact (l5 q h0 h1).1
def rlI (Mc Mr : oM) (n : Nat) (s s' : Int × oM) : Prop := s.1 = (n : Int) ∧ s'.1 = (n : Int) ∧ eqo [(26, (-1))] Mc s.2 ∧ eqo [(75, (-1))] Mr s'.2
theorem rlI_law {Mc Mr M M' : oM} (hl : lawR Mc Mr) (hfac : facR Mc Mr) (e1 : eqo [(26, (-1))] Mc M) (e2 : eqo [(75, (-1))] Mr M') : lawR M M' ∧ facR M M' := ⟨lawR_eqo hl e1 e2 rfl, facR_eqo hfac e1 e2 rfl⟩
theorem eqo_self {w : List (Nat × Int)} {A B C : oM} (h1 : eqo w A B) (h2 : eqo w B C) : eqo w A C := fun o i q => (h2 o i q).trans (h1 o i q)
theorem clamp_eq {v hi : Int} (hh : 0 ≤ hi) : imax 0 (imin hi v) = if v < 0 then 0 else if hi < v then hi else v := by
  unfold imax imin
  repeat' split
  all_goals omega
theorem clamp_bd {v hi : Int} (hh : 0 ≤ hi) : 0 ≤ imax 0 (imin hi v) ∧ imax 0 (imin hi v) ≤ hi := by
  unfold imax imin
  repeat' split
  all_goals omega
theorem firstOf_byLaw {f : Nat} {kind hi : Int} {Mc Mr : oM} (hf : 1000 < f) (hl : lawR Mc Mr) (hfac : facR Mc Mr) (hk : kind ≠ 115) (hh : 0 ≤ hi) :
    okp (p_L_firstOf f kind hi Mc) (fun q => okp (p_M_byLaw f kind hi Mr) (fun q' => q.1 = q'.1 ∧ 0 ≤ q.1 ∧ q.1 ≤ hi)) := by
  have hb := hl.2.1
  unfold p_L_firstOf p_M_byLaw
  refine for2_ok (Mc 18 10).toNat (rlI Mc Mr) ?_ ?_ f f (by omega) (by omega) ⟨rfl, rfl, eqo_rfl _ _, eqo_rfl _ _⟩
  · intro n ⟨k, M⟩ ⟨k', M'⟩ hn ⟨g1, g2, e1, e2⟩
    simp only at g1 g2 e1 e2
    subst g1; subst g2
    obtain ⟨hl', hfac'⟩ := rlI_law hl hfac e1 e2
    have hr : M 18 10 = Mc 18 10 := e1 18 10 rfl
    have hr' : M' 57 16 = Mc 18 10 := (e2 57 16 rfl).trans hl.1
    have hkind : M' 71 n = M 21 n := law_kind hl' (by omega) (by rw [hr]; omega)
    unfold p_L_firstOf_L2 p_M_byLaw_L2 p_L_firstOf_B74_2 p_M_byLaw_B83_2
    simp only []
    rw [hr, hr', if_pos (by omega), if_pos (by omega), if_pos (by omega), bnd_eq (by omega) (by omega)]
    by_cases q : M 21 n = kind
    · rw [if_pos q, bnd_eq (by omega) (by omega), bnd_eq (by omega) (by omega), bnd_eq (by omega) (by omega), hkind, if_pos q, bnd_eq (by omega) (by omega), bnd_eq (by omega) (by omega)]
      obtain ⟨a, b, ea, eb, hab, ha, f1, f2⟩ := rule_C (f := f) hf hl' hfac' (q := n) (by omega) (by rw [hr]; omega)
      rw [ea, eb]
      simp only [Option.bind_some]
      rcases ha with ha | ha
      · rw [if_pos ha, if_neg (by omega), lt_eq, w32_of (by omega) (by omega), lt_eq]
        exact ⟨by show (n : Int) + 1 = ((n + 1 : Nat) : Int); omega, by show (n : Int) + 1 = ((n + 1 : Nat) : Int); omega, eqo_self e1 f1, eqo_self e2 f2⟩
      · rw [if_neg (by omega), if_pos (by omega), bnd_eq (by omega) (by omega), bnd_eq (by omega) (by omega), bnd_eq (by omega) (by omega), bnd_eq (by omega) (by omega)]
        obtain ⟨hl2, hfac2⟩ := rlI_law hl' hfac' f1 f2
        obtain ⟨a2, b2, ea2, eb2, hab2, -, -⟩ := rule_E (f := f) hf hl2 hfac2 (q := n) (by omega) (by rw [f1 18 10 rfl, hr]; omega) (by rw [f1 21 n rfl, q]; exact hk)
        rw [ea2, eb2]
        simp only [Option.bind_some]
        have hc := clamp_eq (v := a2.1) hh
        have hb2 := clamp_bd (v := a2.1) hh
        rw [hab2] at hc
        by_cases z1 : b2.1 < 0
        · rw [if_pos z1]
          rw [if_pos z1] at hc
          exact ⟨by rw [hab2]; exact hc, hb2⟩
        · rw [if_neg z1]
          rw [if_neg z1] at hc
          by_cases z2 : hi < b2.1
          · rw [if_pos z2]
            rw [if_pos z2] at hc
            exact ⟨by rw [hab2]; exact hc, hb2⟩
          · rw [if_neg z2]
            rw [if_neg z2] at hc
            exact ⟨by rw [hab2]; exact hc, hb2⟩
    · rw [if_neg q, bnd_eq (by omega) (by omega), hkind, if_neg q, lt_eq, w32_of (by omega) (by omega), lt_eq]
      exact ⟨by show (n : Int) + 1 = ((n + 1 : Nat) : Int); omega, by show (n : Int) + 1 = ((n + 1 : Nat) : Int); omega, e1, e2⟩
  · intro ⟨k, M⟩ ⟨k', M'⟩ ⟨g1, g2, e1, e2⟩
    simp only at g1 g2 e1 e2
    have hr : M 18 10 = Mc 18 10 := e1 18 10 rfl
    have hr' : M' 57 16 = Mc 18 10 := (e2 57 16 rfl).trans hl.1
    unfold p_L_firstOf_L2 p_M_byLaw_L2
    simp only []
    rw [hr, hr', if_neg (by omega), if_neg (by omega)]
    exact ⟨rfl, by omega, hh⟩
theorem liking_likes {f o T : Nat} {h a b : Int} {Mc Mr : oM} (hf : 1000 < f) (ho : o ≤ 14) (hp : pplR T Mc Mr) (hl : lawR Mc Mr) (hd : dR T h o Mc Mr) (ha : 0 ≤ a ∧ a < 10) (hb : 0 ≤ b ∧ b < 10) :
    okp (p_L_liking f o a b Mc) (fun q => okp (p_M_likesBy f a b Mr) (fun q' => q.1 = q'.1 ∧ 0 ≤ q.1 ∧ q.1 ≤ 9999)) := by
  obtain ⟨q0, q0', e0, e0', hfac, f0, f0'⟩ := look_feels (f := f) hf ho hp hd ha hb
  unfold p_L_liking p_M_likesBy
  rw [e0, e0']
  simp only [Option.bind_some]
  have hl0 : lawR q0.2 q0'.2 := lawR_eqo hl f0 f0' rfl
  have hb0 := hl0.2.1
  have key : okp (iter (p_L_liking_L10 f o) f (0, q0.2)) (fun q => okp (iter (p_M_holdsAny_L2 f 115) f (0, q0'.2)) (fun q' => (q'.1 = 1 ∧ q.1 = 0) ∨ (q'.1 = 0 ∧ okp (p_M_byLaw f 101 9999 q'.2) (fun q'' => q.1 = q''.1 ∧ 0 ≤ q.1 ∧ q.1 ≤ 9999)))) := by
    refine for2_ok (q0.2 18 10).toNat (rlI q0.2 q0'.2) ?_ ?_ f f (by omega) (by omega) ⟨rfl, rfl, eqo_rfl _ _, eqo_rfl _ _⟩
    · intro n ⟨k, M⟩ ⟨k', M'⟩ hn ⟨g1, g2, e1, e2⟩
      simp only at g1 g2 e1 e2
      subst g1; subst g2
      obtain ⟨hl', hfac'⟩ := rlI_law hl0 hfac e1 e2
      have hr : M 18 10 = q0.2 18 10 := e1 18 10 rfl
      have hr' : M' 57 16 = q0.2 18 10 := (e2 57 16 rfl).trans hl0.1
      have hkind : M' 71 n = M 21 n := law_kind hl' (by omega) (by rw [hr]; omega)
      unfold p_L_liking_L10 p_M_holdsAny_L2 p_L_liking_B61_10 p_M_holdsAny_B42_2
      simp only []
      rw [hr, hr', if_pos (by omega), if_pos (by omega), if_pos (by omega), bnd_eq (by omega) (by omega)]
      by_cases q : M 21 n = 115
      · rw [if_pos q, bnd_eq (by omega) (by omega), bnd_eq (by omega) (by omega), bnd_eq (by omega) (by omega), hkind, if_pos q, bnd_eq (by omega) (by omega), bnd_eq (by omega) (by omega)]
        obtain ⟨a, b, ea, eb, hab, ha, f1, f2⟩ := rule_C (f := f) hf hl' hfac' (q := n) (by omega) (by rw [hr]; omega)
        rw [ea, eb]
        simp only [Option.bind_some]
        rcases ha with ha | ha
        · rw [if_pos ha, if_neg (by omega), lt_eq, w32_of (by omega) (by omega), lt_eq]
          exact ⟨by show (n : Int) + 1 = ((n + 1 : Nat) : Int); omega, by show (n : Int) + 1 = ((n + 1 : Nat) : Int); omega, eqo_self e1 f1, eqo_self e2 f2⟩
        · rw [if_neg (by omega), if_pos (by omega)]
          exact .inl ⟨rfl, rfl⟩
      · rw [if_neg q, bnd_eq (by omega) (by omega), hkind, if_neg q, lt_eq, w32_of (by omega) (by omega), lt_eq]
        exact ⟨by show (n : Int) + 1 = ((n + 1 : Nat) : Int); omega, by show (n : Int) + 1 = ((n + 1 : Nat) : Int); omega, e1, e2⟩
    · intro ⟨k, M⟩ ⟨k', M'⟩ ⟨g1, g2, e1, e2⟩
      simp only at g1 g2 e1 e2
      have hr : M 18 10 = q0.2 18 10 := e1 18 10 rfl
      have hr' : M' 57 16 = q0.2 18 10 := (e2 57 16 rfl).trans hl0.1
      obtain ⟨hl', hfac'⟩ := rlI_law hl0 hfac e1 e2
      unfold p_L_liking_L10 p_M_holdsAny_L2 p_L_liking_B67_10
      simp only []
      rw [hr, hr', if_neg (by omega), if_neg (by omega)]
      refine okp_bind' (okp_mono (firstOf_byLaw (f := f) (kind := 101) (hi := 9999) hf hl' hfac' (by omega) (by omega)) ?_)
      intro q hq
      exact .inr ⟨rfl, hq⟩
  refine okp_mono key ?_
  intro q hq
  unfold p_M_holdsAny
  refine okp_bind' (okp_mono hq ?_)
  intro q' hq'
  rcases hq' with ⟨z1, z2⟩ | ⟨z1, z2⟩
  · rw [if_neg (by omega)]
    exact ⟨z2, by omega, by omega⟩
  · rw [if_pos z1]
    exact okp_bind' (okp_mono z2 fun q'' hq'' => hq'')
theorem growth_by {f o T : Nat} {h a b : Int} {Mc Mr : oM} (hf : 1000 < f) (ho : o ≤ 14) (hp : pplR T Mc Mr) (hl : lawR Mc Mr) (hd : dR T h o Mc Mr) (ha : 0 ≤ a ∧ a < 10) (hb : 0 ≤ b ∧ b < 10) :
    ∃ q q0 q', p_L_growth f o a b Mc = some q ∧ p_M_feelsTwo f a b Mr = some q0 ∧ p_M_byLaw f 105 9 q0.2 = some q' ∧ q.1 = q'.1 ∧ 0 ≤ q.1 ∧ q.1 ≤ 9 := by
  obtain ⟨q0, q0', e0, e0', hfac, f0, f0'⟩ := look_feels (f := f) hf ho hp hd ha hb
  obtain ⟨q, e1, h1⟩ := okp_ex (firstOf_byLaw (f := f) (kind := 105) (hi := 9) hf (lawR_eqo hl f0 f0' rfl) hfac (by omega) (by omega))
  obtain ⟨q', e2, h2⟩ := okp_ex h1
  refine ⟨(q.1, q.2), q0', q', ?_, e0', e2, h2⟩
  unfold p_L_growth
  rw [e0]
  simp only [Option.bind_some]
  rw [e1]
  simp only [Option.bind_some]
theorem e_fill {f o : Nat} {n v : Int} {M : oM} (hn : 0 ≤ n ∧ n ≤ 1000) (hf : 2000 < f) : okp (p_JA_fill f o n v M) (fun q => ∀ i : Int, 0 ≤ i → i < n → q.2 o i = v) := by
  unfold p_JA_fill
  refine for_ok n.toNat (fun k s => s.1 = (k : Int) ∧ ∀ i : Int, 0 ≤ i → i < (k : Int) → s.2 o i = v) ?_ ?_ f (by omega) ⟨rfl, fun i i0 i1 => by omega⟩
  · intro k ⟨x, M'⟩ hk hI
    have hI' : x = (k : Int) ∧ ∀ i : Int, 0 ≤ i → i < (k : Int) → M' o i = v := hI
    obtain ⟨hx, hI2⟩ := hI'
    subst hx
    unfold p_JA_fill_L5
    simp only []
    rw [if_pos (by omega), bnd_eq (by omega) (by omega), lt_eq, lt_eq, w32_of (by omega) (by omega)]
    refine ⟨by show (k : Int) + 1 = ((k + 1 : Nat) : Int); omega, fun i i0 i1 => ?_⟩
    show oU M' o k v o i = _
    by_cases hi : i = k
    · subst hi; rw [oU_at]
    · rw [oU_i hi]; exact hI2 i i0 (by omega)
  · intro ⟨x, M'⟩ hI
    have hx : x = (n.toNat : Int) := hI.1
    unfold p_JA_fill_L5
    simp only []
    rw [if_neg (by omega)]
    exact fun i i0 i1 => hI.2 i i0 (by omega)
theorem rain_by {f : Nat} {day : Int} {Mc Mr : oM} (hf : 2000 < f) (hl : lawR Mc Mr) (hday : Mr 58 156 = day) :
    okp (p_L_rain f day Mc) (fun q => okp (p_M_rainBy f Mr) (fun q' => q.1 = q'.1 ∧ 0 ≤ q.1 ∧ q.1 ≤ 10)) := by
  obtain ⟨a, ea, ha⟩ := okp_ex (e_fill (f := f) (o := 25) (n := 8) (v := 0) (M := Mc) (by omega) hf)
  have fa := fr_JA_fill (eqo_rfl _ _) _ ea
  obtain ⟨b, eb, hb⟩ := okp_ex (e_M_feels (f := f) (hour := 0) (M := Mr) (by omega))
  have fb := fr_M_feels (eqo_rfl _ _) _ eb
  unfold p_L_rain p_M_rainBy
  rw [ea, eb]
  simp only [Option.bind_some]
  rw [bnd_eq (by omega) (by omega), lt_eq]
  have fa' : eqo [(25, (-1))] Mc (oU a.2 25 7 day) := eqo_oUa (.head _) fa
  refine okp_bind' (okp_mono (firstOf_byLaw (f := f) (kind := 114) (hi := 10) (by omega) (lawR_eqo hl fa' fb rfl) ?_ (by omega) (by omega)) ?_)
  · intro j j0 j1
    rw [hb j j0 j1]
    by_cases j7 : j = 7
    · subst j7
      rw [oU_at, if_neg (by omega), if_pos rfl, hday]
    · rw [oU_i j7, ha j j0 j1]
      by_cases j6 : j = 6
      · rw [if_pos j6]
      · rw [if_neg j6, if_neg j7]
  · intro q hq
    exact okp_bind' (okp_mono hq fun q' hq' => hq')
theorem call_likes {f T : Nat} {c a b : Int} {Mc Mr : oM} (hf : 1000 < f) (h : Rel T c Mc Mr) : Same f c (p_O_likes f a b Mc) (p_M_likes f a b Mr) := by
  obtain ⟨hp, hd, ho, hk, ht, hl, hz⟩ := id h
  cases hb : (!decide (a = b) && (tldb T a && tldb T b))
  · refine same_some (r := -1) h ?_ ?_
    · unfold p_O_likes
      rw [e_P_hasBoth hp.2.1 hp.1, hb]
      simp (disch := omega) only [bnd_eq, nz_eq, lt_eq, if_pos, if_neg, w32_of, if_true, if_false, not_true_eq_false, not_false_eq_true, Option.bind_some, oU_at, oU_o, oU_i, b01_t, b01_f]
    · unfold p_M_likes
      rw [e_M_areTwo hp.2.2.1 hp.1, hb]
      simp (disch := omega) only [bnd_eq, nz_eq, lt_eq, if_pos, if_neg, w32_of, if_true, if_false, not_true_eq_false, not_false_eq_true, Option.bind_some, oU_at, oU_o, oU_i, b01_t, b01_f]
  · have hb1 := hb
    simp only [Bool.and_eq_true] at hb1
    obtain ⟨q, e1, h1⟩ := okp_ex (liking_likes (f := f) (o := 6) hf (by omega) hp hl ⟨hd, ho⟩ (tldb_rng hb1.2.1) (tldb_rng hb1.2.2))
    obtain ⟨q', e2, h2⟩ := okp_ex h1
    have e1' : p_O_likes f a b Mc = some (q.1, q.2) := by
      unfold p_O_likes
      rw [e_P_hasBoth hp.2.1 hp.1, hb]
      simp (disch := omega) only [bnd_eq, nz_eq, lt_eq, if_pos, if_neg, w32_of, if_true, if_false, not_true_eq_false, not_false_eq_true, Option.bind_some, oU_at, oU_o, oU_i, b01_t, b01_f, e1]
    have e2' : p_M_likes f a b Mr = some (q.1, q'.2) := by
      unfold p_M_likes
      rw [e_M_areTwo hp.2.2.1 hp.1, hb]
      simp (disch := omega) only [bnd_eq, nz_eq, lt_eq, if_pos, if_neg, w32_of, if_true, if_false, not_true_eq_false, not_false_eq_true, Option.bind_some, oU_at, oU_o, oU_i, b01_t, b01_f, e2]
      rw [h2.1]
    have g1 := fr_O_likes (eqo_rfl _ _) _ e1'
    have g2 := fr_M_likes (eqo_rfl _ _) _ e2'
    exact same_upd e1' e2' ⟨T, Rel_eqo h g1 g2 rfl (fun i _ _ => g2 58 i rfl) ((g1 56 0 rfl).trans hz)⟩
