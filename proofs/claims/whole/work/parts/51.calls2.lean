/-! the coin is given, chalked, paid; people, keep and undo -/
abbrev dR (T : Nat) (h : Int) (o : Nat) (Mc Mr : oM) : Prop := dC Mc o (Mr 58) ∧ rOk T h (Mr 58)
theorem giveTo_rests {f T : Nat} {h p : Int} {o : Nat} {Mc Mr : oM} (hd : dR T h o Mc Mr) (hp : tld T p) : ∃ M1 M2, p_D_giveTo f o p Mc = some (0, M1) ∧ p_M_rests f p Mr = some (0, M2) ∧ dR T h o M1 M2 ∧ (∀ i : Int, 0 ≤ i → i < 151 → M2 58 i = Mr 58 i) ∧ (∀ i : Int, 154 < i → M2 58 i = Mr 58 i) := by
  have hp' := tld_iff.1 hp
  refine ⟨oU (oU (oU (oU Mc o 4 p) o 5 (-1)) o 6 (-1)) o 7 0, oU (oU (oU Mr 58 151 p) 58 153 (-2)) 58 154 0, rfl, ?_, ?_⟩
  · unfold p_M_rests
    simp (disch := omega) only [bnd_eq, nz_eq, lt_eq, if_pos, if_neg, w32_of, if_true, if_false, not_true_eq_false, not_false_eq_true, Option.bind_some, oU_at, oU_o, oU_i, b01_t, b01_f]
  obtain ⟨⟨c1, c2, c3, c4, c5, c6, c7, c8, c9⟩, h1, h2, h3, h4, h5, h6, h7, h8, h9, h10⟩ := hd
  refine ⟨⟨⟨?_, ?_, ?_, ?_, ?_, ?_, ?_, ?_, ?_⟩, ⟨?_, ?_, ?_, ?_, ?_, ?_, ?_, ?_, ?_, ?_⟩⟩, ?_, ?_⟩
  · intro i i0 i1
    simp (disch := omega) only [bnd_eq, nz_eq, lt_eq, if_pos, if_neg, w32_of, if_true, if_false, not_true_eq_false, not_false_eq_true, Option.bind_some, oU_at, oU_o, oU_i, b01_t, b01_f]
    exact c1 i i0 i1
  · intro i i0 i1
    simp (disch := omega) only [bnd_eq, nz_eq, lt_eq, if_pos, if_neg, w32_of, if_true, if_false, not_true_eq_false, not_false_eq_true, Option.bind_some, oU_at, oU_o, oU_i, b01_t, b01_f]
    exact c2 i i0 i1
  · intro i i0
    simp (disch := omega) only [bnd_eq, nz_eq, lt_eq, if_pos, if_neg, w32_of, if_true, if_false, not_true_eq_false, not_false_eq_true, Option.bind_some, oU_at, oU_o, oU_i, b01_t, b01_f]
    intro i1
    simp (disch := omega) only [bnd_eq, nz_eq, lt_eq, if_pos, if_neg, w32_of, if_true, if_false, not_true_eq_false, not_false_eq_true, Option.bind_some, oU_at, oU_o, oU_i, b01_t, b01_f]
    exact c3 i i0 i1
  · simp (disch := omega) only [bnd_eq, nz_eq, lt_eq, if_pos, if_neg, w32_of, if_true, if_false, not_true_eq_false, not_false_eq_true, Option.bind_some, oU_at, oU_o, oU_i, b01_t, b01_f]
    exact c4
  · simp (disch := omega) only [bnd_eq, nz_eq, lt_eq, if_pos, if_neg, w32_of, if_true, if_false, not_true_eq_false, not_false_eq_true, Option.bind_some, oU_at, oU_o, oU_i, b01_t, b01_f]
    unfold p21; rw [if_neg (by omega)]
  · simp (disch := omega) only [bnd_eq, nz_eq, lt_eq, if_pos, if_neg, w32_of, if_true, if_false, not_true_eq_false, not_false_eq_true, Option.bind_some, oU_at, oU_o, oU_i, b01_t, b01_f]
    intro q; omega
  · simp (disch := omega) only [bnd_eq, nz_eq, lt_eq, if_pos, if_neg, w32_of, if_true, if_false, not_true_eq_false, not_false_eq_true, Option.bind_some, oU_at, oU_o, oU_i, b01_t, b01_f]
    rfl
  · simp (disch := omega) only [bnd_eq, nz_eq, lt_eq, if_pos, if_neg, w32_of, if_true, if_false, not_true_eq_false, not_false_eq_true, Option.bind_some, oU_at, oU_o, oU_i, b01_t, b01_f]
  · simp (disch := omega) only [bnd_eq, nz_eq, lt_eq, if_pos, if_neg, w32_of, if_true, if_false, not_true_eq_false, not_false_eq_true, Option.bind_some, oU_at, oU_o, oU_i, b01_t, b01_f]
    exact c9
  · intro i i0 i1
    simp (disch := omega) only [bnd_eq, nz_eq, lt_eq, if_pos, if_neg, w32_of, if_true, if_false, not_true_eq_false, not_false_eq_true, Option.bind_some, oU_at, oU_o, oU_i, b01_t, b01_f]
    exact h1 i i0 i1
  · intro a b a0 a1 b0 b1
    simp (disch := omega) only [bnd_eq, nz_eq, lt_eq, if_pos, if_neg, w32_of, if_true, if_false, not_true_eq_false, not_false_eq_true, Option.bind_some, oU_at, oU_o, oU_i, b01_t, b01_f]
    exact h2 a b a0 a1 b0 b1
  · intro i i0 i1
    simp (disch := omega) only [bnd_eq, nz_eq, lt_eq, if_pos, if_neg, w32_of, if_true, if_false, not_true_eq_false, not_false_eq_true, Option.bind_some, oU_at, oU_o, oU_i, b01_t, b01_f]
    exact h3 i i0 i1
  · simp (disch := omega) only [bnd_eq, nz_eq, lt_eq, if_pos, if_neg, w32_of, if_true, if_false, not_true_eq_false, not_false_eq_true, Option.bind_some, oU_at, oU_o, oU_i, b01_t, b01_f]
    exact h4
  · intro i i0
    simp (disch := omega) only [bnd_eq, nz_eq, lt_eq, if_pos, if_neg, w32_of, if_true, if_false, not_true_eq_false, not_false_eq_true, Option.bind_some, oU_at, oU_o, oU_i, b01_t, b01_f]
    intro i1
    simp (disch := omega) only [bnd_eq, nz_eq, lt_eq, if_pos, if_neg, w32_of, if_true, if_false, not_true_eq_false, not_false_eq_true, Option.bind_some, oU_at, oU_o, oU_i, b01_t, b01_f]
    exact h5 i i0 i1
  · simp (disch := omega) only [bnd_eq, nz_eq, lt_eq, if_pos, if_neg, w32_of, if_true, if_false, not_true_eq_false, not_false_eq_true, Option.bind_some, oU_at, oU_o, oU_i, b01_t, b01_f]
    exact .inr hp
  · simp (disch := omega) only [bnd_eq, nz_eq, lt_eq, if_pos, if_neg, w32_of, if_true, if_false, not_true_eq_false, not_false_eq_true, Option.bind_some, oU_at, oU_o, oU_i, b01_t, b01_f]
    omega
  · simp (disch := omega) only [bnd_eq, nz_eq, lt_eq, if_pos, if_neg, w32_of, if_true, if_false, not_true_eq_false, not_false_eq_true, Option.bind_some, oU_at, oU_o, oU_i, b01_t, b01_f]
    intro q; omega
  · simp (disch := omega) only [bnd_eq, nz_eq, lt_eq, if_pos, if_neg, w32_of, if_true, if_false, not_true_eq_false, not_false_eq_true, Option.bind_some, oU_at, oU_o, oU_i, b01_t, b01_f]
    intro _; trivial
  · simp (disch := omega) only [bnd_eq, nz_eq, lt_eq, if_pos, if_neg, w32_of, if_true, if_false, not_true_eq_false, not_false_eq_true, Option.bind_some, oU_at, oU_o, oU_i, b01_t, b01_f]
    exact h10
  · intro i i0 i1
    simp (disch := omega) only [bnd_eq, nz_eq, lt_eq, if_pos, if_neg, w32_of, if_true, if_false, not_true_eq_false, not_false_eq_true, Option.bind_some, oU_at, oU_o, oU_i, b01_t, b01_f]
  · intro i i0
    simp (disch := omega) only [bnd_eq, nz_eq, lt_eq, if_pos, if_neg, w32_of, if_true, if_false, not_true_eq_false, not_false_eq_true, Option.bind_some, oU_at, oU_o, oU_i, b01_t, b01_f]
theorem Rel_told {T T' : Nat} {h : Int} {D : Int → Int} (hd : rOk T h D) (ht : ∀ p, tld T p → tld T' p) : rOk T' h D := by
  obtain ⟨h1, h2, h3, h4, h5, h6, h7, h8, h9, h10⟩ := hd
  exact ⟨h1, fun a b a0 a1 b0 b1 q => ⟨ht a (h2 a b a0 a1 b0 b1 q).1, ht b (h2 a b a0 a1 b0 b1 q).2.1, (h2 a b a0 a1 b0 b1 q).2.2⟩, fun i i0 i1 => ⟨(h3 i i0 i1).1, (h3 i i0 i1).2.1, fun q => ht i ((h3 i i0 i1).2.2 q)⟩, h4, h5, h6.elim .inl (fun q => .inr (ht _ q)), h7, fun q => ⟨(h8 q).1, ht _ (h8 q).2.1, ht _ (h8 q).2.2.1, (h8 q).2.2.2⟩, h9, h10⟩
theorem call_coin {f T : Nat} {c p : Int} {Mc Mr : oM} (h : Rel T c Mc Mr) : Same f c (p_O_coin f p Mc) (p_M_coin f p Mr) := by
  obtain ⟨hp, hd, ho, -⟩ := id h
  cases hb : tldb T p
  · refine same_some (r := 0) h ?_ ?_
    · unfold p_O_coin
      rw [e_P_has hp.2.1 hp.1, hb]
      simp (disch := omega) only [bnd_eq, nz_eq, lt_eq, if_pos, if_neg, w32_of, if_true, if_false, not_true_eq_false, not_false_eq_true, Option.bind_some, oU_at, oU_o, oU_i, b01_t, b01_f]
    · unfold p_M_coin
      rw [e_M_isPerson hp.2.2.1 hp.1, hb]
      simp (disch := omega) only [bnd_eq, nz_eq, lt_eq, if_pos, if_neg, w32_of, if_true, if_false, not_true_eq_false, not_false_eq_true, Option.bind_some, oU_at, oU_o, oU_i, b01_t, b01_f]
  · obtain ⟨M1, M2, e1, e2, h1, -⟩ := giveTo_rests (f := f) ⟨hd, ho⟩ hb
    have e1' : p_O_coin f p Mc = some (1, M1) := by
      unfold p_O_coin
      rw [e_P_has hp.2.1 hp.1, hb]
      simp (disch := omega) only [bnd_eq, nz_eq, lt_eq, if_pos, if_neg, w32_of, if_true, if_false, not_true_eq_false, not_false_eq_true, Option.bind_some, oU_at, oU_o, oU_i, b01_t, b01_f, e1]
    have e2' : p_M_coin f p Mr = some (1, M2) := by
      unfold p_M_coin
      rw [e_M_isPerson hp.2.2.1 hp.1, hb]
      simp (disch := omega) only [bnd_eq, nz_eq, lt_eq, if_pos, if_neg, w32_of, if_true, if_false, not_true_eq_false, not_false_eq_true, Option.bind_some, oU_at, oU_o, oU_i, b01_t, b01_f, e2]
    exact same_upd e1' e2' ⟨T, Rel_duchy h (fr_O_coin (eqo_rfl _ _) _ e1') (fr_M_coin (eqo_rfl _ _) _ e2') rfl h1.1 (rOk_mono h1.2 (by omega))⟩
theorem call_seed {f T : Nat} {c x : Int} {Mc Mr : oM} (h : Rel T c Mc Mr) : Same f c (p_O_seed f x Mc) (p_M_seed f x Mr) := by
  obtain ⟨hp, hd, ho, -⟩ := id h
  by_cases hx : 0 ≤ x ∧ x ≤ 65535
  · have e1 : p_O_seed f x Mc = some (1, oU Mc 6 11 x) := by
      unfold p_O_seed
      simp (disch := omega) only [bnd_eq, nz_eq, lt_eq, if_pos, if_neg, w32_of, if_true, if_false, not_true_eq_false, not_false_eq_true, Option.bind_some, oU_at, oU_o, oU_i, b01_t, b01_f]
    have e2 : p_M_seed f x Mr = some (1, oU Mr 58 158 x) := by
      unfold p_M_seed
      rw [e_M_in]
      simp (disch := omega) only [bnd_eq, nz_eq, lt_eq, if_pos, if_neg, w32_of, if_true, if_false, not_true_eq_false, not_false_eq_true, Option.bind_some, oU_at, oU_o, oU_i, b01_t, b01_f, decide_eq_true hx.1, decide_eq_true hx.2, Bool.and_self]
    refine same_upd e1 e2 ⟨T, Rel_duchy h (fr_O_seed (eqo_rfl _ _) _ e1) (fr_M_seed (eqo_rfl _ _) _ e2) rfl ?_ (rOk_mono (h := 240 * c) ?_ (by omega))⟩
    · obtain ⟨c1, c2, c3, c4, c5, c6, c7, c8, c9, c10, c11, c12⟩ := hd
      unfold dC
      rw [oU_sD]
      have hb := ho.2.2.2.1
      simp (disch := omega) only [sD_ne, sD_at, oU_o, oU_at, oU_i]
      refine ⟨fun i i0 i1 => ?_, fun i i0 i1 => ?_, fun i i0 i1 => ?_, c4, c5, c6, c7, c8, c9, c10, c11, trivial⟩
      · rw [sD_ne (by omega)]; exact c1 i i0 i1
      · rw [sD_ne (by omega)]; exact c2 i i0 i1
      · rw [sD_ne (by omega)]; exact c3 i i0 i1
    · obtain ⟨h1, h2, h3, h4, h5, h6, h7, h8, h9, h10, h11, h12, h13⟩ := ho
      rw [oU_sD]
      unfold rOk
      simp (disch := omega) only [sD_ne, sD_at]
      refine ⟨fun i i0 i1 => ?_, fun a b a0 a1 b0 b1 => ?_, fun i i0 i1 => ?_, h4, fun i i0 i1 => ?_, h6, h7, h8, h9, h10, h11, h12, hx⟩
      · rw [sD_ne (by omega)]; exact h1 i i0 i1
      · rw [sD_ne (by omega)]; exact h2 a b a0 a1 b0 b1
      · rw [sD_ne (by omega)]; exact h3 i i0 i1
      · rw [sD_ne (by omega)]; exact h5 i i0 i1
  · refine same_some (r := 0) h ?_ ?_
    · unfold p_O_seed
      by_cases q : x < 0
      · simp (disch := omega) only [bnd_eq, nz_eq, lt_eq, if_pos, if_neg, w32_of, if_true, if_false, not_true_eq_false, not_false_eq_true, Option.bind_some, oU_at, oU_o, oU_i, b01_t, b01_f]
      · simp (disch := omega) only [bnd_eq, nz_eq, lt_eq, if_pos, if_neg, w32_of, if_true, if_false, not_true_eq_false, not_false_eq_true, Option.bind_some, oU_at, oU_o, oU_i, b01_t, b01_f]
    · unfold p_M_seed
      rw [e_M_in]
      have : (decide (0 ≤ x) && decide (x ≤ 65535)) = false := by
        by_cases q : 0 ≤ x
        · have : ¬ x ≤ 65535 := by omega
          simp [this]
        · simp [q]
      simp (disch := omega) only [bnd_eq, nz_eq, lt_eq, if_pos, if_neg, w32_of, if_true, if_false, not_true_eq_false, not_false_eq_true, Option.bind_some, oU_at, oU_o, oU_i, b01_t, b01_f, this]
theorem in_f {a b x : Int} (h : ¬ (a ≤ x ∧ x ≤ b)) : (decide (a ≤ x) && decide (x ≤ b)) = false := by
  by_cases q : a ≤ x
  · have : ¬ x ≤ b := fun z => h ⟨q, z⟩
    simp [this]
  · simp [q]
theorem in_t {a b x : Int} (h : a ≤ x ∧ x ≤ b) : (decide (a ≤ x) && decide (x ≤ b)) = true := by
  simp [h.1, h.2]
theorem call_person {f T : Nat} {c p x y : Int} {Mc Mr : oM} (h : Rel T c Mc Mr) : Same f c (p_O_person f p x y Mc) (p_M_person f p x y Mr) := by
  obtain ⟨hp, hd, ho, hk, ht, hl, hz⟩ := id h
  by_cases h1 : 0 ≤ p ∧ p ≤ 9
  · by_cases h2 : 0 ≤ x ∧ x ≤ 9
    · by_cases h3 : 0 ≤ y ∧ y ≤ 9
      · obtain ⟨q, rfl⟩ : ∃ q : Nat, p = q := ⟨p.toNat, by omega⟩
        have hq : q < 10 := by omega
        have h2q : 2 ^ q < 2 ^ 10 := Nat.pow_lt_pow_right (by omega) hq
        have hor : ior (T : Int) (ishl 1 q) = ((T ||| 2 ^ q : Nat) : Int) := by
          rw [ishl1 (by omega), ior_nat (by have := hp.1; omega) (by omega)]
        have e1 : p_O_person f q x y Mc = some (1, oU (oU (oU Mc 4 q x) 5 q y) 3 2 ((T ||| 2 ^ q : Nat) : Int)) := by
          unfold p_O_person p_P_settle
          rw [e_O_isOne]
          simp (disch := omega) only [bnd_eq, nz_eq, lt_eq, if_pos, if_neg, w32_of, if_true, if_false, not_true_eq_false, not_false_eq_true, Option.bind_some, oU_at, oU_o, oU_i, b01_t, b01_f, hp.2.1, hor]
        have e2 : p_M_person f q x y Mr = some (1, oU (oU (oU Mr 57 5 ((T ||| 2 ^ q : Nat) : Int)) 61 q x) 62 q y) := by
          unfold p_M_person
          simp only [e_M_in, in_t h1, in_t h2, in_t h3]
          simp (disch := omega) only [bnd_eq, nz_eq, lt_eq, if_pos, if_neg, w32_of, if_true, if_false, not_true_eq_false, not_false_eq_true, Option.bind_some, oU_at, oU_o, oU_i, b01_t, b01_f, hp.2.2.1, hor]
        refine same_upd e1 e2 ⟨T ||| 2 ^ q, ?_⟩
        have htl : ∀ p, tld T p → tld (T ||| 2 ^ q) p := by
          intro p hp
          have := tld_iff.1 hp
          exact tld_iff.2 ⟨this.1, this.2.1, by rw [Nat.testBit_or, this.2.2]; rfl⟩
        have g1 := fr_O_person (eqo_rfl _ _) _ e1
        have g2 := fr_M_person (eqo_rfl _ _) _ e2
        refine ⟨⟨Nat.or_lt_two_pow (n := 10) hp.1 h2q, oU_at, ?_, ?_, ?_, ?_⟩, dC_congr (dC_eqo hd g1 rfl) ho (fun i _ _ => g2 58 i rfl), rOk_congr (Rel_told (rOk_mono ho (by omega)) htl) (fun i _ _ => g2 58 i rfl), ?_, tapR_eqo ht g1 g2 rfl, lawR_eqo hl g1 g2 rfl, ?_⟩
        · simp (disch := omega) only [bnd_eq, nz_eq, lt_eq, if_pos, if_neg, w32_of, if_true, if_false, not_true_eq_false, not_false_eq_true, Option.bind_some, oU_at, oU_o, oU_i, b01_t, b01_f]
        · intro i i0 i1
          by_cases hi : i = q
          · subst hi
            simp (disch := omega) only [bnd_eq, nz_eq, lt_eq, if_pos, if_neg, w32_of, if_true, if_false, not_true_eq_false, not_false_eq_true, Option.bind_some, oU_at, oU_o, oU_i, b01_t, b01_f]
            exact h2
          · simp (disch := omega) only [bnd_eq, nz_eq, lt_eq, if_pos, if_neg, w32_of, if_true, if_false, not_true_eq_false, not_false_eq_true, Option.bind_some, oU_at, oU_o, oU_i, b01_t, b01_f]
            exact hp.2.2.2.1 i i0 i1
        · intro i i0 i1
          by_cases hi : i = q
          · subst hi
            simp (disch := omega) only [bnd_eq, nz_eq, lt_eq, if_pos, if_neg, w32_of, if_true, if_false, not_true_eq_false, not_false_eq_true, Option.bind_some, oU_at, oU_o, oU_i, b01_t, b01_f]
            exact h3
          · simp (disch := omega) only [bnd_eq, nz_eq, lt_eq, if_pos, if_neg, w32_of, if_true, if_false, not_true_eq_false, not_false_eq_true, Option.bind_some, oU_at, oU_o, oU_i, b01_t, b01_f]
            exact hp.2.2.2.2.1 i i0 i1
        · intro i i0 i1
          by_cases hi : i = q
          · subst hi
            simp (disch := omega) only [bnd_eq, nz_eq, lt_eq, if_pos, if_neg, w32_of, if_true, if_false, not_true_eq_false, not_false_eq_true, Option.bind_some, oU_at, oU_o, oU_i, b01_t, b01_f]
            exact ⟨trivial, trivial⟩
          · simp (disch := omega) only [bnd_eq, nz_eq, lt_eq, if_pos, if_neg, w32_of, if_true, if_false, not_true_eq_false, not_false_eq_true, Option.bind_some, oU_at, oU_o, oU_i, b01_t, b01_f]
            exact hp.2.2.2.2.2 i i0 i1
        · have hk' := keptR_mono (keptR_eqo hk g1 g2 rfl) (show 240 * c ≤ 240 * (c + 1) by omega)
          exact ⟨hk'.1, hk'.2.1, fun z => ⟨(hk'.2.2 z).1, Rel_told (hk'.2.2 z).2 htl⟩⟩
        · simp (disch := omega) only [bnd_eq, nz_eq, lt_eq, if_pos, if_neg, w32_of, if_true, if_false, not_true_eq_false, not_false_eq_true, Option.bind_some, oU_at, oU_o, oU_i, b01_t, b01_f]
          exact hz
      · refine same_some (r := 0) h ?_ ?_
        · unfold p_O_person
          rw [e_O_isOne]
          by_cases q : y < 0
          · simp (disch := omega) only [bnd_eq, nz_eq, lt_eq, if_pos, if_neg, w32_of, if_true, if_false, not_true_eq_false, not_false_eq_true, Option.bind_some, oU_at, oU_o, oU_i, b01_t, b01_f]
          · simp (disch := omega) only [bnd_eq, nz_eq, lt_eq, if_pos, if_neg, w32_of, if_true, if_false, not_true_eq_false, not_false_eq_true, Option.bind_some, oU_at, oU_o, oU_i, b01_t, b01_f]
        · unfold p_M_person
          simp only [e_M_in, in_t h1, in_t h2, in_f h3]
          simp (disch := omega) only [bnd_eq, nz_eq, lt_eq, if_pos, if_neg, w32_of, if_true, if_false, not_true_eq_false, not_false_eq_true, Option.bind_some, oU_at, oU_o, oU_i, b01_t, b01_f]
    · refine same_some (r := 0) h ?_ ?_
      · unfold p_O_person
        rw [e_O_isOne]
        by_cases q : x < 0
        · simp (disch := omega) only [bnd_eq, nz_eq, lt_eq, if_pos, if_neg, w32_of, if_true, if_false, not_true_eq_false, not_false_eq_true, Option.bind_some, oU_at, oU_o, oU_i, b01_t, b01_f]
        · simp (disch := omega) only [bnd_eq, nz_eq, lt_eq, if_pos, if_neg, w32_of, if_true, if_false, not_true_eq_false, not_false_eq_true, Option.bind_some, oU_at, oU_o, oU_i, b01_t, b01_f]
      · unfold p_M_person
        simp only [e_M_in, in_t h1, in_f h2]
        simp (disch := omega) only [bnd_eq, nz_eq, lt_eq, if_pos, if_neg, w32_of, if_true, if_false, not_true_eq_false, not_false_eq_true, Option.bind_some, oU_at, oU_o, oU_i, b01_t, b01_f]
  · refine same_some (r := 0) h ?_ ?_
    · unfold p_O_person
      rw [e_O_isOne]
      simp (disch := omega) only [bnd_eq, nz_eq, lt_eq, if_pos, if_neg, w32_of, if_true, if_false, not_true_eq_false, not_false_eq_true, Option.bind_some, oU_at, oU_o, oU_i, b01_t, b01_f]
    · unfold p_M_person
      simp only [e_M_in, in_f h1]
      simp (disch := omega) only [bnd_eq, nz_eq, lt_eq, if_pos, if_neg, w32_of, if_true, if_false, not_true_eq_false, not_false_eq_true, Option.bind_some, oU_at, oU_o, oU_i, b01_t, b01_f]
