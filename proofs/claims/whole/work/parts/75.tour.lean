/-! off, rings, tour -/
theorem Rel_g {T : Nat} {c : Int} {Mc Mr : oM} (h : Rel T c Mc Mr) : ∃ g : Nat → Nat → Nat, gOf (Mr 58) g ∧ gOf (Mc 7) g ∧ (∀ a b, a < 10 → b < 10 → g a b ≤ 99) ∧ ∀ a b, a < 10 → b < 10 → 0 < g a b → tld T a ∧ tld T b ∧ a ≠ b := by
  obtain ⟨hp, hd, ho, -⟩ := h
  have h1 : gOf (Mr 58) (fun a b => (Mr 58 (10 * (a : Int) + b)).toNat) := fun a b ha hb => by
    have := (ho.1 (10 * (a : Int) + b) (by omega) (by omega)).1
    show Mr 58 (10 * (a : Int) + b) = (((Mr 58 (10 * (a : Int) + b)).toNat : Nat) : Int)
    omega
  refine ⟨_, h1, fun a b ha hb => by rw [← h1 a b ha hb]; exact hd.1 _ (by omega) (by omega), fun a b ha hb => ?_, fun a b ha hb hg => ?_⟩
  · have := (ho.1 (10 * (a : Int) + b) (by omega) (by omega)).2
    show (Mr 58 (10 * (a : Int) + b)).toNat ≤ 99
    omega
  · have h2 : 0 < Mr 58 (10 * (a : Int) + b) := by
      have : 0 < (Mr 58 (10 * (a : Int) + b)).toNat := hg
      omega
    have := ho.2.1 a b (by omega) (by omega) (by omega) (by omega) h2
    exact ⟨this.1, this.2.1, fun z => this.2.2 (by rw [z])⟩
/-- the reference sets its row of DEBTS aside, then looks who is come to -/
theorem e_M_reachOf {f p : Nat} {M : oM} {g : Nat → Nat → Nat} (hf : 2000 < f) (hp : p < 10) (hg : gOf (M 58) g) : ∃ S : Nat, ∃ M', p_M_reachOf f p M = some ((S : Int), M') ∧ isReach g p S ∧ eqo [(82, (-1))] M M' := by
  have h : okp (p_M_reachOf f p M) (fun q => ∃ S : Nat, q.1 = (S : Int) ∧ isReach g p S) := by
    unfold p_M_reachOf
    refine for_ok 100 (fun n s => s.1 = (n : Int) ∧ (∀ i, s.2 58 i = M 58 i) ∧ ∀ i : Int, 0 ≤ i → i < (n : Int) → s.2 82 i = M 58 i) ?_ ?_ f (by omega) ⟨rfl, fun _ => rfl, fun i i0 i1 => by omega⟩
    · intro n ⟨k, M'⟩ hn hI
      have hI' : k = (n : Int) ∧ (∀ i, M' 58 i = M 58 i) ∧ ∀ i : Int, 0 ≤ i → i < (n : Int) → M' 82 i = M 58 i := hI
      obtain ⟨hk, hI1, hI2⟩ := hI'
      subst hk
      unfold p_M_reachOf_L2
      simp only []
      rw [if_pos (by omega), w32_of (a := 0 + (n : Int)) (by omega) (by omega), bnd_eq (by omega) (by omega), bnd_eq (by omega) (by omega), lt_eq, lt_eq, w32_of (by omega) (by omega)]
      refine ⟨by show (n : Int) + 1 = ((n + 1 : Nat) : Int); omega, fun i => ?_, fun i i0 i1 => ?_⟩
      · show oU M' 82 n (M' 58 (0 + (n : Int))) 58 i = _
        rw [oU_o (by omega)]; exact hI1 i
      · show oU M' 82 n (M' 58 (0 + (n : Int))) 82 i = _
        by_cases hi : i = n
        · subst hi; rw [oU_at, hI1, Int.zero_add]
        · rw [oU_i hi]; exact hI2 i i0 (by omega)
    · intro ⟨k, M'⟩ hI
      have hk : k = ((100 : Nat) : Int) := hI.1
      unfold p_M_reachOf_L2
      simp only []
      rw [if_neg (by omega)]
      have hg' : gOf (M' 82) g := fun a b ha hb => by rw [← hg a b ha hb]; exact hI.2.2 _ (by omega) (by show 10 * (a : Int) + b < ((100 : Nat) : Int); omega)
      obtain ⟨S, eS, hS⟩ := e_M_reachLeft (f := f) hf hp hg'
      rw [eS]
      exact ⟨S, rfl, hS⟩
  obtain ⟨q, eq, S, h1, h2⟩ := okp_ex h
  obtain ⟨r, M'⟩ := q
  simp only at h1
  subst h1
  exact ⟨S, M', eq, h2, fr_M_reachOf (eqo_rfl _ _) _ eq⟩
theorem call_off {f T : Nat} {c : Int} {Mc Mr : oM} (hf : 2000 < f) (h : Rel T c Mc Mr) : Same f c (p_O_off f Mc) (p_M_off f Mr) := by
  obtain ⟨hp, hd, ho, -⟩ := id h
  obtain ⟨g, g1, g2, g3, g4⟩ := Rel_g h
  have hh := rOk_holder ho
  have c4 := hd.2.2.2.2.1
  rcases hh with z | z
  · refine same_some (r := -2) h ?_ ?_
    · unfold p_O_off
      rw [c4, z, if_pos (by decide)]
    · unfold p_M_off
      rw [bnd_eq (by omega) (by omega), if_pos (by omega)]
  · obtain ⟨p, hpp⟩ : ∃ p : Nat, Mr 58 151 = p := ⟨(Mr 58 151).toNat, by omega⟩
    have hp10 : p < 10 := by omega
    have p1 : p21 (Mr 58 151) = (p : Int) := by unfold p21; rw [if_neg (by omega)]; exact hpp
    obtain ⟨S, eS, hS⟩ := e_reachedFrom (f := f) (o := 7) hf hp10 g2
    obtain ⟨S', M', eS', hS', fS⟩ := e_M_reachOf (f := f) hf hp10 g1
    have e1 : p_O_off f Mc = some (iand (T : Int) (ixor (S : Int) (-1)), Mc) := by
      unfold p_O_off
      rw [c4, p1, if_neg (by omega), eS]
      simp only [Option.bind_some]
      rw [hp.2.1]
    have e2 : p_M_off f Mr = some (iand (T : Int) (ixor (S : Int) (-1)), M') := by
      unfold p_M_off
      rw [bnd_eq (by omega) (by omega), if_neg (by omega), bnd_eq (by omega) (by omega), hpp, eS']
      simp only [Option.bind_some]
      rw [hp.2.2.1, isReach_uniq hS' hS]
    have x1 := fr_O_off (eqo_rfl _ _) _ e1
    have x2 := fr_M_off (eqo_rfl _ _) _ e2
    exact same_upd e1 e2 ⟨T, Rel_try h x1 x2 rfl (fun i _ _ => x2 58 i rfl)⟩
/-! rings -/
def isRing (g : Nat → Nat → Nat) (p S : Nat) : Prop := S < 1024 ∧ ∀ v, v < 10 → (S.testBit v = true ↔ Rc g p v ∧ Rc g v p)
theorem isRing_uniq {g : Nat → Nat → Nat} {p S S' : Nat} (h : isRing g p S) (h' : isRing g p S') : S = S' := set_ext h.1 h'.1 fun v hv => (h.2 v hv).trans (h'.2 v hv).symm
theorem e_ringOf {f p : Nat} {M : oM} {g : Nat → Nat → Nat} (hf : 2000 < f) (hp : p < 10) (hg : gOf (M 7) g) : ∃ S : Nat, p_R_ringOf f p M = some ((S : Int), M) ∧ isRing g p S := by
  obtain ⟨R, eR, hR⟩ := e_reachedFrom (f := f) (o := 7) hf hp hg
  have hRl := hR.1
  have h : okp (p_R_ringOf f p M) (fun q => ∃ S : Nat, q = ((S : Int), M) ∧ isRing g p S) := by
    unfold p_R_ringOf
    rw [eR]
    simp only [Option.bind_some]
    refine for_ok 10 (fun k s => ∃ S : Nat, s = ((S : Int), (k : Int), M) ∧ S < 1024 ∧ ∀ v, v < 10 → (S.testBit v = true ↔ v < k ∧ Rc g p v ∧ Rc g v p)) ?_ ?_ f (by omega) ⟨0, rfl, by omega, fun v hv => ⟨fun z => (by rw [Nat.zero_testBit] at z; cases z), fun z => absurd z.1 (Nat.not_lt_zero _)⟩⟩
    · intro k s hk ⟨S, hs, h1, h2⟩
      subst hs
      unfold p_R_ringOf_L11 p_R_ringOf_B49_11
      simp only []
      rw [if_pos (by omega), bit_ask (by omega) (by omega)]
      simp only [lt_eq, w32_of (a := (k : Int) + 1) (by omega) (by omega)]
      have stay : ¬ (Rc g p k ∧ Rc g k p) → ∀ v, v < 10 → (S.testBit v = true ↔ v < k + 1 ∧ Rc g p v ∧ Rc g v p) := fun hno v hv => by
        rw [h2 v hv]
        constructor
        · intro ⟨a, b⟩; exact ⟨Nat.lt_succ_of_lt a, b⟩
        · intro ⟨a, b⟩
          rcases Nat.lt_or_ge v k with w | w
          · exact ⟨w, b⟩
          · have e := Nat.le_antisymm (Nat.le_of_lt_succ a) w
            exact absurd (e ▸ b) hno
      by_cases z : R.testBit k = true
      · rw [if_pos z, if_pos (by clear stay; omega)]
        obtain ⟨Q, eQ, hQ⟩ := e_reachedFrom (f := f) (o := 7) hf hk hg
        have hQl := hQ.1
        rw [eQ]
        simp only [Option.bind_some]
        rw [bit_ask (by clear stay; omega) (by clear stay; omega)]
        by_cases y : Q.testBit p = true
        · rw [if_pos y, if_pos (by clear stay; omega), ishl1 (by clear stay; omega), ior_nat (by clear stay; omega) (by clear stay; have := pow_lt10 hk; omega)]
          refine ⟨S ||| 2 ^ k, rfl, or_lt10 h1 (pow_lt10 hk), fun v hv => ?_⟩
          rw [or_bit, Bool.or_eq_true, h2 v hv, decide_eq_true_iff]
          constructor
          · rintro (⟨a, b⟩ | a)
            · exact ⟨Nat.lt_succ_of_lt a, b⟩
            · subst a; exact ⟨Nat.lt_succ_self _, (hR.2 k hk).1 z, (hQ.2 p hp).1 y⟩
          · intro ⟨a, b⟩
            rcases Nat.lt_or_ge v k with w | w
            · exact .inl ⟨w, b⟩
            · exact .inr (Nat.le_antisymm w (Nat.le_of_lt_succ a))
        · rw [if_neg y, if_neg (by clear stay; omega)]
          exact ⟨S, rfl, h1, stay fun b => y ((hQ.2 p hp).2 b.2)⟩
      · rw [if_neg z, if_neg (by clear stay; omega)]
        exact ⟨S, rfl, h1, stay fun b => z ((hR.2 k hk).2 b.1)⟩
    · intro s ⟨S, hs, h1, h2⟩
      subst hs
      unfold p_R_ringOf_L11
      simp only []
      rw [if_neg (by omega)]
      exact ⟨S, rfl, h1, fun v hv => (h2 v hv).trans ⟨fun a => a.2, fun a => ⟨hv, a⟩⟩⟩
  obtain ⟨q, eq, S, hq, h1⟩ := okp_ex h
  subst hq
  exact ⟨S, eq, h1⟩
/-- who is come to is told -/
theorem reach_told {T p : Nat} {g : Nat → Nat → Nat} (hT : ∀ a b, a < 10 → b < 10 → 0 < g a b → tld T a ∧ tld T b ∧ a ≠ b) (hp : tld T p) : ∀ v, Rc g p v → tld T v := Rc_ind (P := fun v => tld T v) hp (fun u v hu hv _ _ hg => (hT u v hu hv hg).2.1)
theorem e_M_ringOf {f p T : Nat} {M : oM} {g : Nat → Nat → Nat} (hf : 2000 < f) (hp : p < 10) (hg : gOf (M 58) g) (hT5 : M 57 5 = T) (hT' : T < 1024) (hT : ∀ a b, a < 10 → b < 10 → 0 < g a b → tld T a ∧ tld T b ∧ a ≠ b) (htp : tld T p) : ∃ S : Nat, ∃ M', p_M_ringOf f p M = some ((S : Int), M') ∧ isRing g p S ∧ eqo [(82, (-1))] M M' := by
  obtain ⟨R, M1, eR, hR, f1⟩ := e_M_reachOf (f := f) hf hp hg
  have hRl := hR.1
  have h : okp (p_M_ringOf f p M) (fun q => ∃ S : Nat, q.1 = (S : Int) ∧ isRing g p S) := by
    unfold p_M_ringOf
    rw [eR]
    simp only [Option.bind_some]
    refine for_ok 10 (fun k s => ∃ S : Nat, ∃ N : oM, s = ((S : Int), (k : Int), N) ∧ eqo [(82, (-1))] M N ∧ S < 1024 ∧ ∀ v, v < 10 → (S.testBit v = true ↔ v < k ∧ Rc g p v ∧ Rc g v p)) ?_ ?_ f (by omega) ⟨0, M1, rfl, f1, by omega, fun v hv => ⟨fun z => (by rw [Nat.zero_testBit] at z; cases z), fun z => absurd z.1 (Nat.not_lt_zero _)⟩⟩
    · intro k s hk ⟨S, N, hs, f2, h1, h2⟩
      subst hs
      unfold p_M_ringOf_L11 p_M_ringOf_B56_11
      simp only []
      rw [if_pos (by omega), e_M_isPerson (T := T) (by rw [f2 57 5 rfl]; exact hT5) hT']
      simp only [Option.bind_some, lt_eq, w32_of (a := (k : Int) + 1) (by omega) (by omega)]
      have n10 : ¬ (1 : Int) = 0 := by decide
      have k32 : k < 32 := by omega
      have R31 : R < 2147483648 := by omega
      have p32 : p < 32 := by omega
      have hkk := pow_lt10 hk
      have sh1 : ishl 1 (k : Int) = ((2 ^ k : Nat) : Int) := ishl1 (by omega)
      have or1 : ior (S : Int) ((2 ^ k : Nat) : Int) = ((S ||| 2 ^ k : Nat) : Int) := ior_nat (by omega) (by omega)
      have stay : ¬ (Rc g p k ∧ Rc g k p) → ∀ v, v < 10 → (S.testBit v = true ↔ v < k + 1 ∧ Rc g p v ∧ Rc g v p) := fun hno v hv => by
        rw [h2 v hv]
        constructor
        · intro ⟨a, b⟩; exact ⟨Nat.lt_succ_of_lt a, b⟩
        · intro ⟨a, b⟩
          rcases Nat.lt_or_ge v k with w | w
          · exact ⟨w, b⟩
          · have e := Nat.le_antisymm (Nat.le_of_lt_succ a) w
            exact absurd (e ▸ b) hno
      cases htk : tldb T (k : Int) with
      | false =>
        rw [b01_f, if_pos rfl]
        refine ⟨S, N, rfl, f2, h1, stay fun b => ?_⟩
        have := reach_told hT htp k b.1
        unfold tld at this
        rw [htk] at this; cases this
      | true =>
        rw [b01_t, if_neg n10, e_M_has R31 k32]
        simp only [Option.bind_some]
        cases z : R.testBit k with
        | false =>
          rw [b01_f, if_pos rfl]
          exact ⟨S, N, rfl, f2, h1, stay fun b => by have := (hR.2 k hk).2 b.1; rw [z] at this; cases this⟩
        | true =>
          rw [b01_t, if_neg n10]
          have hg2 : gOf (N 58) g := by rw [eqo_a f2 58 rfl]; exact hg
          obtain ⟨Q, N2, eQ, hQ, f3⟩ := e_M_reachOf (f := f) hf hk hg2
          have hQl := hQ.1
          have f4 := eqo_self f2 f3
          rw [eQ]
          simp only [Option.bind_some]
          rw [e_M_has (Nat.lt_trans hQl (by decide)) p32]
          simp only [Option.bind_some]
          cases y : Q.testBit p with
          | false =>
            rw [b01_f, if_pos rfl]
            exact ⟨S, N2, rfl, f4, h1, stay fun b => by have := (hQ.2 p hp).2 b.2; rw [y] at this; cases this⟩
          | true =>
            rw [b01_t, if_neg n10, sh1, or1]
            refine ⟨S ||| 2 ^ k, N2, rfl, f4, or_lt10 h1 hkk, fun v hv => ?_⟩
            rw [or_bit, Bool.or_eq_true, h2 v hv, decide_eq_true_iff]
            constructor
            · rintro (⟨a, b⟩ | a)
              · exact ⟨Nat.lt_succ_of_lt a, b⟩
              · subst a; exact ⟨Nat.lt_succ_self _, (hR.2 k hk).1 z, (hQ.2 p hp).1 y⟩
            · intro ⟨a, b⟩
              rcases Nat.lt_or_ge v k with w | w
              · exact .inl ⟨w, b⟩
              · exact .inr (Nat.le_antisymm w (Nat.le_of_lt_succ a))
    · intro s ⟨S, N, hs, f2, h1, h2⟩
      subst hs
      unfold p_M_ringOf_L11
      simp only []
      rw [if_neg (by omega)]
      exact ⟨S, rfl, h1, fun v hv => (h2 v hv).trans ⟨fun a => a.2, fun a => ⟨hv, a⟩⟩⟩
  obtain ⟨q, eq, S, h1, h2⟩ := okp_ex h
  obtain ⟨r, M'⟩ := q
  simp only at h1
  subst h1
  exact ⟨S, M', eq, h2, fr_M_ringOf (eqo_rfl _ _) _ eq⟩
