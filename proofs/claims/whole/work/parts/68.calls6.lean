/-! wedding, dry -/
theorem or_bit {s r p : Nat} : (s ||| 2 ^ r).testBit p = (s.testBit p || decide (r = p)) := by
  rw [Nat.testBit_or, Nat.testBit_two_pow]
/-- the day's arrivals: both were there -/
def wdI (b : oM) (T : Nat) (c n : Int) (p q : Nat) (m : Nat) (s : Int × Int × Int × oM) (s' : Int × Int × Int × oM) : Prop :=
  ∃ dP dQ k : Int, ∃ N M : oM, ∃ sn : Nat, s = (dP, dQ, k, N) ∧ s' = (-2, (sn : Int), k, M) ∧ (m : Int) = n - k ∧ 0 ≤ k ∧ tkR T (240 * c + k) 14 N M ∧ sn < 1024 ∧ (∀ i, M 59 i = b 59 i) ∧
    (dP ≤ M 58 156 ∧ dQ ≤ M 58 156) ∧ (M 58 155 = 0 → dP < M 58 156 ∧ dQ < M 58 156) ∧ (M 58 155 ≠ 0 → (sn.testBit p = true ↔ dP = M 58 156) ∧ (sn.testBit q = true ↔ dQ = M 58 156))
theorem wed_step {f T : Nat} {c n : Int} {p q m : Nat} {b Mr : oM} {s s' : Int × Int × Int × oM} (hf : 2000 < f) (hc0 : c ≤ 512) (hn : 1 ≤ n ∧ n ≤ 240) (hp9 : p < 10) (hq9 : q < 10) (hpq : p ≠ q) (hb59 : ∀ i : Int, 0 ≤ i → i < 159 → b 59 i = Mr 58 i) (hI : wdI b T c n p q m s s') :
    okp (p_O_wedding_L41 f p q n s) (psum (fun a => okp (p_M_wedding_L47 f p q n s') (fun y' => ∃ b', y' = .inl b' ∧ ∃ m', m' < m ∧ wdI b T c n p q m' a b')) (fun r => ∀ f', 2 < f' → okp (iter (p_M_wedding_L47 f p q n) f' s') (fun r' => r.1 = r'.1 ∧ ∀ i : Int, 0 ≤ i → i < 159 → r'.2 58 i = Mr 58 i))) := by
  obtain ⟨dP, dQ, k, N, M, sn, rfl, rfl, i1, i2, i3, i4, i5, i6, i7, i8⟩ := hI
  have hb2 := rOk_hour i3.2.2.2
  have h59 : ∀ M2 : oM, (∀ i, M2 59 i = b 59 i) → ∀ i : Int, 0 ≤ i → i < 159 → M2 59 i = Mr 58 i := fun M2 hM i i0 i1 => by rw [hM i]; exact hb59 i i0 i1
  have d9 := (dC_hour i3.2.2.1).2
  unfold p_O_wedding_L41
  simp only []
  by_cases hend : k < n
  · rw [if_pos hend, d9, lt_eq]
    obtain ⟨a2, ea2, ha2⟩ := okp_ex (tick_hour (f := f) (P := False) hf (by omega) (.inr rfl) i3 (fun z => z.elim))
    obtain ⟨b2, eb2, g3, -, g4, g5⟩ := okp_ex ha2
    have x59 := fr_M_hourGoes (eqo_rfl _ _) _ eb2
    have h59b : ∀ i, b2.2 59 i = b 59 i := fun i => (x59 59 i rfl).trans (i5 i)
    have hb3 := rOk_hour g3.2.2.2
    rw [ea2]
    simp only [Option.bind_some]
    -- what the class tells, dP1 and dQ1, and what the reference has seen, s1
    have hs0 : ∃ s0 : Nat, s0 < 1024 ∧ (if M 58 155 = 0 then (0 : Int) else sn) = (s0 : Int) ∧ (s0.testBit p = true ↔ dP = M 58 156) ∧ (s0.testBit q = true ↔ dQ = M 58 156) := by
      by_cases z : M 58 155 = 0
      · refine ⟨0, by omega, by rw [if_pos z]; rfl, ?_, ?_⟩
        · rw [Nat.zero_testBit]; have := (i7 z).1; constructor
          · intro y; cases y
          · intro y; omega
        · rw [Nat.zero_testBit]; have := (i7 z).2; constructor
          · intro y; cases y
          · intro y; omega
      · exact ⟨sn, i4, by rw [if_neg z], (i8 z).1, (i8 z).2⟩
    obtain ⟨s0, hs0a, hs0b, hs0p, hs0q⟩ := hs0
    have href : ∀ y, p_M_wedding_B98_47 f p q n (-2) (s0 : Int) k (M 58 156) M = y → p_M_wedding_L47 f p q n (-2, (sn : Int), k, M) = y := by
      intro y hy
      unfold p_M_wedding_L47
      simp only []
      rw [if_pos hend, bnd_eq (by omega) (by omega), if_pos (by omega), if_pos trivial, bnd_eq (by omega) (by omega), lt_eq, bnd_eq (by omega) (by omega)]
      rw [← hy, ← hs0b]
      by_cases z : M 58 155 = 0
      · rw [if_pos z, if_pos z]
      · rw [if_neg z, if_neg z]
    -- the end of an hour, by both
    have fin : ∀ (e1 e2 : Int) (s1 : Nat), s1 < 1024 → (s1.testBit p = true ↔ e1 = M 58 156) → (s1.testBit q = true ↔ e2 = M 58 156) → (e1 ≤ M 58 156 ∧ e2 ≤ M 58 156) → p_M_wedding_B98_47 f p q n (-2) (s0 : Int) k (M 58 156) M = p_M_wedding_B120_47 f p q n (-2) (s1 : Int) k (M 58 156) b2.2 →
        okp (p_O_wedding_B100_41 f p q n e1 e2 k (M 58 156) a2.2) (psum (fun a => okp (p_M_wedding_L47 f p q n (-2, (sn : Int), k, M)) (fun y' => ∃ b', y' = .inl b' ∧ ∃ m', m' < m ∧ wdI b T c n p q m' a b')) (fun r => ∀ f', 2 < f' → okp (iter (p_M_wedding_L47 f p q n) f' (-2, (sn : Int), k, M)) (fun r' => r.1 = r'.1 ∧ ∀ i : Int, 0 ≤ i → i < 159 → r'.2 58 i = Mr 58 i))) := by
      intro e1 e2 s1 h1 h2 h3 h4 h5
      have hnext : ∀ y, (s1.testBit p = false ∨ s1.testBit q = false) → p_M_wedding_B120_47 f p q n (-2) (s1 : Int) k (M 58 156) b2.2 = some (.inl (-2, (s1 : Int), k + 1, b2.2)) ∧ wdI b T c n p q y (e1, e2, k + 1, a2.2) (-2, (s1 : Int), k + 1, b2.2) ∨ ¬ ((y : Int) = n - (k + 1)) := by
        intro y hno
        by_cases hy : (y : Int) = n - (k + 1)
        · left
          refine ⟨?_, e1, e2, k + 1, a2.2, b2.2, s1, rfl, rfl, hy, by omega, by rw [show 240 * c + (k + 1) = 240 * c + k + 1 from by omega]; exact g3, h1, h59b, ?_, ?_, ?_⟩
          · unfold p_M_wedding_B120_47 p_M_wedding_B142_47
            rw [e_M_has (by omega) (by omega)]
            simp only [Option.bind_some]
            rcases hno with z | z
            · rw [z, b01_f, if_pos rfl, lt_eq, w32_of (by omega) (by omega)]
            · cases hz : s1.testBit p with
              | false => rw [b01_f, if_pos rfl, lt_eq, w32_of (by omega) (by omega)]
              | true =>
                rw [b01_t, if_neg (by omega), e_M_has (by omega) (by omega), z]
                simp only [Option.bind_some]
                rw [b01_f, if_pos rfl, lt_eq, w32_of (by omega) (by omega)]
          · by_cases z : M 58 155 + 1 < 24
            · rw [(g5.1 z).2]; exact h4
            · rw [(g5.2 z).2]; omega
          · intro z0
            by_cases z : M 58 155 + 1 < 24
            · have := (g5.1 z).1; omega
            · rw [(g5.2 z).2]; omega
          · intro z0
            by_cases z : M 58 155 + 1 < 24
            · rw [(g5.1 z).2]; exact ⟨h2, h3⟩
            · exact absurd (g5.2 z).1 z0
        · exact .inr hy
      unfold p_O_wedding_B100_41 p_O_wedding_B117_41
      by_cases z1 : e1 = M 58 156
      · rw [if_pos z1]
        by_cases z2 : e2 = M 58 156
        · rw [if_pos z2]
          intro f' hf'
          obtain ⟨z, ez, hz, -⟩ := try_end (f := f) (M := Mr) (N := b2.2) (by omega) (h59 b2.2 h59b)
          have s3 : p_M_wedding_L47 f p q n (-2, (sn : Int), k, M) = some (.inl (M 58 156, (s1 : Int), k + 1, b2.2)) := by
            refine href _ ?_
            rw [h5]
            unfold p_M_wedding_B120_47 p_M_wedding_B142_47
            rw [e_M_has (by omega) (by omega), h2.2 z1]
            simp only [Option.bind_some]
            rw [b01_t, if_neg (by omega), e_M_has (by omega) (by omega), h3.2 z2]
            simp only [Option.bind_some]
            rw [b01_t, if_neg (by omega), lt_eq, w32_of (by omega) (by omega)]
          have s4 : p_M_wedding_L47 f p q n (M 58 156, (s1 : Int), k + 1, b2.2) = some (.inr (M 58 156, z.2)) := by
            unfold p_M_wedding_L47 p_M_wedding_B148_47
            simp only []
            rw [ez]
            simp only [Option.bind_some]
            rw [bnd_eq (by omega) (by omega), if_neg (c := M 58 156 = -2) (by omega), ite_self, ite_self]
          rw [show f' = f' - 2 + 1 + 1 from by omega, iter_inl s3, iter_inr s4]
          exact ⟨rfl, hz⟩
        · rw [if_neg z2, lt_eq, w32_of (by omega) (by omega)]
          have hno : s1.testBit q = false := by
            cases hz : s1.testBit q with
            | false => rfl
            | true => exact absurd (h3.1 hz) z2
          rcases hnext (m - 1) (.inr hno) with ⟨w1, w2⟩ | w
          · exact okp_eq (href _ (h5.trans w1)) ⟨_, rfl, m - 1, by omega, w2⟩
          · exact absurd (show ((m - 1 : Nat) : Int) = n - (k + 1) by omega) w
      · rw [if_neg z1, lt_eq, w32_of (by omega) (by omega)]
        have hno : s1.testBit p = false := by
          cases hz : s1.testBit p with
          | false => rfl
          | true => exact absurd (h2.1 hz) z1
        rcases hnext (m - 1) (.inl hno) with ⟨w1, w2⟩ | w
        · exact okp_eq (href _ (h5.trans w1)) ⟨_, rfl, m - 1, by omega, w2⟩
        · exact absurd (show ((m - 1 : Nat) : Int) = n - (k + 1) by omega) w
    -- who arrived
    rcases g4.2 with hr | hr
    · have ha5 : a2.2 41 5 = -1 := by rw [g4.1, hr]; rfl
      rw [if_neg (by omega), if_neg (by omega)]
      refine fin dP dQ s0 hs0a hs0p hs0q i6 ?_
      unfold p_M_wedding_B98_47
      rw [eb2]
      simp only [Option.bind_some]
      rw [if_pos (by omega)]
    · obtain ⟨r, hr2⟩ : ∃ r : Nat, b2.2 57 35 = r := ⟨(b2.2 57 35).toNat, by omega⟩
      have hr9 : r < 10 := by omega
      have h2r : 2 ^ r < 2 ^ 10 := Nat.pow_lt_pow_right (by omega) hr9
      have ha5 : a2.2 41 5 = (r : Int) := by rw [g4.1, hr2]; unfold p21; rw [if_neg (by omega)]
      have hB : p_M_wedding_B98_47 f p q n (-2) (s0 : Int) k (M 58 156) M = p_M_wedding_B120_47 f p q n (-2) ((s0 ||| 2 ^ r : Nat) : Int) k (M 58 156) b2.2 := by
        unfold p_M_wedding_B98_47
        rw [eb2]
        simp only [Option.bind_some]
        rw [if_neg (by omega), lt_eq, hr2, ishl1 (by omega), ior_nat (by omega) (by omega)]
      have hlt : s0 ||| 2 ^ r < 1024 := Nat.or_lt_two_pow (n := 10) hs0a h2r
      rw [ha5]
      by_cases zp : r = p
      · rw [if_pos (by omega)]
        refine fin (M 58 156) dQ _ hlt ?_ ?_ ⟨Int.le_refl _, i6.2⟩ hB
        · rw [or_bit]; simp [zp]
        · rw [or_bit, ← hs0q]; simp [show ¬ r = q by omega]
      · rw [if_neg (by omega)]
        by_cases zq : r = q
        · rw [if_pos (by omega)]
          refine fin dP (M 58 156) _ hlt ?_ ?_ ⟨i6.1, Int.le_refl _⟩ hB
          · rw [or_bit, ← hs0p]; simp [zp]
          · rw [or_bit]; simp [zq]
        · rw [if_neg (by omega)]
          refine fin dP dQ _ hlt ?_ ?_ i6 hB
          · rw [or_bit, ← hs0p]; simp [zp]
          · rw [or_bit, ← hs0q]; simp [zq]
  · rw [if_neg hend]
    intro f' hf'
    obtain ⟨z, ez, hz, -⟩ := try_end (f := f) (M := Mr) (N := M) (by omega) (h59 M i5)
    rw [show f' = f' - 1 + 1 from by omega, iter_inr (r := (-2, z.2))]
    · exact ⟨rfl, hz⟩
    · unfold p_M_wedding_L47 p_M_wedding_B148_47
      simp only []
      rw [if_neg hend, ez]
      rfl
theorem call_wedding {f T : Nat} {c p q n : Int} {Mc Mr : oM} (hf : 2000 < f) (hc0 : c ≤ 512) (h : Rel T c Mc Mr) : Same f c (p_O_wedding f p q n Mc) (p_M_wedding f p q n Mr) := by
  obtain ⟨hp, hd, ho, -⟩ := id h
  cases hb : (!decide (p = q) && (tldb T p && tldb T q))
  · refine same_some (r := -1) h ?_ ?_
    · unfold p_O_wedding
      rw [e_P_hasBoth hp.2.1 hp.1, hb]
      simp (disch := omega) only [bnd_eq, nz_eq, lt_eq, if_pos, if_neg, w32_of, if_true, if_false, not_true_eq_false, not_false_eq_true, Option.bind_some, oU_at, oU_o, oU_i, b01_t, b01_f]
    · unfold p_M_wedding
      rw [e_M_areTwo hp.2.2.1 hp.1, hb]
      simp (disch := omega) only [bnd_eq, nz_eq, lt_eq, if_pos, if_neg, w32_of, if_true, if_false, not_true_eq_false, not_false_eq_true, Option.bind_some, oU_at, oU_o, oU_i, b01_t, b01_f]
  have hb1 := hb
  simp only [Bool.and_eq_true] at hb1
  have hpr := tldb_rng hb1.2.1
  have hqr := tldb_rng hb1.2.2
  have hpq : p ≠ q := by simpa using hb1.1
  by_cases hn : 1 ≤ n ∧ n ≤ 240
  · obtain ⟨a, b, ea, eb, g1, g2, f1, f2⟩ := try_start (f := f) (by omega) h
    have hb0 := rOk_hour g1.2.2.2
    obtain ⟨p, rfl⟩ : ∃ k : Nat, p = k := ⟨p.toNat, by omega⟩
    obtain ⟨q, rfl⟩ : ∃ k : Nat, q = k := ⟨q.toNat, by omega⟩
    have e1 : p_O_wedding f p q n Mc = iter (p_O_wedding_L41 f p q n) f (-1, -1, 0, a.2) := by
      unfold p_O_wedding
      rw [e_P_hasBoth hp.2.1 hp.1, hb]
      simp only [Option.bind_some]
      rw [b01_t, if_neg (by omega), e_O_areHours, in_t hn]
      simp only [Option.bind_some]
      rw [b01_t, if_neg (by omega), ea]
      simp only [Option.bind_some]
    have e2 : p_M_wedding f p q n Mr = iter (p_M_wedding_L47 f p q n) f (-2, 0, 0, oU (oU (oU b.2 57 32 0) 57 33 0) 57 34 0) := by
      unfold p_M_wedding
      rw [e_M_areTwo hp.2.2.1 hp.1, hb]
      simp only [Option.bind_some]
      rw [b01_t, if_neg (by omega), e_M_in, in_t hn]
      simp only [Option.bind_some]
      rw [b01_t, if_neg (by omega), eb]
      simp only [Option.bind_some, p_M_begins, lt_eq]
    have hR1 : tkR T (240 * c) 14 a.2 (oU (oU (oU b.2 57 32 0) 57 33 0) 57 34 0) := by
      refine ⟨pplR_eqo g1.1 (eqo_rfl [] _) (eqo_oU (ws := [(57, 32), (57, 33), (57, 34)]) (.tail _ (.tail _ (.head _))) (eqo_oU (.tail _ (.head _)) (eqo_oU (.head _) (eqo_rfl _ _)))) rfl, lawR_eqo g1.2.1 (eqo_rfl [] _) (eqo_oU (ws := [(57, 32), (57, 33), (57, 34)]) (.tail _ (.tail _ (.head _))) (eqo_oU (.tail _ (.head _)) (eqo_oU (.head _) (eqo_rfl _ _)))) rfl, ?_⟩
      unfold dR
      rw [oU_row (o' := 58) (by omega), oU_row (o' := 58) (by omega), oU_row (o' := 58) (by omega)]
      exact g1.2.2
    have e58 : ∀ i, oU (oU (oU b.2 57 32 0) 57 33 0) 57 34 0 58 i = b.2 58 i := fun i => by simp (disch := omega) only [oU_o]
    have x155 := e58 155
    have x156 := e58 156
    have key : okp (iter (p_O_wedding_L41 f p q n) f (-1, -1, 0, a.2)) (fun r => okp (iter (p_M_wedding_L47 f p q n) f (-2, 0, 0, oU (oU (oU b.2 57 32 0) 57 33 0) 57 34 0)) (fun r' => r.1 = r'.1 ∧ ∀ i : Int, 0 ≤ i → i < 159 → r'.2 58 i = Mr 58 i)) := by
      refine iter2x_ok (wdI b.2 T c n p q) 2 (fun m s s' hI => wed_step hf hc0 hn (by omega) (by omega) (by omega) g2 hI) n.toNat f f (by omega) (by omega) ?_
      refine ⟨-1, -1, 0, a.2, oU (oU (oU b.2 57 32 0) 57 33 0) 57 34 0, 0, rfl, rfl, by omega, by omega, by rw [Int.add_zero]; exact hR1, by omega, fun i => by simp (disch := omega) only [oU_o], ?_, ?_, ?_⟩
      · omega
      · intro _; omega
      · intro _
        rw [Nat.zero_testBit, Nat.zero_testBit]
        constructor
        · constructor
          · intro z; cases z
          · intro z; omega
        · constructor
          · intro z; cases z
          · intro z; omega
    obtain ⟨r, er, hr3⟩ := okp_ex key
    obtain ⟨r', er', k1, k2⟩ := okp_ex hr3
    have e1' : p_O_wedding f p q n Mc = some (r.1, r.2) := e1.trans er
    have e2' : p_M_wedding f p q n Mr = some (r.1, r'.2) := by rw [k1]; exact e2.trans er'
    have x1 := fr_O_wedding (eqo_rfl _ _) _ e1'
    have x2 := fr_M_wedding (eqo_rfl _ _) _ e2'
    exact same_upd e1' e2' ⟨T, Rel_try h x1 x2 rfl k2⟩
  · refine same_some (r := -1) h ?_ ?_
    · unfold p_O_wedding
      rw [e_P_hasBoth hp.2.1 hp.1, hb]
      simp only [Option.bind_some]
      rw [b01_t, if_neg (by omega), e_O_areHours, in_f hn]
      simp (disch := omega) only [bnd_eq, nz_eq, lt_eq, if_pos, if_neg, w32_of, if_true, if_false, not_true_eq_false, not_false_eq_true, Option.bind_some, oU_at, oU_o, oU_i, b01_t, b01_f]
    · unfold p_M_wedding
      rw [e_M_areTwo hp.2.2.1 hp.1, hb]
      simp only [Option.bind_some]
      rw [b01_t, if_neg (by omega), e_M_in, in_f hn]
      simp (disch := omega) only [bnd_eq, nz_eq, lt_eq, if_pos, if_neg, w32_of, if_true, if_false, not_true_eq_false, not_false_eq_true, Option.bind_some, oU_at, oU_o, oU_i, b01_t, b01_f]
