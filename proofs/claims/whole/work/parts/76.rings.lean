/-! the call rings; tour -/
theorem low_bits {S p : Nat} (hS : S < 1024) (hp : p < 10) : iand (S : Int) (w32 (ishl 1 (p : Int) - 1)) = 0 ↔ ∀ v, v < p → S.testBit v = false := by
  have h1 : ishl 1 (p : Int) = ((2 ^ p : Nat) : Int) := ishl1 (by omega)
  have h2 := pow_lt10 hp
  have h3 : 0 < 2 ^ p := Nat.two_pow_pos p
  have h4 : w32 (((2 ^ p : Nat) : Int) - 1) = ((2 ^ p - 1 : Nat) : Int) := by rw [w32_of (by omega) (by omega)]; omega
  rw [h1, h4, iand_nat (by omega)]
  constructor
  · intro h v hv
    have e : S &&& (2 ^ p - 1) = 0 := by omega
    have := congrArg (fun x => Nat.testBit x v) e
    simp only [Nat.testBit_and, Nat.testBit_two_pow_sub_one, Nat.zero_testBit, hv, decide_true, Bool.and_true] at this
    exact this
  · intro h
    have e : S &&& (2 ^ p - 1) = 0 := by
      refine Nat.eq_of_testBit_eq fun i => ?_
      rw [Nat.testBit_and, Nat.testBit_two_pow_sub_one, Nat.zero_testBit]
      by_cases q : i < p
      · rw [h i q]; rfl
      · simp [q]
    rw [e]; rfl
theorem Rc_trans {g : Nat → Nat → Nat} {a b : Nat} (h1 : Rc g a b) : ∀ {v : Nat}, Rc g b v → Rc g a v := fun {v} h2 => Rc_ind (P := fun v => Rc g a v) h1 (fun _ _ hu hv _ h3 h4 => Rc_step h3 hu hv h4) v h2
theorem call_rings {f T : Nat} {c what : Int} {Mc Mr : oM} (hf : 2000 < f) (h : Rel T c Mc Mr) : Same f c (p_O_rings f what Mc) (p_M_rings f what Mr) := by
  obtain ⟨hp, hd, ho, -⟩ := id h
  obtain ⟨g, g1, g2, g3, g4⟩ := Rel_g h
  have hTl := hp.1
  by_cases hw : what = 100
  · have hloop : okp (iter (p_O_rings_L37 f) f (0, 0, Mc)) (fun q => okp (iter (p_M_rings_L34 f) f (Mr 57 5, 0, 0, Mr)) (fun q' => q.1 = q'.1)) := by
      refine for2_ok 10 (fun k s s' => ∃ n : Nat, ∃ L : Nat, ∃ N : oM, s = ((n : Int), (k : Int), Mc) ∧ s' = ((L : Int), (n : Int), (k : Int), N) ∧ eqo [(82, (-1))] Mr N ∧ n ≤ k ∧ L < 1024 ∧ ∀ v, v < 10 → (L.testBit v = true ↔ T.testBit v = true ∧ ∀ u, u < k → T.testBit u = true → ¬ (Rc g u v ∧ Rc g v u))) ?_ ?_ f f (by omega) (by omega) ⟨0, T, Mr, rfl, by rw [hp.2.2.1]; rfl, eqo_rfl _ _, Nat.le_refl _, hTl, fun v hv => ⟨fun z => ⟨z, fun u hu => absurd hu (Nat.not_lt_zero _)⟩, fun z => z.1⟩⟩
      · intro k s s' hk ⟨n, L, N, hs, hs', f2, hn, hL, hLb⟩
        subst hs; subst hs'
        have k32 : k < 32 := by omega
        have L31 : L < 2147483648 := by omega
        have n10 : ¬ (1 : Int) = 0 := by decide
        have wk : w32 ((k : Int) + 1) = ((k + 1 : Nat) : Int) := by rw [w32_of (by omega) (by omega)]; omega
        have wn : w32 ((n : Int) + 1) = ((n + 1 : Nat) : Int) := by rw [w32_of (by omega) (by omega)]; omega
        have c10 : (k : Int) < 10 := by omega
        have htld : tldb T (k : Int) = T.testBit k := by
          unfold tldb
          have e1 : decide ((0 : Int) ≤ k) = true := decide_eq_true (by omega)
          have e2 : decide ((k : Int) < 10) = true := decide_eq_true c10
          rw [e1, e2]; rfl
        unfold p_O_rings_L37 p_M_rings_L34 p_O_rings_B77_37 p_M_rings_B68_34
        simp only []
        rw [if_pos c10, if_pos c10, e_P_has hp.2.1 hp.1, e_M_has L31 k32]
        simp only [Option.bind_some, lt_eq, wk]
        cases ht : T.testBit k with
        | false =>
          have hLk : L.testBit k = false := by
            cases hz : L.testBit k with
            | false => rfl
            | true => have := ((hLb k hk).1 hz).1; rw [ht] at this; cases this
          rw [htld, ht, hLk, b01_f, if_pos rfl, if_pos rfl]
          refine ⟨n, L, N, rfl, rfl, f2, Nat.le_succ_of_le hn, hL, fun v hv => ?_⟩
          rw [hLb v hv]
          constructor
          · intro ⟨a, b⟩
            refine ⟨a, fun u hu hu2 => ?_⟩
            rcases Nat.lt_or_ge u k with w | w
            · exact b u w hu2
            · rw [Nat.le_antisymm (Nat.le_of_lt_succ hu) w, ht] at hu2; cases hu2
          · intro ⟨a, b⟩
            exact ⟨a, fun u hu hu2 => b u (Nat.lt_succ_of_lt hu) hu2⟩
        | true =>
          have htk : tld T (k : Int) := by unfold tld; rw [htld]; exact ht
          rw [htld, ht, b01_t, if_neg n10]
          obtain ⟨S, eS, hS⟩ := e_ringOf (f := f) hf hk g2
          have hSl := hS.1
          rw [eS]
          simp only [Option.bind_some]
          have hlow := low_bits hSl hk
          -- nobody lower in its ring: the ring is counted here
          have hcnt : (∀ v, v < k → S.testBit v = false) ↔ L.testBit k = true := by
            rw [hLb k hk]
            constructor
            · intro a
              refine ⟨ht, fun u hu hu2 hr => ?_⟩
              have := (hS.2 u (Nat.lt_trans hu hk)).2 ⟨hr.2, hr.1⟩
              rw [a u hu] at this; cases this
            · intro ⟨_, b⟩ v hv
              cases hz : S.testBit v with
              | false => rfl
              | true =>
                have hr := (hS.2 v (Nat.lt_trans hv hk)).1 hz
                have htv := reach_told g4 htk v hr.1
                have htv2 : T.testBit v = true := by
                  have := (tld_iff.1 htv).2.2
                  rw [show ((v : Int)).toNat = v from by omega] at this
                  exact this
                exact absurd ⟨hr.2, hr.1⟩ (b v hv htv2)
          cases hLk : L.testBit k with
          | false =>
            have hno : ¬ iand (S : Int) (w32 (ishl 1 (k : Int) - 1)) = 0 := fun z => by
              have := hcnt.1 (hlow.1 z)
              rw [hLk] at this; cases this
            rw [if_neg hno, b01_f, if_pos rfl]
            refine ⟨n, L, N, rfl, rfl, f2, Nat.le_succ_of_le hn, hL, fun v hv => ?_⟩
            rw [hLb v hv]
            constructor
            · intro ⟨a, b⟩
              refine ⟨a, fun u hu hu2 hr => ?_⟩
              rcases Nat.lt_or_ge u k with w | w
              · exact b u w hu2 hr
              · have e := Nat.le_antisymm (Nat.le_of_lt_succ hu) w
                subst e
                -- somebody lower is in u's ring, and so in v's
                have hex : ∃ x, x < u ∧ S.testBit x = true := by
                  by_cases y : ∃ x, x < u ∧ S.testBit x = true
                  · exact y
                  · exfalso
                    have : L.testBit u = true := hcnt.1 fun x hx => by
                      cases hz : S.testBit x with
                      | false => rfl
                      | true => exact absurd ⟨x, hx, hz⟩ y
                    rw [hLk] at this; cases this
                obtain ⟨x, hx, hx2⟩ := hex
                have hr2 := (hS.2 x (Nat.lt_trans hx hk)).1 hx2
                have htx := reach_told g4 htk x hr2.1
                have htx2 : T.testBit x = true := by
                  have := (tld_iff.1 htx).2.2
                  rw [show ((x : Int)).toNat = x from by omega] at this
                  exact this
                exact b x hx htx2 ⟨Rc_trans hr2.2 hr.1, Rc_trans hr.2 hr2.1⟩
            · intro ⟨a, b⟩
              exact ⟨a, fun u hu hu2 => b u (Nat.lt_succ_of_lt hu) hu2⟩
          | true =>
            rw [if_pos (hlow.2 (hcnt.2 hLk)), b01_t, if_neg n10]
            obtain ⟨S', N', eS', hS', fS⟩ := e_M_ringOf (f := f) (M := N) (T := T) hf hk (by rw [eqo_a f2 58 rfl]; exact g1) (by rw [f2 57 5 rfl]; exact hp.2.2.1) hp.1 g4 htk
            rw [eS']
            simp only [Option.bind_some]
            rw [isRing_uniq hS' hS, andn_nat L31, wn]
            refine ⟨n + 1, L ^^^ (L &&& S), N', rfl, rfl, eqo_self f2 fS, Nat.succ_le_succ hn, andn_lt hL, fun v hv => ?_⟩
            rw [andn_bit, Bool.and_eq_true, hLb v hv]
            constructor
            · intro ⟨⟨a, b⟩, d⟩
              refine ⟨a, fun u hu hu2 hr => ?_⟩
              rcases Nat.lt_or_ge u k with w | w
              · exact b u w hu2 hr
              · rw [Nat.le_antisymm (Nat.le_of_lt_succ hu) w] at hr
                rw [(hS.2 v hv).2 hr] at d; cases d
            · intro ⟨a, b⟩
              refine ⟨⟨a, fun u hu hu2 => b u (Nat.lt_succ_of_lt hu) hu2⟩, ?_⟩
              cases hz : S.testBit v with
              | false => rfl
              | true => exact absurd ((hS.2 v hv).1 hz) (b k (Nat.lt_succ_self _) ht)
      · intro s s' ⟨n, L, N, hs, hs', f2, hn, hL, hLb⟩
        subst hs; subst hs'
        unfold p_O_rings_L37 p_M_rings_L34
        simp only []
        rw [if_neg (by decide), if_neg (by decide)]
        exact rfl
    obtain ⟨q, eq, hq⟩ := okp_ex hloop
    obtain ⟨q', eq', hq'⟩ := okp_ex hq
    have e1 : p_O_rings f what Mc = some (q.1, q.2) := by
      unfold p_O_rings
      rw [if_pos hw]
      exact eq
    have e2 : p_M_rings f what Mr = some (q.1, q'.2) := by
      unfold p_M_rings
      rw [if_pos hw, lt_eq, hq']
      exact eq'
    have x1 := fr_O_rings (eqo_rfl _ _) _ e1
    have x2 := fr_M_rings (eqo_rfl _ _) _ e2
    exact same_upd e1 e2 ⟨T, Rel_try h x1 x2 rfl (fun i _ _ => x2 58 i rfl)⟩
  · cases hb : tldb T what
    · refine same_some (r := -1) h ?_ ?_
      · unfold p_O_rings
        rw [if_neg hw, e_P_has hp.2.1 hp.1, hb]
        simp (disch := omega) only [bnd_eq, nz_eq, lt_eq, if_pos, if_neg, w32_of, if_true, if_false, not_true_eq_false, not_false_eq_true, Option.bind_some, oU_at, oU_o, oU_i, b01_t, b01_f]
      · unfold p_M_rings
        rw [if_neg hw, e_M_isPerson hp.2.2.1 hp.1, hb]
        simp (disch := omega) only [bnd_eq, nz_eq, lt_eq, if_pos, if_neg, w32_of, if_true, if_false, not_true_eq_false, not_false_eq_true, Option.bind_some, oU_at, oU_o, oU_i, b01_t, b01_f]
    · have hr := tldb_rng hb
      obtain ⟨p, rfl⟩ : ∃ p : Nat, what = p := ⟨what.toNat, by omega⟩
      have hp10 : p < 10 := by omega
      have n10 : ¬ (1 : Int) = 0 := by decide
      obtain ⟨S, eS, hS⟩ := e_ringOf (f := f) hf hp10 g2
      obtain ⟨S', N', eS', hS', fS⟩ := e_M_ringOf (f := f) (M := Mr) (T := T) hf hp10 g1 hp.2.2.1 hp.1 g4 hb
      have e1 : p_O_rings f p Mc = some ((S : Int), Mc) := by
        unfold p_O_rings
        rw [if_neg hw, e_P_has hp.2.1 hp.1, hb]
        simp only [Option.bind_some]
        rw [b01_t, if_neg n10, eS]
        simp only [Option.bind_some]
      have e2 : p_M_rings f p Mr = some ((S : Int), N') := by
        unfold p_M_rings
        rw [if_neg hw, e_M_isPerson hp.2.2.1 hp.1, hb]
        simp only [Option.bind_some]
        rw [b01_t, if_neg n10, eS']
        simp only [Option.bind_some]
        rw [isRing_uniq hS' hS]
      have x1 := fr_O_rings (eqo_rfl _ _) _ e1
      have x2 := fr_M_rings (eqo_rfl _ _) _ e2
      exact same_upd e1 e2 ⟨T, Rel_try h x1 x2 rfl (fun i _ _ => x2 58 i rfl)⟩
