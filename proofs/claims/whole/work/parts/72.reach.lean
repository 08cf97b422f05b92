/-! who is come to by DEBTS, on both sides -/
def isReach (g : Nat → Nat → Nat) (p S : Nat) : Prop := S < 1024 ∧ ∀ v, v < 10 → (S.testBit v = true ↔ Rc g p v)
theorem bit_lt {S : Nat} (h : S < 1024) {v : Nat} (hv : S.testBit v = true) : v < 10 := by
  by_cases q : v < 10
  · exact q
  · have h10 : 2 ^ 10 ≤ 2 ^ v := Nat.pow_le_pow_right (by omega) (by omega)
    rw [Nat.testBit_lt_two_pow (Nat.lt_of_lt_of_le h h10)] at hv; cases hv
theorem set_ext {S S' : Nat} (h : S < 1024) (h' : S' < 1024) (he : ∀ v, v < 10 → (S.testBit v = true ↔ S'.testBit v = true)) : S = S' := by
  refine Nat.eq_of_testBit_eq fun i => ?_
  by_cases q : i < 10
  · have := he i q
    cases h1 : S.testBit i <;> cases h2 : S'.testBit i <;> simp_all
  · have h10 : 2 ^ 10 ≤ 2 ^ i := Nat.pow_le_pow_right (by omega) (by omega)
    rw [Nat.testBit_lt_two_pow (Nat.lt_of_lt_of_le h h10), Nat.testBit_lt_two_pow (Nat.lt_of_lt_of_le h' h10)]
theorem isReach_uniq {g : Nat → Nat → Nat} {p S S' : Nat} (h : isReach g p S) (h' : isReach g p S') : S = S' := set_ext h.1 h'.1 fun v hv => (h.2 v hv).trans (h'.2 v hv).symm
def crd (S : Nat) : Nat := sN (fun v => if S.testBit v then 1 else 0) 10
theorem crd_le (S : Nat) : crd S ≤ 10 := by
  have := sN_mono (f := fun v => if S.testBit v then 1 else 0) (g := fun _ => 1) 10 (fun k _ => by split <;> omega)
  have e : sN (fun _ => 1) 10 = 10 := by decide
  unfold crd; omega
theorem crd_lt {S S' : Nat} (h : S < 1024) (h' : S' < 1024) (hs : ∀ v, v < 10 → S.testBit v = true → S'.testBit v = true) (hne : S ≠ S') : crd S + 1 ≤ crd S' := by
  have h1 : crd S ≤ crd S' := sN_mono 10 fun k hk => by
    by_cases q : S.testBit k = true
    · rw [if_pos q, if_pos (hs k hk q)]; exact Nat.le_refl _
    · rw [if_neg q]; exact Nat.zero_le _
  by_cases q : crd S = crd S'
  · exfalso
    have := sN_eq (f := fun v => if S.testBit v then 1 else 0) (g := fun v => if S'.testBit v then 1 else 0) 10 (fun k hk => by
      by_cases q : S.testBit k = true
      · rw [if_pos q, if_pos (hs k hk q)]; exact Nat.le_refl _
      · rw [if_neg q]; exact Nat.zero_le _) q
    refine hne (set_ext h h' fun v hv => ⟨hs v hv, fun z => ?_⟩)
    have hv' := this v hv
    simp only [z, if_true] at hv'
    by_cases y : S.testBit v = true
    · exact y
    · rw [if_neg y] at hv'; omega
  · omega
theorem closed_reach {g : Nat → Nat → Nat} {p S : Nat} (hS : S < 1024) (hp : S.testBit p = true) (hr : ∀ v, v < 10 → S.testBit v = true → Rc g p v) (hc : ∀ u v, u < 10 → v < 10 → S.testBit u = true → 0 < g u v → S.testBit v = true) : isReach g p S :=
  ⟨hS, fun v hv => ⟨hr v hv, fun h => Rc_ind (P := fun v => S.testBit v = true) hp (fun u w hu hw _ h1 h2 => hc u w hu hw h1 h2) v h⟩⟩
theorem andn_nat {a b : Nat} (ha : a < 2147483648) : iand a (ixor b (-1)) = ((a ^^^ (a &&& b) : Nat) : Int) := by
  unfold iand ixor
  rw [ofInt_toInt32, ofInt_nI, ofInt_nI]
  have e : nI a &&& (nI b ^^^ Int32.ofInt (-1)) = nI (a ^^^ (a &&& b)) := by
    apply Int32.toBitVec_inj.1
    rw [Int32.toBitVec_and, Int32.toBitVec_xor, show (Int32.ofInt (-1)).toBitVec = BitVec.allOnes 32 from by decide]
    show BitVec.ofNat 32 a &&& (BitVec.ofNat 32 b ^^^ BitVec.allOnes 32) = BitVec.ofNat 32 (a ^^^ (a &&& b))
    apply BitVec.eq_of_getLsbD_eq
    intro i hi
    simp only [BitVec.getLsbD_and, BitVec.getLsbD_xor, BitVec.getLsbD_ofNat, BitVec.getLsbD_allOnes, Nat.testBit_xor, Nat.testBit_and, hi, decide_true, Bool.true_and]
    cases a.testBit i <;> cases b.testBit i <;> rfl
  rw [e, nI_toI]
  have hle : a &&& b ≤ a := Nat.and_le_left
  have h31 : a < 2 ^ 31 := ha
  have := Nat.xor_lt_two_pow (n := 31) h31 (show a &&& b < 2 ^ 31 by omega)
  exact this
theorem andn_bit {a b i : Nat} : (a ^^^ (a &&& b)).testBit i = (a.testBit i && !b.testBit i) := by
  rw [Nat.testBit_xor, Nat.testBit_and]
  cases a.testBit i <;> cases b.testBit i <;> rfl
theorem andn_lt {a b : Nat} (ha : a < 1024) : a ^^^ (a &&& b) < 1024 := Nat.xor_lt_two_pow (n := 10) ha (Nat.lt_of_le_of_lt Nat.and_le_left ha)
theorem or_lt10 {a b : Nat} (ha : a < 1024) (hb : b < 1024) : a ||| b < 1024 := Nat.or_lt_two_pow (n := 10) ha hb
theorem pow_lt10 {p : Nat} (hp : p < 10) : 2 ^ p < 1024 := Nat.pow_lt_pow_right (a := 2) (by omega) hp
abbrev gOf (d : Int → Int) (g : Nat → Nat → Nat) : Prop := ∀ a b : Nat, a < 10 → b < 10 → d (10 * (a : Int) + b) = (g a b : Int)
theorem e_paidBy {f o p : Nat} {M : oM} {g : Nat → Nat → Nat} (hf : 2000 < f) (hp : p < 10) (hg : gOf (M o) g) : ∃ S : Nat, p_R_paidBy f o p M = some ((S : Int), M) ∧ S < 1024 ∧ ∀ v, S.testBit v = true ↔ v < 10 ∧ 0 < g p v := by
  have h : okp (p_R_paidBy f o p M) (fun q => ∃ S : Nat, q = ((S : Int), M) ∧ S < 1024 ∧ ∀ v, S.testBit v = true ↔ v < 10 ∧ 0 < g p v) := by
    unfold p_R_paidBy
    refine for_ok 10 (fun k s => ∃ S : Nat, s = ((S : Int), (k : Int), M) ∧ S < 1024 ∧ ∀ v, S.testBit v = true ↔ v < k ∧ 0 < g p v) ?_ ?_ f (by omega) ⟨0, rfl, by omega, fun v => ⟨fun z => (by rw [Nat.zero_testBit] at z; cases z), fun z => absurd z.1 (by omega)⟩⟩
    · intro k s hk ⟨S, hs, h1, h2⟩
      subst hs
      unfold p_R_paidBy_L4 p_R_paidBy_B27_4
      simp only []
      rw [if_pos (by omega), w32_of (a := (p : Int) * 10) (by omega) (by omega), w32_of (by omega) (by omega), bnd_eq (by omega) (by omega), show (p : Int) * 10 + k = 10 * (p : Int) + k from by omega, hg p k hp hk, lt_eq, lt_eq, w32_of (a := (k : Int) + 1) (by omega) (by omega)]
      by_cases z : 0 < g p k
      · rw [if_pos (by omega), ishl1 (by omega), ior_nat (by omega) (by have := pow_lt10 hk; omega)]
        refine ⟨S ||| 2 ^ k, rfl, or_lt10 h1 (pow_lt10 hk), fun v => ?_⟩
        rw [or_bit, Bool.or_eq_true, h2 v, decide_eq_true_iff]
        constructor
        · rintro (⟨y1, y2⟩ | y)
          · exact ⟨by omega, y2⟩
          · subst y; exact ⟨by omega, z⟩
        · intro ⟨y1, y2⟩
          by_cases y : k = v
          · exact .inr y
          · exact .inl ⟨by omega, y2⟩
      · rw [if_neg (by omega)]
        refine ⟨S, rfl, h1, fun v => ?_⟩
        rw [h2 v]
        constructor
        · intro ⟨y1, y2⟩; exact ⟨by omega, y2⟩
        · intro ⟨y1, y2⟩
          by_cases y : k = v
          · subst y; exact absurd y2 z
          · exact ⟨by omega, y2⟩
    · intro s ⟨S, hs, h1, h2⟩
      subst hs
      unfold p_R_paidBy_L4
      simp only []
      rw [if_neg (by omega)]
      exact ⟨S, rfl, h1, h2⟩
  obtain ⟨q, eq, S, hq, h1, h2⟩ := okp_ex h
  subst hq
  exact ⟨S, eq, h1, h2⟩
theorem e_reachedFrom {f o p : Nat} {M : oM} {g : Nat → Nat → Nat} (hf : 2000 < f) (hp : p < 10) (hg : gOf (M o) g) : ∃ S : Nat, p_R_reachedFrom f o p M = some ((S : Int), M) ∧ isReach g p S := by
  have h : okp (p_R_reachedFrom f o p M) (fun q => ∃ S : Nat, q = ((S : Int), M) ∧ isReach g p S) := by
    unfold p_R_reachedFrom
    rw [lt_eq, ishl1 (by omega)]
    refine for_ok 10 (fun k s => ∃ R D : Nat, s = ((R : Int), (D : Int), (k : Int), M) ∧ R < 1024 ∧ D < 1024 ∧ (∀ v, v < 10 → D.testBit v = true → R.testBit v = true) ∧ R.testBit p = true ∧ (∀ v, v < 10 → R.testBit v = true → Rc g p v) ∧ (∀ u v, u < 10 → v < 10 → D.testBit u = true → 0 < g u v → R.testBit v = true) ∧ (R = D ∨ k + 1 ≤ crd R)) ?_ ?_ f (by omega) ?_
    · intro k s hk ⟨R, D, hs, h1, h2, h3, h4, h5, h6, h7⟩
      subst hs
      unfold p_R_reachedFrom_L9
      simp only []
      rw [if_pos (by omega)]
      by_cases q : D = R
      · subst q
        rw [if_pos rfl]
        exact ⟨D, rfl, closed_reach h1 h4 h5 (fun u v hu hv z1 z2 => h6 u v hu hv z1 z2)⟩
      · rw [if_neg (by omega), lt_eq, andn_nat (by omega)]
        have hfr : R ^^^ (R &&& D) < 1024 := andn_lt h1
        have hin : okp (iter (p_R_reachedFrom_L33 f o (R : Int) (k : Int) ((R ^^^ (R &&& D) : Nat) : Int)) f ((R : Int), 0, M)) (fun q => ∃ S : Nat, q = ((S : Int), M) ∧ S < 1024 ∧ ∀ v, v < 10 → (S.testBit v = true ↔ R.testBit v = true ∨ ∃ u, u < 10 ∧ (R ^^^ (R &&& D)).testBit u = true ∧ 0 < g u v)) := by
          refine for_ok 10 (fun j s => ∃ S : Nat, s = ((S : Int), (j : Int), M) ∧ S < 1024 ∧ ∀ v, v < 10 → (S.testBit v = true ↔ R.testBit v = true ∨ ∃ u, u < j ∧ (R ^^^ (R &&& D)).testBit u = true ∧ 0 < g u v)) ?_ ?_ f (by omega) ⟨R, rfl, h1, fun v hv => ⟨fun z => .inl z, fun z => z.elim id (fun ⟨u, hu, _⟩ => by omega)⟩⟩
          · intro j s hj ⟨S, hs, g1, g2⟩
            subst hs
            unfold p_R_reachedFrom_L33 p_R_reachedFrom_B60_33
            simp only []
            rw [if_pos (by omega), bit_ask (by omega) (by omega), w32_of (a := (j : Int) + 1) (by omega) (by omega)]
            by_cases z : (R ^^^ (R &&& D)).testBit j = true
            · rw [if_pos z, if_pos rfl]
              obtain ⟨P, eP, hP1, hP2⟩ := e_paidBy (f := f) hf hj hg
              rw [eP]
              simp only [Option.bind_some]
              rw [ior_nat (by omega) (by omega), lt_eq, lt_eq]
              refine ⟨S ||| P, rfl, or_lt10 g1 hP1, fun v hv => ?_⟩
              rw [Nat.testBit_or, Bool.or_eq_true, g2 v hv, hP2 v]
              constructor
              · rintro ((y | ⟨u, y1, y2⟩) | y)
                · exact .inl y
                · exact .inr ⟨u, by omega, y2⟩
                · exact .inr ⟨j, by omega, z, y.2⟩
              · rintro (y | ⟨u, y1, y2, y3⟩)
                · exact .inl (.inl y)
                · by_cases yj : u = j
                  · subst yj; exact .inr ⟨hv, y3⟩
                  · exact .inl (.inr ⟨u, by omega, y2, y3⟩)
            · rw [if_neg z, if_neg (by omega), lt_eq]
              refine ⟨S, rfl, g1, fun v hv => ?_⟩
              rw [g2 v hv]
              constructor
              · rintro (y | ⟨u, y1, y2⟩)
                · exact .inl y
                · exact .inr ⟨u, by omega, y2⟩
              · rintro (y | ⟨u, y1, y2, y3⟩)
                · exact .inl y
                · by_cases yj : u = j
                  · subst yj; exact absurd y2 z
                  · exact .inr ⟨u, by omega, y2, y3⟩
          · intro s ⟨S, hs, g1, g2⟩
            subst hs
            unfold p_R_reachedFrom_L33
            simp only []
            rw [if_neg (by omega)]
            exact ⟨S, rfl, g1, g2⟩
        refine okp_bind' (okp_mono hin ?_)
        intro q' ⟨S, hq', g1, g2⟩
        subst hq'
        unfold p_R_reachedFrom_X33
        simp only []
        rw [lt_eq, w32_of (by omega) (by omega)]
        have hsub : ∀ v, v < 10 → R.testBit v = true → S.testBit v = true := fun v hv z => (g2 v hv).2 (.inl z)
        have hor : S = R ∨ k + 1 + 1 ≤ crd S := by
          by_cases y : S = R
          · exact .inl y
          · have := crd_lt h1 g1 hsub (fun z => y z.symm)
            rcases h7 with z | z
            · exact absurd z.symm q
            · right; omega
        refine ⟨S, R, by rw [show ((k + 1 : Nat) : Int) = (k : Int) + 1 from by omega], g1, h1, hsub, hsub p hp h4, fun v hv z => ?_, fun u v hu hv z1 z2 => ?_, hor⟩
        · rcases (g2 v hv).1 z with y | ⟨u, y1, y2, y3⟩
          · exact h5 v hv y
          · rw [andn_bit, Bool.and_eq_true] at y2
            exact Rc_step (h5 u y1 y2.1) y1 hv y3
        · by_cases y : D.testBit u = true
          · exact hsub v hv (h6 u v hu hv y z2)
          · refine (g2 v hv).2 (.inr ⟨u, hu, ?_, z2⟩)
            rw [andn_bit, z1]
            cases hb : D.testBit u with
            | false => rfl
            | true => exact absurd hb y
    · intro s ⟨R, D, hs, h1, h2, h3, h4, h5, h6, h7⟩
      subst hs
      unfold p_R_reachedFrom_L9
      simp only []
      rw [if_neg (by omega)]
      rcases h7 with z | z
      · subst z
        exact ⟨R, rfl, closed_reach h1 h4 h5 h6⟩
      · have := crd_le R; omega
    · refine ⟨2 ^ p, 0, rfl, pow_lt10 hp, by omega, fun v hv z => ?_, Nat.testBit_two_pow_self, fun v hv z => ?_, fun u v hu hv z => ?_, .inr ?_⟩
      · rw [Nat.zero_testBit] at z; cases z
      · rw [Nat.testBit_two_pow, decide_eq_true_iff] at z
        exact z ▸ Rc_refl
      · rw [Nat.zero_testBit] at z; cases z
      · have := sN_le (f := fun v => if (2 ^ p).testBit v then 1 else 0) 10 p hp
        simp only [Nat.testBit_two_pow_self, if_true] at this
        exact this
  obtain ⟨q, eq, S, hq, h1⟩ := okp_ex h
  subst hq
  exact ⟨S, eq, h1⟩
/-! the reference's way to the same set -/
theorem e_M_leftOf {f a b : Nat} {M : oM} (ha : a < 10) (hb : b < 10) : p_M_leftOf f a b M = some (M 82 (10 * (a : Int) + b), M) := by
  unfold p_M_leftOf
  rw [w32_of (a := 10 * (a : Int)) (by omega) (by omega), w32_of (by omega) (by omega), bnd_eq (by omega) (by omega)]
theorem e_M_reachLeft {f p : Nat} {M : oM} {g : Nat → Nat → Nat} (hf : 2000 < f) (hp : p < 10) (hg : gOf (M 82) g) : ∃ S : Nat, p_M_reachLeft f p M = some ((S : Int), M) ∧ isReach g p S := by
  have h : okp (p_M_reachLeft f p M) (fun q => ∃ S : Nat, q = ((S : Int), M) ∧ isReach g p S) := by
    unfold p_M_reachLeft
    rw [lt_eq, ishl1 (by omega)]
    refine iter_ok (fun n s => ∃ R D : Nat, s = ((R : Int), (D : Int), M) ∧ R < 1024 ∧ D < 1024 ∧ (∀ v, v < 10 → D.testBit v = true → R.testBit v = true) ∧ R.testBit p = true ∧ (∀ v, v < 10 → R.testBit v = true → Rc g p v) ∧ (∀ u v, u < 10 → v < 10 → D.testBit u = true → 0 < g u v → R.testBit v = true) ∧ (10 - crd R) + (if R = D then 0 else 1) ≤ n) ?_ f 11 _ ?_ (by omega)
    · intro n s ⟨R, D, hs, h1, h2, h3, h4, h5, h6, h7⟩
      subst hs
      unfold p_M_reachLeft_L6
      simp only []
      by_cases q : R = D
      · subst q
        rw [if_pos rfl]
        exact ⟨R, rfl, closed_reach h1 h4 h5 h6⟩
      · rw [if_neg (by omega)]
        rw [if_neg q] at h7
        have hout : okp (iter (p_M_reachLeft_L16 f (R : Int)) f ((R : Int), 0, M)) (fun q' => ∃ S : Nat, q' = ((S : Int), M) ∧ S < 1024 ∧ (∀ v, v < 10 → R.testBit v = true → S.testBit v = true) ∧ (∀ v, v < 10 → S.testBit v = true → Rc g p v) ∧ ∀ u v, u < 10 → v < 10 → R.testBit u = true → 0 < g u v → S.testBit v = true) := by
          refine for_ok 10 (fun a s => ∃ S : Nat, s = ((S : Int), (a : Int), M) ∧ S < 1024 ∧ (∀ v, v < 10 → R.testBit v = true → S.testBit v = true) ∧ (∀ v, v < 10 → S.testBit v = true → Rc g p v) ∧ ∀ u v, u < a → v < 10 → R.testBit u = true → 0 < g u v → S.testBit v = true) ?_ ?_ f (by omega) ⟨R, rfl, h1, fun v hv z => z, h5, fun u v hu => by omega⟩
          · intro a s ha ⟨S, hs, g1, g2, g3, g4⟩
            subst hs
            unfold p_M_reachLeft_L16
            simp only []
            rw [if_pos (by omega)]
            have hin : okp (iter (p_M_reachLeft_L26 f (R : Int) (a : Int)) f ((S : Int), 0, M)) (fun q' => ∃ S' : Nat, q' = ((S' : Int), M) ∧ S' < 1024 ∧ (∀ v, v < 10 → S.testBit v = true → S'.testBit v = true) ∧ (∀ v, v < 10 → S'.testBit v = true → Rc g p v) ∧ ∀ v, v < 10 → R.testBit a = true → 0 < g a v → S'.testBit v = true) := by
              refine for_ok 10 (fun b s => ∃ S' : Nat, s = ((S' : Int), (b : Int), M) ∧ S' < 1024 ∧ (∀ v, v < 10 → S.testBit v = true → S'.testBit v = true) ∧ (∀ v, v < 10 → S'.testBit v = true → Rc g p v) ∧ ∀ v, v < b → R.testBit a = true → 0 < g a v → S'.testBit v = true) ?_ ?_ f (by omega) ⟨S, rfl, g1, fun v hv z => z, g3, fun v hv => by omega⟩
              · intro b s hb ⟨S', hs, k1, k2, k3, k4⟩
                subst hs
                unfold p_M_reachLeft_L26 p_M_reachLeft_B60_26
                simp only []
                rw [if_pos (by omega), e_M_has (by omega) (by omega)]
                simp only [Option.bind_some]
                rw [w32_of (a := (b : Int) + 1) (by omega) (by omega)]
                cases hz : S'.testBit a with
                | false =>
                  rw [b01_f, if_pos rfl, lt_eq]
                  refine ⟨S', by rw [show ((b + 1 : Nat) : Int) = (b : Int) + 1 from by omega], k1, k2, k3, fun v hv y1 y2 => ?_⟩
                  have := k2 a ha (g2 a ha y1)
                  rw [hz] at this; cases this
                | true =>
                  rw [b01_t, if_neg (by omega), e_M_leftOf ha hb, hg a b ha hb]
                  simp only [Option.bind_some]
                  by_cases y : 0 < g a b
                  · rw [if_pos (by omega), ishl1 (by omega), ior_nat (by omega) (by have := pow_lt10 hb; omega), lt_eq, lt_eq]
                    refine ⟨S' ||| 2 ^ b, by rw [show ((b + 1 : Nat) : Int) = (b : Int) + 1 from by omega], or_lt10 k1 (pow_lt10 hb), fun v hv z => ?_, fun v hv z => ?_, fun v hv y1 y2 => ?_⟩
                    · rw [or_bit, k2 v hv z]; rfl
                    · rw [or_bit, Bool.or_eq_true, decide_eq_true_iff] at z
                      rcases z with z | z
                      · exact k3 v hv z
                      · exact z ▸ Rc_step (k3 a ha hz) ha hb y
                    · rw [or_bit, Bool.or_eq_true, decide_eq_true_iff]
                      by_cases yb : b = v
                      · exact .inr yb
                      · exact .inl (k4 v (by omega) y1 y2)
                  · rw [if_neg (by omega), lt_eq]
                    refine ⟨S', by rw [show ((b + 1 : Nat) : Int) = (b : Int) + 1 from by omega], k1, k2, k3, fun v hv y1 y2 => ?_⟩
                    by_cases yb : v = b
                    · subst yb; exact absurd y2 y
                    · exact k4 v (by omega) y1 y2
              · intro s ⟨S', hs, k1, k2, k3, k4⟩
                subst hs
                unfold p_M_reachLeft_L26
                simp only []
                rw [if_neg (by omega)]
                exact ⟨S', rfl, k1, k2, k3, k4⟩
            refine okp_bind' (okp_mono hin ?_)
            intro q' ⟨S', hq', k1, k2, k3, k4⟩
            subst hq'
            unfold p_M_reachLeft_X26
            simp only []
            rw [lt_eq, w32_of (by omega) (by omega)]
            refine ⟨S', by rw [show ((a + 1 : Nat) : Int) = (a : Int) + 1 from by omega], k1, fun v hv z => k2 v hv (g2 v hv z), k3, fun u v hu hv y1 y2 => ?_⟩
            by_cases yu : u = a
            · subst yu; exact k4 v hv y1 y2
            · exact k2 v hv (g4 u v (by omega) hv y1 y2)
          · intro s ⟨S, hs, g1, g2, g3, g4⟩
            subst hs
            unfold p_M_reachLeft_L16
            simp only []
            rw [if_neg (by omega)]
            exact ⟨S, rfl, g1, g2, g3, g4⟩
        refine okp_bind' (okp_mono hout ?_)
        intro q' ⟨S, hq', g1, g2, g3, g4⟩
        subst hq'
        unfold p_M_reachLeft_X16
        simp only []
        have hn : ∃ m, m < n ∧ (10 - crd S) + (if S = R then 0 else 1) ≤ m := by
          by_cases y : S = R
          · subst y
            rw [if_pos rfl]
            exact ⟨n - 1, by omega, by omega⟩
          · have := crd_lt h1 g1 g2 (fun z => y z.symm)
            have hS := crd_le S
            rw [if_neg y]
            exact ⟨n - 1, by omega, by omega⟩
        obtain ⟨m, hm, hm2⟩ := hn
        exact ⟨m, hm, S, R, rfl, g1, h1, g2, g2 p hp h4, g3, g4, hm2⟩
    · refine ⟨2 ^ p, 0, rfl, pow_lt10 hp, by omega, fun v hv z => ?_, Nat.testBit_two_pow_self, fun v hv z => ?_, fun u v hu hv z => ?_, ?_⟩
      · rw [Nat.zero_testBit] at z; cases z
      · rw [Nat.testBit_two_pow, decide_eq_true_iff] at z
        exact z ▸ Rc_refl
      · rw [Nat.zero_testBit] at z; cases z
      · split <;> omega
  obtain ⟨q, eq, S, hq, h1⟩ := okp_ex h
  subst hq
  exact ⟨S, eq, h1⟩
