/-! the longest row: the reference's choice, the call -/
def qfC (cf ct : Nat → Nat) (n m S p j : Nat) : Prop := cf j = p ∧ S.testBit j = false ∧ 1 + lng m (gS cf ct n (S ||| 2 ^ j)) (ct j) = lng m (gS cf ct n S) p
def bcI (cf ct : Nat → Nat) (n m S p k : Nat) (b : Int) : Prop := (b = -1 ∧ ∀ j, j < k → ¬ qfC cf ct n m S p j) ∨ ∃ B : Nat, b = (B : Int) ∧ B < k ∧ qfC cf ct n m S p B ∧ ∀ j, j < k → qfC cf ct n m S p j → ct B ≤ ct j
theorem bc_keep {cf ct : Nat → Nat} {n m S p k : Nat} {b : Int} (h : bcI cf ct n m S p k b) (hq : ¬ qfC cf ct n m S p k) : bcI cf ct n m S p (k + 1) b := by
  rcases h with ⟨h1, h2⟩ | ⟨B, h1, h2, h3, h4⟩
  · refine .inl ⟨h1, fun j hj => ?_⟩
    by_cases e : j = k
    · rw [e]; exact hq
    · exact h2 j (by omega)
  · refine .inr ⟨B, h1, by omega, h3, fun j hj hqj => ?_⟩
    by_cases e : j = k
    · rw [e] at hqj; exact absurd hqj hq
    · exact h4 j (by omega) hqj
theorem bc_keep2 {cf ct : Nat → Nat} {n m S p k B : Nat} {b : Int} (h : bcI cf ct n m S p k b) (hb : b = (B : Int)) (hc : ct B ≤ ct k) : bcI cf ct n m S p (k + 1) b := by
  rcases h with ⟨h1, h2⟩ | ⟨B', h1, h2, h3, h4⟩
  · rw [hb] at h1; omega
  · have e : B' = B := by rw [h1] at hb; exact Int.ofNat.inj hb
    subst e
    refine .inr ⟨B', h1, by omega, h3, fun j hj hqj => ?_⟩
    by_cases e : j = k
    · rw [e]; exact hc
    · exact h4 j (by omega) hqj
theorem bc_take {cf ct : Nat → Nat} {n m S p k : Nat} {b : Int} (h : bcI cf ct n m S p k b) (hq : qfC cf ct n m S p k) (hc : ∀ B : Nat, b = (B : Int) → ct k ≤ ct B) : bcI cf ct n m S p (k + 1) (k : Int) := by
  refine .inr ⟨k, rfl, Nat.lt_succ_self k, hq, fun j hj hqj => ?_⟩
  by_cases e : j = k
  · rw [e]; exact Nat.le_refl _
  · rcases h with ⟨h1, h2⟩ | ⟨B, h1, h2, h3, h4⟩
    · exact absurd hqj (h2 j (by omega))
    · exact Nat.le_trans (hc B h1) (h4 j (by omega) hqj)
theorem bc_step {f n m S p k : Nat} {b : Int} {M : oM} {cf ct : Nat → Nat} (hk : k < n) (hn : n ≤ 12) (hm : m ≤ 12) (hp : p < 10) (hS : S < 2 ^ n) (hM : isM M n cf ct) (hT : tbAll cf ct n m M 0) (hI : bcI cf ct n m S p k b) : ∃ b', p_M_bestCoin_L5 f S p (b, (k : Int), M) = some (.inl (b', ((k + 1 : Nat) : Int), M)) ∧ bcI cf ct n m S p (k + 1) b' := by
  have p2 : 2 ^ n ≤ 4096 := Nat.pow_le_pow_right (n := 2) (by decide) hn
  have hS12 : S < 4096 := Nat.lt_of_lt_of_le hS p2
  have hc := hM.2 k hk
  have hk12 : (k : Int) < 12 := nat_lt (Nat.lt_of_lt_of_le hk hn)
  have hk31 : k < 31 := Nat.lt_trans (Nat.lt_of_lt_of_le hk hn) (by decide)
  have w1 : w32 ((k : Int) + 1) = ((k + 1 : Nat) : Int) := w32nat (Nat.lt_trans hk31 (by decide))
  have hp2 : 2 ^ k < 4096 := Nat.pow_lt_pow_right (a := 2) (by decide) (Nat.lt_of_lt_of_le hk hn)
  have hU := or_ltn hS hk
  have hU12 : S ||| 2 ^ k < 4096 := Nat.lt_of_lt_of_le hU p2
  have e1 : M 86 ((10 * (S ||| 2 ^ k) + ct k : Nat) : Int) = ((lng m (gS cf ct n (S ||| 2 ^ k)) (ct k) : Nat) : Int) := hT _ (Nat.zero_le _) hU _ hc.2.1
  have e2 : M 86 ((10 * S + p : Nat) : Int) = ((lng m (gS cf ct n S) p : Nat) : Int) := hT _ (Nat.zero_le _) hS _ hp
  have l1 : lng m (gS cf ct n (S ||| 2 ^ k)) (ct k) ≤ 12 := Nat.le_trans (lng_le _ _ _) hm
  have B99 : ∀ b' : Int, p_M_bestCoin_B99_5 f S p b' k M = some (.inl (b', ((k + 1 : Nat) : Int), M)) := fun b' => by
    unfold p_M_bestCoin_B99_5
    rw [lt_eq, w1]
  have B96 : p_M_bestCoin_B96_5 f S p k M = some (.inl ((k : Int), ((k + 1 : Nat) : Int), M)) := B99 k
  unfold p_M_bestCoin_L5
  simp only []
  rw [hM.1, if_pos (nat_lt hk), bnd_nat hk12, hc.2.2.1]
  by_cases q : cf k = p
  · rw [if_pos (by rw [q]), e_M_has (Nat.lt_trans hS12 (by decide)) (Nat.lt_trans hk31 (by decide)), Option.bind_some]
    cases hb : S.testBit k
    · have hx1 : (b01 false, M).snd 86 ((10 * (S ||| 2 ^ k) + ct k : Nat) : Int) = ((lng m (gS cf ct n (S ||| 2 ^ k)) (ct k) : Nat) : Int) := e1
      have hx2 : (b01 false, M).snd 86 ((10 * S + p : Nat) : Int) = ((lng m (gS cf ct n S) p : Nat) : Int) := e2
      rw [if_pos (show (b01 false, M).fst = (0 : Int) from rfl), bnd_nat hk12, ishl1 hk31, ior_nat (Nat.lt_trans hS12 (by decide)) (Nat.lt_trans hp2 (by decide)), w32mul10 (Nat.lt_trans hU12 (by decide)), show (b01 false, M).snd 85 (k : Int) = (ct k : Int) from hc.2.2.2, w32add (Nat.lt_trans (show 10 * (S ||| 2 ^ k) < 40960 from Nat.mul_lt_mul_of_pos_left hU12 (by decide)) (by decide)) (Nat.lt_trans hc.2.1 (by decide)), bnd_nat (nat40960 hU12 hc.2.1), w32mul10 (Nat.lt_trans hS12 (by decide)), w32add (Nat.lt_trans (show 10 * S < 40960 from Nat.mul_lt_mul_of_pos_left hS12 (by decide)) (by decide)) (Nat.lt_trans hp (by decide)), bnd_nat (nat40960 hS12 hp), hx1, hx2, w1add (Nat.lt_of_le_of_lt l1 (by decide))]
      by_cases hq : 1 + lng m (gS cf ct n (S ||| 2 ^ k)) (ct k) = lng m (gS cf ct n S) p
      · have hqf : qfC cf ct n m S p k := ⟨q, hb, hq⟩
        rw [if_pos (by rw [hq])]
        by_cases hb1 : b = -1
        · rw [if_pos hb1]
          exact ⟨_, B96, bc_take hI hqf (fun B hB => by rw [hb1] at hB; omega)⟩
        · obtain ⟨B, hB, hB2⟩ : ∃ B : Nat, b = (B : Int) ∧ B < k := by
            rcases hI with ⟨z, -⟩ | ⟨B, z, z2, -⟩
            · exact absurd z hb1
            · exact ⟨B, z, z2⟩
          have hB12 : (B : Int) < 12 := nat_lt (Nat.lt_trans hB2 (Nat.lt_of_lt_of_le hk hn))
          have hcB := (hM.2 B (Nat.lt_trans hB2 hk)).2.2.2
          rw [if_neg hb1, hB, bnd_nat hk12, bnd_nat hB12, show (b01 false, M).snd 85 (k : Int) = (ct k : Int) from hc.2.2.2, show (b01 false, M).snd 85 (B : Int) = (ct B : Int) from hcB]
          by_cases hlt : ct k < ct B
          · rw [if_pos (nat_lt hlt)]
            exact ⟨_, B96, bc_take hI hqf (fun B' hB' => by rw [hB] at hB'; rw [← Int.ofNat.inj hB']; exact Nat.le_of_lt hlt)⟩
          · rw [if_neg (nat_nlt (Nat.le_of_not_lt hlt))]
            exact ⟨_, B99 _, hB ▸ bc_keep2 hI hB (Nat.le_of_not_lt hlt)⟩
      · rw [if_neg (natne hq)]
        exact ⟨_, B99 _, bc_keep hI (fun z => hq z.2.2)⟩
    · rw [if_neg (show ¬ (b01 true, M).fst = (0 : Int) from fun z => absurd (show (1 : Int) = 0 from z) (by decide))]
      exact ⟨_, B99 _, bc_keep hI (fun z => absurd (hb.symm.trans z.2.1) (by decide))⟩
  · rw [if_neg (natne q)]
    exact ⟨_, B99 _, bc_keep hI (fun z => q z.1)⟩
theorem e_bestCoin {f n m S p : Nat} {M : oM} {cf ct : Nat → Nat} (hf : 2000 < f) (hn : n ≤ 12) (hm : m ≤ 12) (hp : p < 10) (hS : S < 2 ^ n) (hM : isM M n cf ct) (hT : tbAll cf ct n m M 0) (hex : ∃ j, j < n ∧ qfC cf ct n m S p j) : ∃ B : Nat, p_M_bestCoin f S p M = some ((B : Int), M) ∧ B < n ∧ qfC cf ct n m S p B ∧ ∀ j, j < n → qfC cf ct n m S p j → ct B ≤ ct j := by
  have hr : okp (p_M_bestCoin f S p M) (fun q => q.2 = M ∧ bcI cf ct n m S p n q.1) := by
    unfold p_M_bestCoin
    refine for_ok n (fun (k : Nat) (s : Int × Int × oM) => s.2 = ((k : Int), M) ∧ bcI cf ct n m S p k s.1) (fun k s hk hI => ?_) (fun s hI => ?_) f (Nat.lt_of_le_of_lt hn (Nat.lt_trans (by decide) hf)) ⟨rfl, .inl ⟨rfl, fun j hj => absurd hj (Nat.not_lt_zero _)⟩⟩
    · obtain ⟨b, i, N⟩ := s
      obtain ⟨i1, i2⟩ := hI
      obtain ⟨rfl, rfl⟩ := Prod.mk.inj i1
      obtain ⟨b', e, h⟩ := bc_step (f := f) hk hn hm hp hS hM hT i2
      rw [e]
      exact ⟨rfl, h⟩
    · obtain ⟨b, i, N⟩ := s
      obtain ⟨i1, i2⟩ := hI
      obtain ⟨rfl, rfl⟩ := Prod.mk.inj i1
      unfold p_M_bestCoin_L5
      simp only []
      rw [hM.1, if_neg (Int.lt_irrefl _)]
      exact ⟨rfl, i2⟩
  obtain ⟨q, eq, h1, h2⟩ := okp_ex hr
  obtain ⟨j, hj, hqj⟩ := hex
  rcases h2 with ⟨_, z⟩ | ⟨B, z1, z2, z3, z4⟩
  · exact absurd hqj (z j hj)
  · exact ⟨B, by rw [eq, ← z1, ← h1], z2, z3, z4⟩
/-- the reference's next one is the least row's -/
theorem next_gre {n m r S p B : Nat} {cf ct : Nat → Nat} (h : ∀ j, j < n → cf j < 10 ∧ ct j < 10) (hm : n ≤ m + 1) (ht : totg (gS cf ct n S) ≤ r + 1) (hp : p < 10) (hB : B < n) (hq : qfC cf ct n (m + 1) S p B) (hmin : ∀ j, j < n → qfC cf ct n (m + 1) S p j → ct B ≤ ct j) (hl : 0 < lng (r + 1) (gS cf ct n S) p) :
    gre (r + 1) (gS cf ct n S) p = ct B :: gre r (gS cf ct n (S ||| 2 ^ B)) (ct B) ∧ totg (gS cf ct n (S ||| 2 ^ B)) ≤ r := by
  have hts := gS_tot (S := S) h
  have est : lng (m + 1) (gS cf ct n S) p = lng (r + 1) (gS cf ct n S) p := lng_stab _ _ _ _ hp (by omega) ht
  have key : ∀ j, j < n → cf j = p → S.testBit j = false → lngK (lng m) (gS cf ct n S) p (ct j) = lngK (lng r) (gS cf ct n S) p (ct j) := by
    intro j hj hcf hb
    have hg : 0 < gS cf ct n S p (ct j) := hcf ▸ gS_coin hj hb
    have hd := decg_tot hp (h j hj).2 hg
    unfold lngK
    rw [if_pos hg, if_pos hg, lng_stab m r _ _ (h j hj).2 (by omega) (by omega)]
  have hgB : 0 < gS cf ct n S p (ct B) := hq.1 ▸ gS_coin hB hq.2.1
  have hdB := decg_tot hp (h B hB).2 hgB
  have eB : lngK (lng r) (gS cf ct n S) p (ct B) = lng (r + 1) (gS cf ct n S) p := by
    rw [← key B hB hq.1 hq.2.1, ← est, ← hq.2.2, cmT_lng h hm hB hq.2.1, hq.1]
  have edB : decg (gS cf ct n S) p (ct B) = gS cf ct n (S ||| 2 ^ B) := by rw [gS_dec hB hq.2.1, hq.1]
  rcases gre_pick r (gS cf ct n S) p with ⟨z, -⟩ | ⟨q, q1, q2, q3, q4, q5⟩
  · omega
  · have hqB : q = ct B := by
      apply Nat.le_antisymm
      · refine Nat.le_of_not_lt fun z => ?_
        have := q5 (ct B) z
        omega
      · obtain ⟨j, j1, j2, j3, j4⟩ := gS_pos q3
        rw [← j4]
        refine hmin j j1 ⟨j3, j2, ?_⟩
        rw [cmT_lng h hm j1 j2, j3, key j j1 j3 j2, est, j4]
        exact q4
    rw [q2, hqB, edB]
    exact ⟨rfl, by rw [← edB]; omega⟩
theorem ex_qf {n m S p : Nat} {cf ct : Nat → Nat} (h : ∀ j, j < n → cf j < 10 ∧ ct j < 10) (hm : n ≤ m + 1) (hl : 0 < lng (m + 1) (gS cf ct n S) p) : ∃ j, j < n ∧ qfC cf ct n (m + 1) S p j := by
  rcases gre_pick m (gS cf ct n S) p with ⟨z, -⟩ | ⟨q, q1, q2, q3, q4, q5⟩
  · omega
  · obtain ⟨j, j1, j2, j3, j4⟩ := gS_pos q3
    refine ⟨j, j1, j3, j2, ?_⟩
    rw [cmT_lng h hm j1 j2, j3, j4]
    exact q4
/-- k persons of the row are told; the rest is the row from set S and person p -/
def moI (cf ct : Nat → Nat) (n m h : Nat) (M : oM) (k : Nat) (s : Int × Int × Int × oM) : Prop :=
  ∃ S p : Nat, s = ((S : Int), (p : Int), (k : Int), M) ∧ S < 2 ^ n ∧ p < 10 ∧ k ≤ m ∧ totg (gS cf ct n S) ≤ m - k ∧ (∀ i, (gre m (gS cf ct n 0) h).getD (k + i) 0 = (gre (m - k) (gS cf ct n S) p).getD i 0) ∧ (gre m (gS cf ct n 0) h).length = k + (gre (m - k) (gS cf ct n S) p).length ∧ (0 < k → p = (gre m (gS cf ct n 0) h).getD (k - 1) 0)
theorem mo_step {f n m h k : Nat} {what : Int} {M : oM} {s : Int × Int × Int × oM} {cf ct : Nat → Nat} (hf : 2000 < f) (hn : n ≤ 12) (hm : m + 1 = 12) (hw : (k : Int) ≤ what) (hk : k < (gre (m + 1) (gS cf ct n 0) h).length) (hM : isM M n cf ct) (hT : tbAll cf ct n (m + 1) M 0) (hI : moI cf ct n (m + 1) h M k s) : ∃ s', p_M_most_L102 f what s = some (.inl s') ∧ moI cf ct n (m + 1) h M (k + 1) s' := by
  obtain ⟨S, p, rfl, h1, h2, h3, h4, h5, h6, h7⟩ := hI
  have hcc : ∀ j, j < n → cf j < 10 ∧ ct j < 10 := fun j hj => ⟨(hM.2 j hj).1, (hM.2 j hj).2.1⟩
  have hnm : n ≤ m + 1 := by omega
  have hts := gS_tot (S := S) hcc
  have hlen : 0 < (gre (m + 1 - k) (gS cf ct n S) p).length := by omega
  have hk2 : k < m + 1 := by
    refine Nat.lt_of_le_of_ne h3 fun z => ?_
    rw [z, Nat.sub_self] at hlen
    exact absurd (show 0 < 0 from hlen) (Nat.lt_irrefl 0)
  obtain ⟨r, hr⟩ : ∃ r, m + 1 - k = r + 1 := ⟨m - k, by omega⟩
  rw [hr] at h4 h5 h6 hlen
  rw [gre_len (r + 1)] at hlen
  have est : lng (m + 1) (gS cf ct n S) p = lng (r + 1) (gS cf ct n S) p := lng_stab _ _ _ _ h2 (by omega) h4
  obtain ⟨B, eB, hB, hq, hmin⟩ := e_bestCoin (f := f) hf hn (by omega : m + 1 ≤ 12) h2 h1 hM hT (ex_qf hcc hnm (by omega))
  obtain ⟨g1, g2⟩ := next_gre hcc hnm h4 h2 hB hq hmin hlen
  have p2 : 2 ^ n ≤ 4096 := Nat.pow_le_pow_right (n := 2) (by decide) hn
  have hB31 : B < 31 := Nat.lt_trans (Nat.lt_of_lt_of_le hB hn) (by decide)
  have hp2 : 2 ^ B < 4096 := Nat.pow_lt_pow_right (a := 2) (by decide) (Nat.lt_of_lt_of_le hB hn)
  have hr2 : m + 1 - (k + 1) = r := by omega
  refine ⟨(((S ||| 2 ^ B : Nat) : Int), (ct B : Int), ((k + 1 : Nat) : Int), M), ?_, S ||| 2 ^ B, ct B, rfl, or_ltn h1 hB, (hcc B hB).2, hk2, by rw [hr2]; exact g2, fun i => ?_, ?_, fun _ => ?_⟩
  · unfold p_M_most_L102
    simp only []
    rw [if_neg (Int.not_lt.mpr hw), eB, Option.bind_some, ishl1 hB31, ior_nat (Nat.lt_trans (Nat.lt_of_lt_of_le h1 p2) (by decide)) (Nat.lt_trans hp2 (by decide)), lt_eq, bnd_nat (show (B : Int) < 12 from nat_lt (Nat.lt_of_lt_of_le hB hn)), lt_eq, lt_eq, w32nat (Nat.lt_trans hk2 (by rw [hm]; decide)), show ((B : Int), M).snd 85 (B : Int) = (ct B : Int) from (hM.2 B hB).2.2.2]
  · rw [hr2, show k + 1 + i = k + (i + 1) from by omega, h5 (i + 1), g1]
    rfl
  · rw [hr2, h6, g1, List.length_cons]
    omega
  · rw [Nat.add_sub_cancel, show k = k + 0 from rfl, h5 0, g1]
    rfl
theorem mo_walk {f n m h w : Nat} {M : oM} {cf ct : Nat → Nat} (hf : 2000 < f) (hn : n ≤ 12) (hm : m + 1 = 12) (hh : h < 10) (hw : w < (gre (m + 1) (gS cf ct n 0) h).length) (hM : isM M n cf ct) (hT : tbAll cf ct n (m + 1) M 0) : iter (p_M_most_L102 f w) f (0, (h : Int), 0, M) = some (((((gre (m + 1) (gS cf ct n 0) h).getD w 0) : Nat) : Int), M) := by
  have hcc : ∀ j, j < n → cf j < 10 ∧ ct j < 10 := fun j hj => ⟨(hM.2 j hj).1, (hM.2 j hj).2.1⟩
  have hlm : (gre (m + 1) (gS cf ct n 0) h).length ≤ m + 1 := by rw [gre_len]; exact lng_le _ _ _
  have hr : okp (iter (p_M_most_L102 f w) f (0, (h : Int), 0, M)) (fun q => q = (((((gre (m + 1) (gS cf ct n 0) h).getD w 0) : Nat) : Int), M)) := by
    refine for_ok (w + 1) (moI cf ct n (m + 1) h M) (fun k s hk hI => ?_) (fun s hI => ?_) f (by omega) ⟨0, h, rfl, Nat.two_pow_pos n, hh, Nat.zero_le _, ?_, fun i => by rw [Nat.zero_add]; rfl, by rw [Nat.zero_add]; rfl, fun z => absurd z (by decide)⟩
    · obtain ⟨s', e, h'⟩ := mo_step hf hn hm (Int.ofNat_le.mpr (Nat.le_of_lt_succ hk)) (by omega) hM hT hI
      rw [e]
      exact h'
    · obtain ⟨S, p, rfl, h1, h2, h3, h4, h5, h6, h7⟩ := hI
      unfold p_M_most_L102
      simp only []
      rw [if_pos (nat_lt (Nat.lt_succ_self w))]
      have := h7 (Nat.succ_pos w)
      rw [Nat.add_sub_cancel] at this
      rw [this]
      rfl
    · have := gS_tot (S := 0) hcc
      omega
  obtain ⟨q, eq, h1⟩ := okp_ex hr
  rw [eq, h1]
theorem cng_cast {B : Nat → Bool} {cf ct : Nat → Nat} {a b : Nat} (k : Nat) (hB : ∀ j, j < k → B j = true) : ((cng B cf ct k a b : Nat) : Int) = sumN (fun j => i01 (cf j) a * i01 (ct j) b) k := by
  induction k with
  | zero => rfl
  | succ k ih =>
    show ((cng B cf ct k a b + (if B k = true ∧ cf k = a ∧ ct k = b then 1 else 0) : Nat) : Int) = sumN _ k + i01 (cf k) a * i01 (ct k) b
    rw [Int.natCast_add, ih (fun j hj => hB j (Nat.lt_succ_of_lt hj))]
    congr 1
    unfold i01
    by_cases h1 : cf k = a
    · by_cases h2 : ct k = b
      · rw [if_pos ⟨hB k (Nat.lt_succ_self k), h1, h2⟩, if_pos h1, if_pos h2]; rfl
      · rw [if_neg (fun z => h2 z.2.2), if_pos h1, if_neg h2]; rfl
    · rw [if_neg (fun z => h1 z.2.1), if_neg h1, Int.zero_mul]; rfl
theorem cell_sum {d : Int → Int} {a b m : Nat} (ha : a < m) (hb : b < m) : sumN (fun x => sumN (fun y => d (10 * (x : Int) + y) * (i01 x a * i01 y b)) m) m = d (10 * (a : Int) + b) := by
  have e : ∀ x : Nat, sumN (fun y => d (10 * (x : Int) + y) * (i01 x a * i01 y b)) m = if x = a then d (10 * (x : Int) + b) else 0 := by
    intro x
    by_cases q : x = a
    · rw [if_pos q, ← sumN_pick (g := fun y => d (10 * (x : Int) + y)) m hb]
      refine sumN_congr m fun y _ => ?_
      unfold i01
      rw [if_pos q, Int.one_mul]
      split
      · exact Int.mul_one _
      · exact Int.mul_zero _
    · rw [if_neg q]
      refine (sumN_congr (g' := fun _ => 0) m fun y _ => ?_).trans (sumN_zero m)
      unfold i01
      rw [if_neg q, Int.zero_mul, Int.mul_zero]
  rw [sumN_congr (g' := fun x => if x = a then d (10 * (x : Int) + b) else 0) m (fun x _ => e x), sumN_pick (g := fun x => d (10 * (x : Int) + b)) m ha]
theorem gS_debts {d : Int → Int} {cf ct : Nat → Nat} {n : Nat} (hW : ∀ W : Nat → Nat → Int, sumN (fun j => W (cf j) (ct j)) n = sumN (fun a => sumN (fun b => d (10 * (a : Int) + b) * W a b) 10) 10) : gOf d (gS cf ct n 0) := by
  intro a b ha hb
  unfold gS
  rw [cng_cast n (fun j _ => by rw [Nat.zero_testBit]; rfl), hW (fun x y => i01 x a * i01 y b), cell_sum ha hb]
theorem most_B {f T : Nat} {c what : Int} {Mc Mr : oM} (hf : 5000 < f) (h : Rel T c Mc Mr) (hw : (0 ≤ what ∧ what < 12) ∨ what = 100) : ∃ r N M, p_O_most f what Mc = some (r, N) ∧ p_M_most f what Mr = some (r, M) := by
  obtain ⟨hp, hd, ho, -⟩ := id h
  have hf2 : 2000 < f := Nat.lt_trans (by decide) hf
  have hh := rOk_holder ho
  have c4 : Mc 6 4 = p21 (Mr 58 151) := hd.2.2.2.2.1
  have hall : allS (Mr 58) = allS (Mc (6 + 1)) := allS_congr (fun i i0 i1 => (hd.1 i i0 i1).symm)
  have e0 := e_D_owedInAll (f := f) (o := 6) (M := Mc) (Nat.lt_trans (by decide) hf) (dC_dOk hd ho)
  have hcs := cs_all (dC_dOk hd ho)
  have n10 : ¬ (1 : Int) = 0 := by decide
  have eO : p_O_most f what Mc = p_O_most_B28 f what (if what = 100 then 0 else 1) Mc := by
    unfold p_O_most p_O_most_B14 p_O_most_B15
    rcases hw with q | q
    · rw [if_neg (by omega), if_pos q.2, if_neg n10, if_neg (show ¬ what = 100 by omega)]
    · rw [if_neg (by omega), if_neg (by omega), if_pos rfl, if_pos q, if_pos q]
  have eM : p_M_most f what Mr = p_M_most_B18 f what Mr := by
    unfold p_M_most
    rw [e_M_in, Option.bind_some]
    rcases hw with q | q
    · rw [in_t (show 0 ≤ what ∧ what ≤ 11 by omega), b01_t, if_neg n10]
    · rw [in_f (by omega), b01_f, if_pos rfl, if_pos q]
  rw [eO, eM]
  unfold p_O_most_B28 p_M_most_B18
  rw [c4, bnd_eq (by decide) (by decide)]
  rcases hh with z | z
  · rw [z, if_pos (by decide), if_pos (by decide)]
    exact ⟨_, _, _, rfl, rfl⟩
  obtain ⟨w, hw9⟩ : ∃ w : Nat, Mr 58 151 = w := ⟨(Mr 58 151).toNat, (Int.toNat_of_nonneg z.1).symm⟩
  have hw10 : w < 10 := Int.ofNat_lt.mp (hw9 ▸ z.2)
  have p1 : p21 (Mr 58 151) = (w : Int) := by unfold p21; rw [if_neg (by clear e0 hall hcs; omega)]; exact hw9
  have pneg : ¬ (w : Int) < 0 := Int.not_lt.2 (Int.natCast_nonneg w)
  rw [p1, hw9, if_neg pneg, if_neg pneg, e0]
  simp only [Option.bind_some]
  rw [c4, p1]
  by_cases h12 : (12 : Int) < allS (Mc (6 + 1))
  · rw [if_pos h12, e_M_laysCoins_no hf2 (rOk_dOk ho) (hall ▸ h12), Option.bind_some, if_pos rfl]
    exact ⟨_, _, _, rfl, rfl⟩
  · rw [if_neg h12]
    have hn12 : cs (Mc (6 + 1)) 100 ≤ 12 := Int.ofNat_le.mp (by rw [hcs]; exact Int.not_lt.mp h12)
    obtain ⟨M1, m1, m2, m3, m4⟩ := e_M_laysCoins (f := f) (m := 12) (M := Mr) hf2 (rOk_dOk ho) (hall ▸ h12) (by decide)
    obtain ⟨N1, n1, n2, n3⟩ := e_listCoins (f := f) (o := 55) (m := 12) (M := Mc) (by decide) hf2 rfl (dC_dOk hd ho) hn12
    obtain ⟨cf, ct, hcc, hW⟩ := coins_both (dC_dOk hd ho) (fun i i0 i1 => (hd.1 i i0 i1).symm) n2 m3
    have ecs : cs (Mr 58) 100 = cs (Mc (6 + 1)) 100 := cs_congr 100 (fun i hi => (hd.1 i (Int.natCast_nonneg _) (by clear e0 hall hcs hn12 h12; omega)).symm)
    rw [ecs] at m2
    have hg : gOf (Mc 7) (gS cf ct (cs (Mc (6 + 1)) 100) 0) := gS_debts hW
    clear hW n1 n2
    generalize hn : cs (Mc (6 + 1)) 100 = n at *
    have hM : isM M1 n cf ct := ⟨m2, fun j hj => ⟨(hcc j hj).1, (hcc j hj).2.1, (hcc j hj).2.2.2.1, (hcc j hj).2.2.2.2⟩⟩
    obtain ⟨M2, k1, k2, k3⟩ := e_laysMore (f := f) (m := 11) hf hn12 rfl hM
    obtain ⟨N2, g1, g2⟩ := e_planMost (f := f) (s := w) (M := Mc) hf2 hw10 hg (fun a b _ _ => Nat.le_trans (cng_le n) (Nat.le_trans hn12 (by decide))) (11 + 1) rfl
    have e86 : M2 86 (w : Int) = (((gre (11 + 1) (gS cf ct n 0) w).length : Nat) : Int) := by
      have := k2 0 (Nat.zero_le _) (Nat.two_pow_pos n) w hw10
      rw [Nat.mul_zero, Nat.zero_add] at this
      rw [this, gre_len]
    have e151 : M2 58 151 = (w : Int) := (eqo_f k3 58 151 rfl).trans ((eqo_f m4 58 151 rfl).trans hw9)
    have hw4 : (w : Int) < 40960 := Int.lt_trans (nat9 hw10).2 (by decide)
    rw [m1]
    simp only [Option.bind_some]
    rw [if_neg n10, k1, g1]
    simp only [Option.bind_some]
    have b151 : ∀ k : Int → Option (Int × oM), bnd 159 151 k = k 151 := fun k => bnd_eq (by decide) (by decide)
    have b409 : ∀ k : Int → Option (Int × oM), bnd 40960 (w : Int) k = k w := fun k => bnd_nat hw4
    simp only [b151, e151, b409, e86, lt_eq]
    generalize hlen : (gre (11 + 1) (gS cf ct n 0) w).length = len at *
    rcases hw with q | q
    · obtain ⟨u, hu⟩ : ∃ u : Nat, what = (u : Int) := ⟨what.toNat, (Int.toNat_of_nonneg q.1).symm⟩
      have q100 : ¬ what = 100 := by omega
      rw [if_neg q100, if_neg q100, if_neg q100, if_neg n10]
      by_cases hlt : u < len
      · rw [hu, if_pos (nat_lt hlt), if_pos (nat_lt hlt), bnd_nat (hu ▸ q.2), mo_walk hf2 hn12 rfl hw10 (hlen ▸ hlt) (isM_eqo hM k3) k2]
        refine ⟨_, _, M2, rfl, ?_⟩
        rw [g2 u hlt]
      · rw [hu, if_neg (nat_nlt (Nat.le_of_not_lt hlt)), if_neg (nat_nlt (Nat.le_of_not_lt hlt))]
        exact ⟨_, _, _, rfl, rfl⟩
    · rw [if_pos q, if_pos q]
      exact ⟨_, _, _, rfl, rfl⟩
theorem call_most {f T : Nat} {c what : Int} {Mc Mr : oM} (hf : 5000 < f) (h : Rel T c Mc Mr) : Same f c (p_O_most f what Mc) (p_M_most f what Mr) := by
  by_cases hw : (0 ≤ what ∧ what < 12) ∨ what = 100
  · obtain ⟨r, N, M, e1, e2⟩ := most_B hf h hw
    have x1 := fr_O_most (eqo_rfl _ _) _ e1
    have x2 := fr_M_most (eqo_rfl _ _) _ e2
    exact same_upd e1 e2 ⟨T, Rel_try h x1 x2 rfl (fun i _ _ => x2 58 i rfl)⟩
  · refine same_some (r := -1) h ?_ ?_
    · unfold p_O_most p_O_most_B14 p_O_most_B15
      by_cases y : what < 0
      · rw [if_pos y, if_pos rfl, if_neg (by omega)]
      · rw [if_neg y, if_neg (by omega), if_pos rfl, if_neg (by omega)]
    · unfold p_M_most
      rw [e_M_in, in_f (by omega), Option.bind_some, b01_f, if_pos rfl, if_neg (by omega)]
