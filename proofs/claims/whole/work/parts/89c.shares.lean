/-! a share of the coins: its bits, hours, debts -/
theorem nat_lt {a b : Nat} (h : a < b) : (a : Int) < (b : Int) := Int.ofNat_lt.mpr h
theorem nat_nlt {a b : Nat} (h : b ≤ a) : ¬ (a : Int) < (b : Int) := fun q => Nat.not_lt.mpr h (Int.ofNat_lt.mp q)
theorem notbit {S k : Nat} (hk : k < 31) : iand (ishr (ixor S (-1)) k) 1 = b01 (!S.testBit k) := by
  have h1 : ∀ i : Nat, i < 32 → (nI S).toBitVec.getLsbD i = S.testBit i := fun i hi => by
    show (BitVec.ofNat 32 S).getLsbD i = _
    rw [BitVec.getLsbD_ofNat, decide_eq_true hi, Bool.true_and]
  unfold iand ishr ixor
  rw [ofInt_toInt32, ofInt_toInt32, ofInt_nI, ofInt_nI, (oc_sm k (by omega)).2]
  have e1 : ((nI S ^^^ Int32.ofInt (-1)) >>> nI k).toBitVec = ((nI S).toBitVec ^^^ BitVec.allOnes 32).sshiftRight k := by
    rw [Int32.toBitVec_shiftRight, BitVec.sshiftRight_eq', (oc_sm k (by omega)).1, Int32.toBitVec_xor]
    rfl
  have e : ((nI S ^^^ Int32.ofInt (-1)) >>> nI k &&& Int32.ofInt 1) = if S.testBit k then (0 : Int32) else 1 := by
    apply Int32.toBitVec_inj.1
    rw [Int32.toBitVec_and, e1]
    apply BitVec.eq_of_getLsbD_eq
    intro i hi
    rw [BitVec.getLsbD_and, show (Int32.ofInt 1).toBitVec = 1#32 from by decide, BitVec.getLsbD_one]
    by_cases hi0 : i = 0
    · subst hi0
      rw [BitVec.getLsbD_sshiftRight]
      have hk2 : k + 0 < 32 := by omega
      rw [if_pos hk2, BitVec.getLsbD_xor, h1 (k + 0) hk2, BitVec.getLsbD_allOnes]
      have hk3 : k < 32 := by omega
      cases hb : S.testBit k <;> simp [hb, hk3]
    · cases hb : S.testBit k
      · simp [hi0, hb, show (1 : Int32).toBitVec = 1#32 from by decide, BitVec.getLsbD_one]
      · simp [hi0, hb]
  rw [e]
  cases S.testBit k <;> rfl
abbrev isC (M : oM) (o n : Nat) (cf ct : Nat → Nat) : Prop := ∀ j : Nat, j < n → cf j < 10 ∧ ct j < 10 ∧ M o j = 10 * (cf j : Int) + (ct j : Int)
abbrev isM (M : oM) (n : Nat) (cf ct : Nat → Nat) : Prop := M 57 50 = (n : Int) ∧ ∀ j : Nat, j < n → cf j < 10 ∧ ct j < 10 ∧ M 84 j = (cf j : Int) ∧ M 85 j = (ct j : Int)
def hrS (X Y : Int → Int) (B : Nat → Bool) (cf ct : Nat → Nat) (k : Nat) : Int := if B k then wayS X Y (cf k) (ct k) else 0
theorem hrS_bd {X Y : Int → Int} {B : Nat → Bool} {cf ct : Nat → Nat} {k : Nat} (hX : spotOk X) (hY : spotOk Y) (h1 : cf k < 10) (h2 : ct k < 10) : 0 ≤ hrS X Y B cf ct k ∧ hrS X Y B cf ct k ≤ 18 := by
  have := wayS_bd hX hY (nat9 h1) (nat9 h2)
  unfold hrS
  split
  · exact ⟨Int.le_trans (by decide) this.1, this.2⟩
  · decide
theorem hc_step {f n i : Nat} {l1 s a b : Int} {M : oM} {B : Bool} (hi : i < n) (hn : n ≤ 8) (hB : iand (ishr l1 i) 1 = b01 B) (h45 : M 45 i = 10 * a + b) (ha : 0 ≤ a ∧ a < 10) (hb : 0 ≤ b ∧ b < 10) (hX : spotOk (M 4)) (hY : spotOk (M 5)) (hs : 0 ≤ s ∧ s ≤ 1000) : p_R_hoursOf_L5 f l1 n (s, (i : Int), M) = some (.inl (s + (if B then wayS (M 4) (M 5) a b else 0), (i : Int) + 1, M)) := by
  have hw := wayS_bd hX hY ha hb
  have hi8 : (i : Int) < 8 := nat_lt (Nat.lt_of_lt_of_le hi hn)
  have hw1 : w32 ((i : Int) + 1) = (i : Int) + 1 := w32nat (Nat.lt_trans (Nat.lt_of_lt_of_le hi hn) (by decide))
  unfold p_R_hoursOf_L5 p_R_hoursOf_B58_5
  simp only []
  rw [if_pos (nat_lt hi), if_pos hi8, hB]
  cases B
  · rw [b01_f, if_neg (by decide), lt_eq, hw1, if_neg (by decide), Int.add_zero]
  · rw [b01_t, if_pos rfl, bnd_eq (Int.natCast_nonneg _) hi8, nz_eq (by decide), bnd_eq (Int.natCast_nonneg _) hi8, nz_eq (by decide), h45, (tdiv10 ha hb).1, (tdiv10 ha hb).2, e_P_way hX hY ha hb]
    simp only [Option.bind_some]
    rw [lt_eq, lt_eq, hw1, if_pos trivial, w32_of (by clear hB h45; omega) (by clear hB h45; omega)]
theorem e_hoursOf {f n : Nat} {l1 : Int} {M : oM} {B : Nat → Bool} {cf ct : Nat → Nat} (hf : 2000 < f) (hn : n ≤ 8) (hB : ∀ k : Nat, k < n → iand (ishr l1 k) 1 = b01 (B k)) (hC : isC M 45 n cf ct) (hX : spotOk (M 4)) (hY : spotOk (M 5)) : p_R_hoursOf f l1 n M = some (sumN (hrS (M 4) (M 5) B cf ct) n, M) := by
  unfold p_R_hoursOf
  refine sum_loop (g := hrS (M 4) (M 5) B cf ct) n 18 ⟨by decide, by omega⟩ (fun k hk => hrS_bd hX hY (hC k hk).1 (hC k hk).2.1) ?_ ?_ f (by omega)
  · intro i s hi h0 h1
    exact hc_step hi hn (hB i hi) (hC i hi).2.2 (nat9 (hC i hi).1) (nat9 (hC i hi).2.1) hX hY ⟨h0, by omega⟩
  · intro s
    unfold p_R_hoursOf_L5
    simp only []
    rw [if_neg (Int.lt_irrefl _)]
theorem hm_step {f n i S : Nat} {s a b : Int} {M : oM} (hi : i < n) (hn : n ≤ 12) (hS : S < 2147483648) (h50 : M 57 50 = (n : Int)) (h84 : M 84 i = a) (h85 : M 85 i = b) (ha : 0 ≤ a ∧ a < 10) (hb : 0 ≤ b ∧ b < 10) (hX : spotOk (M 61)) (hY : spotOk (M 62)) (hs : 0 ≤ s ∧ s ≤ 1000) : p_M_hoursOf_L4 f S (s, (i : Int), M) = some (.inl (s + (if S.testBit i then wayS (M 61) (M 62) a b else 0), (i : Int) + 1, M)) := by
  have hw := wayS_bd hX hY ha hb
  have hi8 : (i : Int) < 12 := nat_lt (Nat.lt_of_lt_of_le hi hn)
  have hw1 : w32 ((i : Int) + 1) = (i : Int) + 1 := w32nat (Nat.lt_trans (Nat.lt_of_lt_of_le hi hn) (by decide))
  unfold p_M_hoursOf_L4 p_M_hoursOf_B41_4
  simp only []
  rw [h50, if_pos (nat_lt hi), e_M_has hS (Nat.lt_trans (Nat.lt_of_lt_of_le hi hn) (by decide))]
  simp only [Option.bind_some]
  cases S.testBit i
  · rw [b01_f, if_pos rfl, lt_eq, lt_eq, hw1, if_neg (by decide), Int.add_zero, w32_of (by omega) (by omega)]
  · rw [b01_t, if_neg (by decide), bnd_eq (Int.natCast_nonneg _) hi8, bnd_eq (Int.natCast_nonneg _) hi8, h84, h85, e_M_wayOf hX hY ha hb]
    simp only [Option.bind_some]
    rw [lt_eq, lt_eq, hw1, if_pos trivial, w32_of (by clear h84 h85 h50; omega) (by clear h84 h85 h50; omega)]
theorem e_M_hoursOf {f n S : Nat} {M : oM} {cf ct : Nat → Nat} (hf : 2000 < f) (hn : n ≤ 12) (hS : S < 2147483648) (hC : isM M n cf ct) (hX : spotOk (M 61)) (hY : spotOk (M 62)) : p_M_hoursOf f S M = some (sumN (hrS (M 61) (M 62) S.testBit cf ct) n, M) := by
  unfold p_M_hoursOf
  refine sum_loop (g := hrS (M 61) (M 62) S.testBit cf ct) n 18 ⟨by decide, by omega⟩ (fun k hk => hrS_bd hX hY (hC.2 k hk).1 (hC.2 k hk).2.1) ?_ ?_ f (by omega)
  · intro i s hi h0 h1
    exact hm_step hi hn hS hC.1 (hC.2 i hi).2.2.1 (hC.2 i hi).2.2.2 (nat9 (hC.2 i hi).1) (nat9 (hC.2 i hi).2.1) hX hY ⟨h0, by omega⟩
  · intro s
    unfold p_M_hoursOf_L4
    simp only []
    rw [hC.1, if_neg (Int.lt_irrefl _)]
/-- how many of the first k coins, of those in B, go from a to b -/
def cng (B : Nat → Bool) (cf ct : Nat → Nat) (k : Nat) : Nat → Nat → Nat := fun a b => sN (fun j => if B j = true ∧ cf j = a ∧ ct j = b then 1 else 0) k
theorem cng_congr {B B' : Nat → Bool} {cf ct : Nat → Nat} {k : Nat} (h : ∀ j, j < k → B j = B' j) : cng B cf ct k = cng B' cf ct k := by
  funext a b
  exact sN_congr k fun j hj => by rw [h j hj]
theorem cng_le {B : Nat → Bool} {cf ct : Nat → Nat} {a b : Nat} (k : Nat) : cng B cf ct k a b ≤ k := by
  induction k with
  | zero => exact Nat.le_refl _
  | succ k ih =>
    show cng B cf ct k a b + (if B k = true ∧ cf k = a ∧ ct k = b then 1 else 0) ≤ k + 1
    refine Nat.add_le_add ih ?_
    split
    · exact Nat.le_refl _
    · exact Nat.zero_le _
theorem cng_skip {B : Nat → Bool} {cf ct : Nat → Nat} {k : Nat} (h : B k = false) : cng B cf ct (k + 1) = cng B cf ct k := by
  funext a b
  show cng B cf ct k a b + (if B k = true ∧ cf k = a ∧ ct k = b then 1 else 0) = _
  rw [if_neg (fun q => by rw [h] at q; exact absurd q.1 (by decide)), Nat.add_zero]
theorem gOf_put {M : oM} {o k : Nat} {B : Nat → Bool} {cf ct : Nat → Nat} (h : gOf (M o) (cng B cf ct k)) (hB : B k = true) (h1 : cf k < 10) (h2 : ct k < 10) {i v : Int} (hi : i = 10 * (cf k : Int) + ct k) (hv : v = M o i + 1) : gOf (oU M o i v o) (cng B cf ct (k + 1)) := by
  intro a b ha hb
  show _ = ((cng B cf ct k a b + (if B k = true ∧ cf k = a ∧ ct k = b then 1 else 0) : Nat) : Int)
  by_cases q : cf k = a ∧ ct k = b
  · rw [if_pos ⟨hB, q⟩]
    have e : 10 * (a : Int) + b = i := by rw [hi, q.1, q.2]
    rw [e, oU_at, hv, ← e, h a b ha hb]
    rfl
  · rw [if_neg (fun z => q z.2), Nat.add_zero, oU_i (fun z => q ?_)]
    · exact h a b ha hb
    · rw [hi] at z
      clear h hv hi
      omega
theorem sh_put {f o n i : Nat} {l1 x : Int} {M : oM} (hi : i < n) (hn : n ≤ 8) (hB : iand (ishr l1 i) 1 = 1) (h45 : M 45 i = x) (hx : 0 ≤ x ∧ x < 100) (hv : w32 (M o x + 1) = M o x + 1) : p_R_setShare_L8 f o l1 n ((i : Int), M) = some (.inl (((i + 1 : Nat) : Int), oU M o x (M o x + 1))) := by
  have hi8 : (i : Int) < 8 := nat_lt (Nat.lt_of_lt_of_le hi hn)
  unfold p_R_setShare_L8 p_R_setShare_B44_8
  simp only []
  rw [if_pos (nat_lt hi), if_pos hi8, hB, if_pos rfl, bnd_eq (Int.natCast_nonneg _) hi8, h45, bnd_eq hx.1 hx.2, bnd_eq hx.1 hx.2, lt_eq, lt_eq, hv, w32nat (Nat.lt_trans (Nat.lt_of_lt_of_le hi hn) (by decide))]
theorem sh_skip {f o n i : Nat} {l1 : Int} {M : oM} (hi : i < n) (hn : n ≤ 8) (hB : iand (ishr l1 i) 1 = 0) : p_R_setShare_L8 f o l1 n ((i : Int), M) = some (.inl (((i + 1 : Nat) : Int), M)) := by
  have hi8 : (i : Int) < 8 := nat_lt (Nat.lt_of_lt_of_le hi hn)
  unfold p_R_setShare_L8 p_R_setShare_B44_8
  simp only []
  rw [if_pos (nat_lt hi), if_pos hi8, hB, if_neg (by decide), lt_eq, w32nat (Nat.lt_trans (Nat.lt_of_lt_of_le hi hn) (by decide))]
theorem nat100 {a b : Nat} (ha : a < 10) (hb : b < 10) : 0 ≤ 10 * (a : Int) + b ∧ 10 * (a : Int) + b < 100 := by omega
theorem small32 {k n : Nat} (h : k ≤ n) (hn : n ≤ 99) : w32 ((k : Int) + 1) = (k : Int) + 1 := by
  rw [w32_of (by omega) (by omega)]
theorem cng0 {B : Nat → Bool} {cf ct : Nat → Nat} (a b : Nat) : cng B cf ct 0 a b = 0 := rfl
theorem e_setShare {f o n : Nat} {l1 : Int} {M : oM} {B : Nat → Bool} {cf ct : Nat → Nat} (hf : 2000 < f) (hn : n ≤ 8) (ho : outa [(o, (-1))] 45 = true) (hB : ∀ k : Nat, k < n → iand (ishr l1 k) 1 = b01 (B k)) (hC : isC M 45 n cf ct) : ∃ N, p_R_setShare f o l1 n M = some (0, N) ∧ gOf (N o) (cng B cf ct n) ∧ eqo [(o, (-1))] M N := by
  obtain ⟨q0, e0, h0⟩ := okp_ex (e_fill (f := f) (o := o) (n := 100) (v := 0) (M := M) (by decide) hf)
  have f0 := fr_JA_fill (eqo_rfl _ _) _ e0
  have hg0 : gOf (q0.2 o) (cng B cf ct 0) := fun a b ha hb => h0 _ (nat100 ha hb).1 (nat100 ha hb).2
  have hr : okp (p_R_setShare f o l1 n M) (fun q => q.1 = 0 ∧ gOf (q.2 o) (cng B cf ct n) ∧ eqo [(o, (-1))] M q.2) := by
    unfold p_R_setShare
    rw [e0]
    show okp (iter (p_R_setShare_L8 f o l1 n) f (0, q0.2)) _
    refine for_ok n (fun (k : Nat) (s : Int × oM) => s.1 = (k : Int) ∧ gOf (s.2 o) (cng B cf ct k) ∧ eqo [(o, (-1))] M s.2) ?_ ?_ f (Nat.lt_of_le_of_lt hn (Nat.lt_trans (by decide) hf)) ⟨rfl, hg0, f0⟩
    · intro k s hk hI
      have e : s = ((k : Int), s.2) := Prod.ext hI.1 rfl
      have hc := hC k hk
      have e45 : s.2 45 (k : Int) = 10 * (cf k : Int) + ct k := (congrFun (eqo_a hI.2.2 45 ho) _).trans hc.2.2
      cases hb : B k
      · have e3 := sh_skip (f := f) (o := o) (M := s.2) hk hn ((hB k hk).trans (by rw [hb]; rfl))
        rw [← e] at e3
        rw [e3]
        exact ⟨rfl, by rw [cng_skip hb]; exact hI.2.1, hI.2.2⟩
      · have ev : s.2 o (10 * (cf k : Int) + ct k) = ((cng B cf ct k (cf k) (ct k) : Nat) : Int) := hI.2.1 _ _ hc.1 hc.2.1
        have e3 := sh_put (f := f) (o := o) (M := s.2) hk hn ((hB k hk).trans (by rw [hb]; rfl)) e45 (nat100 hc.1 hc.2.1) (by rw [ev]; exact small32 (cng_le k) (Nat.le_trans (Nat.le_of_lt hk) (Nat.le_trans hn (by decide))))
        rw [← e] at e3
        rw [e3]
        exact ⟨rfl, gOf_put hI.2.1 hb hc.1 hc.2.1 rfl rfl, eqo_oUa (.head _) hI.2.2⟩
    · intro s hI
      have e : s = ((n : Int), s.2) := Prod.ext hI.1 rfl
      have e3 : p_R_setShare_L8 f o l1 n ((n : Int), s.2) = some (.inr (0, s.2)) := by
        unfold p_R_setShare_L8
        simp only []
        rw [if_neg (Int.lt_irrefl _)]
      rw [← e] at e3
      rw [e3]
      exact ⟨rfl, hI.2⟩
  obtain ⟨q, eq, h1, h2⟩ := okp_ex hr
  exact ⟨q.2, by rw [eq, ← h1], h2⟩
