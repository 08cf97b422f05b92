/-! the longest row: the reference's table -/
def gS (cf ct : Nat → Nat) (n S : Nat) : Nat → Nat → Nat := cng (fun k => !S.testBit k) cf ct n
theorem gS_dec {cf ct : Nat → Nat} {n S k : Nat} (hk : k < n) (hb : S.testBit k = false) : gS cf ct n (S ||| 2 ^ k) = decg (gS cf ct n S) (cf k) (ct k) := by
  funext a b
  unfold gS decg
  show sN _ n = _
  have hne : ∀ j, j ≠ k → (S ||| 2 ^ k).testBit j = S.testBit j := fun j hj => by
    rw [or_bit, decide_eq_false (fun z => hj z.symm), Bool.or_false]
  by_cases q : a = cf k ∧ b = ct k
  · rw [if_pos q]
    have h1 : cng (fun k => !S.testBit k) cf ct n a b = sN (fun j => if (!(S ||| 2 ^ k).testBit j) = true ∧ cf j = a ∧ ct j = b then 1 else 0) n + 1 := by
      refine sN_one n k hk (fun j _ hj => ?_) ?_
      · rw [hne j hj]
      · show (if (!S.testBit k) = true ∧ cf k = a ∧ ct k = b then 1 else 0) = _
        rw [hb, or_bit, hb, decide_eq_true rfl, if_pos ⟨rfl, q.1.symm, q.2.symm⟩, if_neg (fun z => absurd z.1 (by decide))]
    rw [h1, Nat.add_sub_cancel]
  · rw [if_neg q]
    refine sN_congr n fun j _ => ?_
    by_cases hj : j = k
    · subst hj
      rw [if_neg (fun z => q ⟨z.2.1.symm, z.2.2.symm⟩), if_neg (fun z => q ⟨z.2.1.symm, z.2.2.symm⟩)]
    · show (if (!(S ||| 2 ^ k).testBit j) = true ∧ cf j = a ∧ ct j = b then 1 else 0) = (if (!S.testBit j) = true ∧ cf j = a ∧ ct j = b then 1 else 0)
      rw [hne j hj]
theorem gS_pos {cf ct : Nat → Nat} {n S p q : Nat} (h : 0 < gS cf ct n S p q) : ∃ k, k < n ∧ S.testBit k = false ∧ cf k = p ∧ ct k = q := by
  obtain ⟨k, hk, h1⟩ := sN_pos n h
  by_cases z : (!S.testBit k) = true ∧ cf k = p ∧ ct k = q
  · refine ⟨k, hk, ?_, z.2⟩
    cases hb : S.testBit k
    · rfl
    · rw [hb] at z; exact absurd z.1 (by decide)
  · rw [if_neg z] at h1; exact absurd h1 (Nat.lt_irrefl 0)
theorem gS_coin {cf ct : Nat → Nat} {n S k : Nat} (hk : k < n) (hb : S.testBit k = false) : 0 < gS cf ct n S (cf k) (ct k) := by
  have h := sN_le (f := fun j => if (!S.testBit j) = true ∧ cf j = cf k ∧ ct j = ct k then 1 else 0) n k hk
  have e : (if (!S.testBit k) = true ∧ cf k = cf k ∧ ct k = ct k then 1 else 0) = 1 := if_pos ⟨by rw [hb]; rfl, rfl, rfl⟩
  exact Nat.lt_of_lt_of_le (by rw [e]; decide) h
theorem cng_tot {B : Nat → Bool} {cf ct : Nat → Nat} : ∀ k : Nat, (∀ j, j < k → cf j < 10 ∧ ct j < 10) → totg (cng B cf ct k) ≤ k := by
  intro k
  induction k with
  | zero =>
    intro _
    refine Nat.le_of_eq ?_
    show sN (fun v => sN (fun b => 0) 10) 10 = 0
    rw [sN_zero]
    exact sN_zero 10
  | succ k ih =>
    intro h
    cases hb : B k
    · rw [cng_skip hb]
      exact Nat.le_succ_of_le (ih fun j hj => h j (Nat.lt_succ_of_lt hj))
    · have hk := h k (Nat.lt_succ_self k)
      have e1 : ∀ a b, cng B cf ct (k + 1) a b = cng B cf ct k a b + (if B k = true ∧ cf k = a ∧ ct k = b then 1 else 0) := fun a b => rfl
      have e2 : decg (cng B cf ct (k + 1)) (cf k) (ct k) = cng B cf ct k := by
        funext a b
        unfold decg
        rw [e1 a b]
        by_cases q : a = cf k ∧ b = ct k
        · rw [if_pos q, if_pos ⟨hb, q.1.symm, q.2.symm⟩, Nat.add_sub_cancel]
        · rw [if_neg q, if_neg (fun z => q ⟨z.2.1.symm, z.2.2.symm⟩), Nat.add_zero]
      have hp : 0 < cng B cf ct (k + 1) (cf k) (ct k) := by
        rw [e1, if_pos ⟨hb, rfl, rfl⟩]; exact Nat.succ_pos _
      rw [decg_tot hk.1 hk.2 hp, e2]
      exact Nat.succ_le_succ (ih fun j hj => h j (Nat.lt_succ_of_lt hj))
theorem gS_tot {cf ct : Nat → Nat} {n S : Nat} (h : ∀ j, j < n → cf j < 10 ∧ ct j < 10) : totg (gS cf ct n S) ≤ n := cng_tot n h
def cmT (cf ct : Nat → Nat) (n m S p j : Nat) : Nat := if cf j = p ∧ S.testBit j = false then 1 + lng m (gS cf ct n (S ||| 2 ^ j)) (ct j) else 0
theorem cmT_lng {cf ct : Nat → Nat} {n m S j : Nat} (h : ∀ j, j < n → cf j < 10 ∧ ct j < 10) (hm : n ≤ m + 1) (hj : j < n) (hb : S.testBit j = false) : 1 + lng (m + 1) (gS cf ct n (S ||| 2 ^ j)) (ct j) = lngK (lng m) (gS cf ct n S) (cf j) (ct j) := by
  have hp := gS_coin (cf := cf) (ct := ct) hj hb
  have hd := decg_tot (h j hj).1 (h j hj).2 hp
  have ht := gS_tot (S := S) h
  unfold lngK
  rw [if_pos hp, gS_dec hj hb, lng_stab (m + 1) m _ _ (h j hj).2 (by omega) (by omega)]
theorem cm_lng {cf ct : Nat → Nat} {n m S p : Nat} (h : ∀ j, j < n → cf j < 10 ∧ ct j < 10) (hm : n ≤ m + 1) : mxN (cmT cf ct n (m + 1) S p) n = lng (m + 1) (gS cf ct n S) p := by
  apply Nat.le_antisymm
  · refine mxN_le n fun j hj => ?_
    unfold cmT
    by_cases q : cf j = p ∧ S.testBit j = false
    · rw [if_pos q, cmT_lng h hm hj q.2, q.1]
      exact le_mxN (f := lngK (lng m) (gS cf ct n S) p) 10 (ct j) (h j hj).2
    · rw [if_neg q]; exact Nat.zero_le _
  · refine mxN_le 10 fun q hq => ?_
    by_cases z : 0 < gS cf ct n S p q
    · obtain ⟨k, hk, hb, e1, e2⟩ := gS_pos z
      have hl := le_mxN (f := cmT cf ct n (m + 1) S p) n k hk
      refine Nat.le_trans (Nat.le_of_eq ?_) hl
      unfold cmT
      rw [if_pos ⟨e1, hb⟩, cmT_lng h hm hk hb, e1, e2]
    · unfold lngK
      rw [if_neg z]; exact Nat.zero_le _
theorem i2b_small : ∀ a : Nat, a < 13 → i2b (i2b (a : Int)) = (a : Int) := by decide +kernel
theorem w32add {a b : Nat} (ha : a < 1000000) (hb : b < 1000000) : w32 ((a : Int) + (b : Int)) = ((a + b : Nat) : Int) := by
  rw [w32_of (by omega) (by omega)]; rfl
theorem w32mul10 {a : Nat} (ha : a < 1000000) : w32 (10 * (a : Int)) = ((10 * a : Nat) : Int) := by
  rw [w32_of (by omega) (by omega)]; omega
theorem bnd_nat {α : Type} {n : Int} {i : Nat} {k : Int → Option α} (h : (i : Int) < n) : bnd n (i : Int) k = k (i : Int) := bnd_eq (Int.natCast_nonneg i) h
theorem w1add {b : Nat} (hb : b < 1000000) : w32 (1 + (b : Int)) = ((1 + b : Nat) : Int) := by
  rw [w32_of (by omega) (by omega)]; rfl
theorem nat40960 {S c : Nat} (hS : S < 4096) (hc : c < 10) : ((10 * S + c : Nat) : Int) < 40960 := by omega
theorem mm_step {f n S p k A T a c : Nat} {M : oM} (hk : k < n) (hn : n ≤ 12) (hS : S < 4096) (h50 : M 57 50 = (n : Int)) (h84 : M 84 (k : Int) = (a : Int)) (h85 : M 85 (k : Int) = (c : Int)) (hc : c < 10) (hU : S ||| 2 ^ k < 4096) (hT : a = p → S.testBit k = false → M 86 ((10 * (S ||| 2 ^ k) + c : Nat) : Int) = (T : Int)) (hT1 : T < 1000) :
    p_M_laysMore_L29 f S p ((A : Int), (k : Int), M) = some (.inl (((max A (if a = p ∧ S.testBit k = false then 1 + T else 0) : Nat) : Int), ((k + 1 : Nat) : Int), M)) := by
  have hk12 : (k : Int) < 12 := nat_lt (Nat.lt_of_lt_of_le hk hn)
  have hk31 : k < 31 := Nat.lt_trans (Nat.lt_of_lt_of_le hk hn) (by decide)
  have w1 : w32 ((k : Int) + 1) = ((k + 1 : Nat) : Int) := w32nat (Nat.lt_trans hk31 (by decide))
  have hp2 : 2 ^ k < 4096 := Nat.pow_lt_pow_right (a := 2) (by decide) (Nat.lt_of_lt_of_le hk hn)
  unfold p_M_laysMore_L29 p_M_laysMore_B89_29
  simp only []
  rw [h50, if_pos (nat_lt hk), bnd_nat hk12, h84]
  by_cases q : a = p
  · rw [if_pos (by rw [q]), e_M_has (Nat.lt_trans hS (by decide)) (Nat.lt_trans hk31 (by decide)), Option.bind_some]
    cases hb : S.testBit k
    · have hT' := hT q hb
      rw [if_pos (show a = p ∧ false = false from ⟨q, rfl⟩), if_pos (show (b01 false, M).fst = (0 : Int) from rfl), bnd_nat hk12, ishl1 hk31, ior_nat (Nat.lt_trans hS (by decide)) (Nat.lt_trans hp2 (by decide)), w32mul10 (Nat.lt_trans hU (by decide)), show (b01 false, M).snd 85 (k : Int) = (c : Int) from h85, w32add (Nat.lt_trans (show 10 * (S ||| 2 ^ k) < 40960 from Nat.mul_lt_mul_of_pos_left hU (by decide)) (by decide)) (Nat.lt_trans hc (by decide)), bnd_nat (nat40960 hU hc), show (b01 false, M).snd 86 ((10 * (S ||| 2 ^ k) + c : Nat) : Int) = (T : Int) from hT', w1add (Nat.lt_trans hT1 (by decide)), e_M_max, mx_nat, Option.bind_some, lt_eq, w1]
    · rw [if_neg (show ¬ (a = p ∧ true = false) from fun z => absurd z.2 (by decide)), if_neg (show ¬ (b01 true, M).fst = (0 : Int) from fun z => absurd (show (1 : Int) = 0 from z) (by decide)), lt_eq, w1, Nat.max_eq_left (Nat.zero_le _)]
  · rw [if_neg (natne q), if_neg (show ¬ (a = p ∧ S.testBit k = false) from fun z => q z.1), lt_eq, w1, Nat.max_eq_left (Nat.zero_le _)]
/-- the table for the sets from S on, and of set S for the persons below p -/
def tbM (cf ct : Nat → Nat) (n m : Nat) (M : oM) (S p : Nat) : Prop := (∀ S', S < S' → S' < 2 ^ n → ∀ q, q < 10 → M 86 ((10 * S' + q : Nat) : Int) = ((lng m (gS cf ct n S') q : Nat) : Int)) ∧ ∀ q, q < p → M 86 ((10 * S + q : Nat) : Int) = ((lng m (gS cf ct n S) q : Nat) : Int)
theorem or_gt {S k : Nat} (hb : S.testBit k = false) : S < S ||| 2 ^ k := by
  refine Nat.lt_of_le_of_ne Nat.left_le_or fun e => ?_
  have h : (S ||| 2 ^ k).testBit k = true := by rw [or_bit, decide_eq_true rfl, Bool.or_true]
  rw [← e, hb] at h
  exact absurd h (by decide)
theorem or_ltn {S k n : Nat} (hS : S < 2 ^ n) (hk : k < n) : S ||| 2 ^ k < 2 ^ n := Nat.or_lt_two_pow hS (Nat.pow_lt_pow_right (a := 2) (by decide) hk)
theorem mm_row {f n m S p : Nat} {M : oM} {cf ct : Nat → Nat} (hf : 2000 < f) (hn : n ≤ 12) (hm : m + 1 = 12) (hS : S < 2 ^ n) (hM : isM M n cf ct) (hT : tbM cf ct n (m + 1) M S p) : iter (p_M_laysMore_L29 f S p) f (0, 0, M) = some (((lng (m + 1) (gS cf ct n S) p : Nat) : Int), M) := by
  have p2 : 2 ^ n ≤ 2 ^ 12 := Nat.pow_le_pow_right (by decide) hn
  have hcc : ∀ j, j < n → cf j < 10 ∧ ct j < 10 := fun j hj => ⟨(hM.2 j hj).1, (hM.2 j hj).2.1⟩
  rw [← cm_lng hcc (by omega : n ≤ m + 1)]
  refine iter_up n (fun i => (((mxN (cmT cf ct n (m + 1) S p) i : Nat) : Int), (i : Int), M)) _ ?_ ?_ f (Nat.lt_of_le_of_lt hn (Nat.lt_trans (by decide) hf))
  · intro k hk
    have hc := hM.2 k hk
    have hU := or_ltn hS hk
    show p_M_laysMore_L29 f S p (((mxN (cmT cf ct n (m + 1) S p) k : Nat) : Int), (k : Int), M) = _
    rw [mm_step (T := lng (m + 1) (gS cf ct n (S ||| 2 ^ k)) (ct k)) hk hn (Nat.lt_of_lt_of_le hS p2) hM.1 hc.2.2.1 hc.2.2.2 hc.2.1 (Nat.lt_of_lt_of_le hU p2) (fun _ hb => hT.1 _ (or_gt hb) hU _ hc.2.1) (Nat.lt_of_le_of_lt (lng_le _ _ _) (by rw [hm]; decide))]
    rfl
  · show p_M_laysMore_L29 f S p (_, (n : Int), M) = _
    unfold p_M_laysMore_L29
    simp only []
    rw [hM.1, if_neg (Int.lt_irrefl _)]
theorem isM_eqo {M N : oM} {n : Nat} {cf ct : Nat → Nat} (h : isM M n cf ct) (e : eqo [(86, (-1))] M N) : isM N n cf ct := ⟨(eqo_f e 57 50 rfl).trans h.1, fun j hj => ⟨(h.2 j hj).1, (h.2 j hj).2.1, (congrFun (eqo_a e 84 rfl) _).trans (h.2 j hj).2.2.1, (congrFun (eqo_a e 85 rfl) _).trans (h.2 j hj).2.2.2⟩⟩
theorem mm_put {f n m S p : Nat} {M : oM} {cf ct : Nat → Nat} (hn : n ≤ 12) (hm : m + 1 = 12) (hS : S < 2 ^ n) (hp : p < 10) (hT : tbM cf ct n (m + 1) M S p) : ∃ N, p_M_laysMore_X29 f S p (((lng (m + 1) (gS cf ct n S) p : Nat) : Int), M) = some (.inl (((p + 1 : Nat) : Int), N)) ∧ tbM cf ct n (m + 1) N S (p + 1) ∧ eqo [(86, (-1))] M N := by
  have p2 : 2 ^ n ≤ 2 ^ 12 := Nat.pow_le_pow_right (by decide) hn
  have hS12 : S < 4096 := Nat.lt_of_lt_of_le hS p2
  have hv : lng (m + 1) (gS cf ct n S) p < 13 := Nat.lt_succ_of_le (hm ▸ lng_le _ _ _)
  refine ⟨oU M 86 ((10 * S + p : Nat) : Int) ((lng (m + 1) (gS cf ct n S) p : Nat) : Int), ?_, ⟨fun S' h1 h2 q hq => ?_, fun q hq => ?_⟩, eqo_oUa (.head _) (eqo_rfl _ _)⟩
  · unfold p_M_laysMore_X29
    simp only []
    rw [w32mul10 (Nat.lt_trans hS12 (by decide)), w32add (Nat.lt_trans (show 10 * S < 40960 from Nat.mul_lt_mul_of_pos_left hS12 (by decide)) (by decide)) (Nat.lt_trans hp (by decide)), bnd_nat (nat40960 hS12 hp), lt_eq, i2b_small _ hv, lt_eq, w32nat (Nat.lt_trans hp (by decide))]
  · rw [oU_i (natne (show 10 * S' + q ≠ 10 * S + p by omega))]
    exact hT.1 S' h1 h2 q hq
  · by_cases e : q = p
    · rw [e, oU_at]
    · rw [oU_i (natne (show 10 * S + q ≠ 10 * S + p by omega))]
      exact hT.2 q (by omega)
theorem mm_set {f n m S : Nat} {M : oM} {cf ct : Nat → Nat} (hf : 2000 < f) (hn : n ≤ 12) (hm : m + 1 = 12) (hS : S < 2 ^ n) (hM : isM M n cf ct) (hT : tbM cf ct n (m + 1) M S 0) : ∃ N, iter (p_M_laysMore_L17 f S) f (0, M) = some N ∧ tbM cf ct n (m + 1) N S 10 ∧ eqo [(86, (-1))] M N := by
  refine okp_ex (for_ok 10 (fun (p : Nat) (s : Int × oM) => s.1 = (p : Int) ∧ tbM cf ct n (m + 1) s.2 S p ∧ eqo [(86, (-1))] M s.2) (fun p s hp hI => ?_) (fun s hI => ?_) f (Nat.lt_trans (by decide) hf) ⟨rfl, hT, eqo_rfl _ _⟩)
  · obtain ⟨j, N⟩ := s
    obtain ⟨i1, i2, i3⟩ := hI
    simp only at i1 i2 i3
    subst i1
    obtain ⟨N', e, h1, h2⟩ := mm_put (f := f) hn hm hS hp i2
    unfold p_M_laysMore_L17
    simp only []
    rw [if_pos (nat9 hp).2, mm_row hf hn hm hS (isM_eqo hM i3) i2, Option.bind_some, e]
    exact ⟨rfl, h1, eqo_tt i3 h2⟩
  · obtain ⟨j, N⟩ := s
    obtain ⟨i1, i2, i3⟩ := hI
    simp only at i1 i2 i3
    subst i1
    unfold p_M_laysMore_L17
    simp only []
    rw [if_neg (show ¬ (((10 : Nat) : Int) < 10) by decide)]
    exact ⟨i2, i3⟩
def tbAll (cf ct : Nat → Nat) (n m : Nat) (M : oM) (K : Nat) : Prop := ∀ S', K ≤ S' → S' < 2 ^ n → ∀ q, q < 10 → M 86 ((10 * S' + q : Nat) : Int) = ((lng m (gS cf ct n S') q : Nat) : Int)
theorem e_laysMore {f n m : Nat} {M : oM} {cf ct : Nat → Nat} (hf : 5000 < f) (hn : n ≤ 12) (hm : m + 1 = 12) (hM : isM M n cf ct) : ∃ N, p_M_laysMore f M = some (0, N) ∧ tbAll cf ct n (m + 1) N 0 ∧ eqo [(86, (-1))] M N := by
  have p2 : 2 ^ n ≤ 4096 := Nat.pow_le_pow_right (n := 2) (by decide) hn
  have p0 : 0 < 2 ^ n := Nat.two_pow_pos n
  have hr : okp (p_M_laysMore f M) (fun q => q.1 = 0 ∧ tbAll cf ct n (m + 1) q.2 0 ∧ eqo [(86, (-1))] M q.2) := by
    unfold p_M_laysMore
    rw [hM.1, ishl1 (Nat.lt_of_le_of_lt hn (by decide)), lt_eq]
    refine for_ok (2 ^ n) (fun (i : Nat) (s : Int × oM) => s.1 = ((2 ^ n : Nat) : Int) - 1 - (i : Int) ∧ tbAll cf ct n (m + 1) s.2 (2 ^ n - i) ∧ eqo [(86, (-1))] M s.2) (fun i s hi hI => ?_) (fun s hI => ?_) f (Nat.lt_of_le_of_lt p2 (Nat.lt_trans (by decide) hf)) ⟨?_, fun S' h1 h2 => absurd h1 (Nat.not_le.mpr h2), eqo_rfl _ _⟩
    · obtain ⟨j, N⟩ := s
      obtain ⟨i1, i2, i3⟩ := hI
      simp only at i1 i2 i3
      obtain ⟨S, hS⟩ : ∃ S, S + 1 + i = 2 ^ n := ⟨2 ^ n - 1 - i, by omega⟩
      have hSn : S < 2 ^ n := by omega
      have ej : j = (S : Int) := by omega
      subst ej
      obtain ⟨N', e, h1, h2⟩ := mm_set (f := f) (M := N) (Nat.lt_trans (by decide) hf) hn hm hSn (isM_eqo hM i3) ⟨fun S' a1 a2 q hq => i2 S' (by omega) a2 q hq, fun q hq => absurd hq (Nat.not_lt_zero _)⟩
      unfold p_M_laysMore_L11
      simp only []
      rw [if_neg (Int.not_lt.mpr (Int.natCast_nonneg S)), e, Option.bind_some]
      unfold p_M_laysMore_X17
      rw [lt_eq]
      refine ⟨?_, fun S' a1 a2 q hq => ?_, eqo_tt i3 h2⟩
      · show w32 ((S : Int) + -1) = _
        clear i2 e h1 h2 i3
        rw [w32_of (by omega) (by omega)]
        omega
      · show N' 86 _ = _
        by_cases z : S' = S
        · rw [z]; exact h1.2 q hq
        · exact h1.1 S' (by omega) a2 q hq
    · obtain ⟨j, N⟩ := s
      obtain ⟨i1, i2, i3⟩ := hI
      simp only at i1 i2 i3
      rw [Nat.sub_self] at i2
      unfold p_M_laysMore_L11
      simp only []
      rw [if_pos (by omega)]
      exact ⟨rfl, i2, i3⟩
    · show w32 (((2 ^ n : Nat) : Int) - 1) = _
      generalize 2 ^ n = P at *
      rw [w32_of (by omega) (by omega)]
      omega
  obtain ⟨q, eq, h1, h2⟩ := okp_ex hr
  exact ⟨q.2, by rw [eq, ← h1], h2⟩
