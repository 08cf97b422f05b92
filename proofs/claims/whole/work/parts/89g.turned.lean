/-! debts turned round: when all come out even, on both sides -/
def i01 (a b : Nat) : Int := if a = b then 1 else 0
/-- what coin j does to p: 1 for a coin got, -1 for a coin given, the other way round where it is turned -/
def evj (B : Nat → Bool) (cf ct : Nat → Nat) (p j : Nat) : Int := if B j then i01 (cf j) p - i01 (ct j) p else i01 (ct j) p - i01 (cf j) p
def evs (B : Nat → Bool) (cf ct : Nat → Nat) (p k : Nat) : Int := sumN (evj B cf ct p) k
def allE (B : Nat → Bool) (cf ct : Nat → Nat) (n : Nat) : Prop := ∀ p : Nat, p < 10 → evs B cf ct p n = 0
def tu2 (B : Nat → Bool) (cf ct : Nat → Nat) (p j : Nat) : Int := if B j then 2 * i01 (cf j) p - 2 * i01 (ct j) p else 0
theorem i01_bd (a b : Nat) : 0 ≤ i01 a b ∧ i01 a b ≤ 1 := by unfold i01; split <;> decide
theorem sumN_sub {f g : Nat → Int} (n : Nat) : sumN (fun k => f k - g k) n = sumN f n - sumN g n := by
  induction n with
  | zero => rfl
  | succ n ih =>
    show sumN (fun k => f k - g k) n + (f n - g n) = (sumN f n + f n) - (sumN g n + g n)
    rw [ih]
    generalize sumN f n = a
    generalize sumN g n = b
    omega
theorem sumN_add2 {f g : Nat → Int} (n : Nat) : sumN (fun k => f k + g k) n = sumN f n + sumN g n := by
  induction n with
  | zero => rfl
  | succ n ih =>
    show sumN (fun k => f k + g k) n + (f n + g n) = (sumN f n + f n) + (sumN g n + g n)
    rw [ih]
    generalize sumN f n = a
    generalize sumN g n = b
    omega
theorem sumN_pick0 {g : Nat → Int} {p : Nat} : ∀ n : Nat, n ≤ p → sumN (fun k => if k = p then g k else 0) n = 0 := by
  intro n
  induction n with
  | zero => intro _; rfl
  | succ n ih =>
    intro h
    show sumN (fun k => if k = p then g k else 0) n + (if n = p then g n else 0) = 0
    rw [ih (Nat.le_of_succ_le h), if_neg (Nat.ne_of_lt h)]
    rfl
theorem sumN_pick {g : Nat → Int} {p : Nat} : ∀ n : Nat, p < n → sumN (fun k => if k = p then g k else 0) n = g p := by
  intro n
  induction n with
  | zero => intro h; exact absurd h (Nat.not_lt_zero _)
  | succ n ih =>
    intro h
    show sumN (fun k => if k = p then g k else 0) n + (if n = p then g n else 0) = g p
    by_cases q : n = p
    · subst q
      rw [sumN_pick0 n (Nat.le_refl n), if_pos rfl, Int.zero_add]
    · rw [if_neg q, ih (Nat.lt_of_le_of_ne (Nat.le_of_lt_succ h) (fun z => q z.symm)), Int.add_zero]
theorem sumN_zero (n : Nat) : sumN (fun _ => (0 : Int)) n = 0 := by rw [sumN_const, Int.mul_zero]
theorem wOf_coins {d : Int → Int} {p m : Nat} (hm : m = 10) (hp : p < m) : sumN (fun a => sumN (fun b => d (10 * (a : Int) + b) * (i01 b p - i01 a p)) m) m = sumN (fun k => d (10 * (k : Int) + (p : Int))) m - sumN (fun k => d (10 * (p : Int) + (k : Int))) m := by
  have e1 : ∀ a : Nat, sumN (fun b => d (10 * (a : Int) + b) * (i01 b p - i01 a p)) m = d (10 * (a : Int) + (p : Int)) - (if a = p then sumN (fun b => d (10 * (a : Int) + b)) m else 0) := by
    intro a
    have e2 : sumN (fun b => d (10 * (a : Int) + b) * (i01 b p - i01 a p)) m = sumN (fun b => (if b = p then d (10 * (a : Int) + b) else 0) - (if a = p then d (10 * (a : Int) + b) else 0)) m := by
      refine sumN_congr _ fun b _ => ?_
      unfold i01
      rw [Int.mul_sub]
      congr 1
      · split
        · exact Int.mul_one _
        · exact Int.mul_zero _
      · split
        · exact Int.mul_one _
        · exact Int.mul_zero _
    rw [e2, sumN_sub, sumN_pick (g := fun b => d (10 * (a : Int) + b)) m hp]
    by_cases q : a = p
    · rw [if_pos q]
      congr 1
      refine sumN_congr _ fun b _ => ?_
      rw [if_pos q]
    · rw [if_neg q]
      congr 1
      refine (sumN_congr (g' := fun _ => 0) _ fun b _ => ?_).trans (sumN_zero m)
      rw [if_neg q]
  rw [sumN_congr (g' := fun a => d (10 * (a : Int) + (p : Int)) - (if a = p then sumN (fun b => d (10 * (a : Int) + b)) m else 0)) m (fun a _ => e1 a), sumN_sub, sumN_pick (g := fun a => sumN (fun b => d (10 * (a : Int) + b)) m) m hp]
theorem wOf_sum {d : Int → Int} {cf ct : Nat → Nat} {p n : Nat} (hp : p < 10) (hW : ∀ W : Nat → Nat → Int, sumN (fun j => W (cf j) (ct j)) n = sumN (fun a => sumN (fun b => d (10 * (a : Int) + b) * W a b) 10) 10) : wOf d p = sumN (fun j => i01 (ct j) p - i01 (cf j) p) n := by
  rw [hW (fun a b => i01 b p - i01 a p)]
  exact (wOf_coins (d := d) rfl hp).symm
theorem evs_eq {B : Nat → Bool} {cf ct : Nat → Nat} {p n : Nat} : sumN (fun j => i01 (ct j) p - i01 (cf j) p) n + sumN (tu2 B cf ct p) n = evs B cf ct p n := by
  rw [← sumN_add2]
  refine sumN_congr n fun j _ => ?_
  unfold tu2 evj
  cases B j
  · rw [if_neg (by decide), if_neg (by decide), Int.add_zero]
  · rw [if_pos rfl, if_pos rfl]
    generalize i01 (ct j) p = x
    generalize i01 (cf j) p = y
    omega
theorem tu2_bd {B : Nat → Bool} {cf ct : Nat → Nat} {p j : Nat} : -2 ≤ tu2 B cf ct p j ∧ tu2 B cf ct p j ≤ 2 := by
  have h1 := i01_bd (cf j) p
  have h2 := i01_bd (ct j) p
  unfold tu2
  split
  · omega
  · decide
theorem sumN_bd2 {g : Nat → Int} {b : Int} (n : Nat) (h : ∀ k, k < n → -b ≤ g k ∧ g k ≤ b) : -(b * n) ≤ sumN g n ∧ sumN g n ≤ b * n := by
  induction n with
  | zero => simp [sumN]
  | succ n ih =>
    have h1 := ih (fun k hk => h k (by omega))
    have h2 := h n (by omega)
    rw [show sumN g (n + 1) = sumN g n + g n from rfl, show ((n + 1 : Nat) : Int) = (n : Int) + 1 from by omega, Int.mul_add]
    generalize sumN g n = a at *
    omega
/-- the class turns coin k -/
theorem et_put {f n k : Nat} {l1 a b : Int} {M : oM} (hk : k < n) (hn : n ≤ 12) (hB : iand (ishr l1 k) 1 = 1) (h55 : M 55 k = 10 * a + b) (ha : 0 ≤ a ∧ a < 10) (hb : 0 ≤ b ∧ b < 10) {u v : Int} (hu : M 51 a = u) (hv : oU M 51 a (u + 2) 51 b = v) (hu' : w32 (u + 2) = u + 2) (hv' : w32 (v - 2) = v - 2) : p_B_isEvenTurned_L17 f l1 n ((k : Int), M) = some (.inl (((k + 1 : Nat) : Int), oU (oU M 51 a (u + 2)) 51 b (v - 2))) := by
  have hk12 : (k : Int) < 12 := nat_lt (Nat.lt_of_lt_of_le hk hn)
  have e2 : (oU M 51 a (u + 2)) 55 k = 10 * a + b := (oU_o (by decide)).trans h55
  unfold p_B_isEvenTurned_L17 p_B_isEvenTurned_B73_17
  simp only []
  rw [if_pos (nat_lt hk), if_pos hk12, hB, if_pos rfl, bnd_eq (Int.natCast_nonneg _) hk12, nz_eq (by decide), h55, (tdiv10 ha hb).1, bnd_eq ha.1 ha.2, bnd_eq ha.1 ha.2, lt_eq, hu, hu', bnd_eq (Int.natCast_nonneg _) hk12, nz_eq (by decide), e2, (tdiv10 ha hb).2, bnd_eq hb.1 hb.2, bnd_eq hb.1 hb.2, lt_eq, hv, hv', lt_eq, w32nat (Nat.lt_trans (Nat.lt_of_lt_of_le hk hn) (by decide))]
theorem et_skip {f n k : Nat} {l1 : Int} {M : oM} (hk : k < n) (hn : n ≤ 12) (hB : iand (ishr l1 k) 1 = 0) : p_B_isEvenTurned_L17 f l1 n ((k : Int), M) = some (.inl (((k + 1 : Nat) : Int), M)) := by
  have hk12 : (k : Int) < 12 := nat_lt (Nat.lt_of_lt_of_le hk hn)
  unfold p_B_isEvenTurned_L17 p_B_isEvenTurned_B73_17
  simp only []
  rw [if_pos (nat_lt hk), if_pos hk12, hB, if_neg (by decide), lt_eq, w32nat (Nat.lt_trans (Nat.lt_of_lt_of_le hk hn) (by decide))]
theorem et_val {M : oM} {a b p : Nat} {u v : Int} (hu : M 51 (a : Int) = u) (hv : oU M 51 (a : Int) (u + 2) 51 (b : Int) = v) : oU (oU M 51 (a : Int) (u + 2)) 51 (b : Int) (v - 2) 51 (p : Int) = M 51 (p : Int) + (2 * i01 a p - 2 * i01 b p) := by
  have hne : ∀ {x y : Nat}, x ≠ y → (x : Int) ≠ (y : Int) := fun h z => h (Int.ofNat.inj z)
  unfold i01
  by_cases h1 : b = p
  · rw [if_pos h1, h1, oU_at]
    rw [h1] at hv
    by_cases h2 : a = p
    · rw [if_pos h2]
      rw [h2] at hv hu
      rw [oU_at] at hv
      rw [hu]
      omega
    · rw [if_neg h2]
      rw [oU_i (hne (Ne.symm h2))] at hv
      rw [hv]
      omega
  · rw [if_neg h1, oU_i (hne (Ne.symm h1))]
    by_cases h2 : a = p
    · rw [if_pos h2, h2, oU_at]
      rw [h2] at hu
      rw [hu]
      omega
    · rw [if_neg h2, oU_i (hne (Ne.symm h2))]
      omega
def etI (w : Nat → Int) (B : Nat → Bool) (cf ct : Nat → Nat) (M : oM) (k : Nat) (s : Int × oM) : Prop := s.1 = (k : Int) ∧ (∀ p : Nat, p < 10 → s.2 51 (p : Int) = w p + sumN (tu2 B cf ct p) k) ∧ eqo [(51, (-1))] M s.2
theorem et_w {w : Nat → Int} {B : Nat → Bool} {cf ct : Nat → Nat} {p k : Nat} (hw : -990 ≤ w p ∧ w p ≤ 990) (hk : k ≤ 12) : -2000 ≤ w p + sumN (tu2 B cf ct p) k ∧ w p + sumN (tu2 B cf ct p) k ≤ 2000 := by
  have := sumN_bd2 (g := tu2 B cf ct p) (b := 2) k (fun j _ => tu2_bd)
  generalize sumN (tu2 B cf ct p) k = a at *
  omega
theorem et_step {f n k : Nat} {l1 : Int} {M : oM} {w : Nat → Int} {B : Nat → Bool} {cf ct : Nat → Nat} {s : Int × oM} (hk : k < n) (hn : n ≤ 12) (hB : iand (ishr l1 k) 1 = b01 (B k)) (hC : isC M 55 n cf ct) (hw : ∀ p, p < 10 → -990 ≤ w p ∧ w p ≤ 990) (hI : etI w B cf ct M k s) : okp (p_B_isEvenTurned_L17 f l1 n s) (psum (etI w B cf ct M (k + 1)) (fun N => (∀ p : Nat, p < 10 → N 51 (p : Int) = w p + sumN (tu2 B cf ct p) n) ∧ eqo [(51, (-1))] M N)) := by
  obtain ⟨i, N⟩ := s
  obtain ⟨h1, h2, h3⟩ := hI
  simp only at h1 h2 h3
  subst h1
  have hc := hC k hk
  have e55 : N 55 (k : Int) = 10 * (cf k : Int) + (ct k : Int) := (congrFun (eqo_a h3 55 rfl) _).trans hc.2.2
  have hk12 : k ≤ 12 := Nat.le_trans (Nat.le_of_lt hk) hn
  cases hb : B k
  · rw [et_skip hk hn (hB.trans (by rw [hb]; rfl))]
    refine ⟨rfl, fun p hp => ?_, h3⟩
    show N 51 (p : Int) = w p + (sumN (tu2 B cf ct p) k + tu2 B cf ct p k)
    rw [h2 p hp, show tu2 B cf ct p k = 0 from by unfold tu2; rw [hb]; rfl, Int.add_zero]
  · have hu := h2 (cf k) hc.1
    have bu := et_w (cf := cf) (ct := ct) (B := B) (hw (cf k) hc.1) hk12
    have bv := et_w (cf := cf) (ct := ct) (B := B) (hw (ct k) hc.2.1) hk12
    have hv0 := h2 (ct k) hc.2.1
    rw [← hu] at bu
    rw [← hv0] at bv
    have bv2 : -2100 ≤ oU N 51 (cf k : Int) (N 51 (cf k : Int) + 2) 51 (ct k : Int) ∧ oU N 51 (cf k : Int) (N 51 (cf k : Int) + 2) 51 (ct k : Int) ≤ 2100 := by
      by_cases q : (ct k : Int) = (cf k : Int)
      · rw [q, oU_at]; clear hu hv0 h2; omega
      · rw [oU_i q]; clear hu hv0 h2; omega
    rw [et_put (u := N 51 (cf k : Int)) (v := oU N 51 (cf k : Int) (N 51 (cf k : Int) + 2) 51 (ct k : Int)) hk hn (hB.trans (by rw [hb]; rfl)) e55 (nat9 hc.1) (nat9 hc.2.1) rfl rfl (w32_of (by clear hu hv0 h2; omega) (by clear hu hv0 h2; omega)) (w32_of (by clear hu hv0 h2; omega) (by clear hu hv0 h2; omega))]
    refine ⟨rfl, fun p hp => ?_, eqo_oUa (.head _) (eqo_oUa (.head _) h3)⟩
    show oU (oU N 51 (cf k : Int) (N 51 (cf k : Int) + 2)) 51 (ct k : Int) (oU N 51 (cf k : Int) (N 51 (cf k : Int) + 2) 51 (ct k : Int) - 2) 51 (p : Int) = w p + (sumN (tu2 B cf ct p) k + tu2 B cf ct p k)
    rw [et_val rfl rfl, h2 p hp, show tu2 B cf ct p k = 2 * i01 (cf k) p - 2 * i01 (ct k) p from by unfold tu2; rw [hb]; rfl]
    generalize sumN (tu2 B cf ct p) k = x
    omega
theorem zero_scan {f : Nat} {M : oM} {P : Prop} (hf : 2000 < f) (hP : P ↔ ∀ p : Nat, p < 10 → M 51 (p : Int) = 0) : okp (iter (p_B_isEvenTurned_L81 f) f (0, M)) (fun q => q.2 = M ∧ ((q.1 = 1 ∧ P) ∨ (q.1 = 0 ∧ ¬ P))) := by
  refine for_ok 10 (fun (k : Nat) (s : Int × oM) => s = ((k : Int), M) ∧ ∀ p : Nat, p < k → M 51 (p : Int) = 0) ?_ ?_ f (Nat.lt_trans (by decide) hf) ⟨rfl, fun p hp => absurd hp (Nat.not_lt_zero _)⟩
  · intro k s hk hI
    obtain ⟨rfl, h2⟩ := hI
    unfold p_B_isEvenTurned_L81
    simp only []
    rw [if_pos (nat9 hk).2, bnd_eq (nat9 hk).1 (nat9 hk).2]
    by_cases q : M 51 (k : Int) = 0
    · rw [if_pos q, lt_eq, w32nat (Nat.lt_trans hk (by decide))]
      refine ⟨rfl, fun p hp => ?_⟩
      rcases Nat.lt_or_ge p k with y | y
      · exact h2 p y
      · rw [Nat.le_antisymm (Nat.le_of_lt_succ hp) y]; exact q
    · rw [if_neg q]
      exact ⟨rfl, .inr ⟨rfl, fun z => q (hP.1 z k hk)⟩⟩
  · intro s hI
    obtain ⟨rfl, h2⟩ := hI
    unfold p_B_isEvenTurned_L81
    simp only []
    rw [if_neg (show ¬ (((10 : Nat) : Int) < 10) by decide)]
    exact ⟨rfl, .inl ⟨rfl, hP.2 h2⟩⟩
theorem e_isEvenTurned {f n S : Nat} {M : oM} {w : Nat → Int} {cf ct : Nat → Nat} (hf : 2000 < f) (hn : n ≤ 12) (hS : S < 2147483648) (hC : isC M 55 n cf ct) (hw : ∀ p, p < 10 → -990 ≤ w p ∧ w p ≤ 990) (h50 : ∀ p : Nat, p < 10 → M 50 (p : Int) = w p) (hs : ∀ p, p < 10 → w p = sumN (fun j => i01 (ct j) p - i01 (cf j) p) n) :
    ∃ r : Int, ∃ N : oM, p_B_isEvenTurned f S n M = some (r, N) ∧ ((r = 1 ∧ allE S.testBit cf ct n) ∨ (r = 0 ∧ ¬ allE S.testBit cf ct n)) ∧ eqo [(51, (-1))] M N := by
  have hr : okp (p_B_isEvenTurned f S n M) (fun q => ((q.1 = 1 ∧ allE S.testBit cf ct n) ∨ (q.1 = 0 ∧ ¬ allE S.testBit cf ct n)) ∧ eqo [(51, (-1))] M q.2) := by
    unfold p_B_isEvenTurned
    rw [cpg_eq (by decide), lt_eq]
    have f0 : eqo [(51, (-1))] M (acopy M 50 0 51 0 10) := eqo_ac (.head _) (eqo_rfl _ _)
    have hC0 : isC (acopy M 50 0 51 0 10) 55 n cf ct := fun j hj => ⟨(hC j hj).1, (hC j hj).2.1, (congrFun (eqo_a f0 55 rfl) _).trans (hC j hj).2.2⟩
    have h0 : etI w S.testBit cf ct (acopy M 50 0 51 0 10) 0 (0, acopy M 50 0 51 0 10) := ⟨rfl, fun p hp => by
      show acopy M 50 0 51 0 10 51 (p : Int) = w p + 0
      rw [acopy_in (nat9 hp).1 (by rw [Int.zero_add]; exact (nat9 hp).2), Int.sub_zero, Int.zero_add, h50 p hp, Int.add_zero], eqo_rfl _ _⟩
    have hl := for_ok (step := p_B_isEvenTurned_L17 f S n) (Q := fun N => (∀ p : Nat, p < 10 → N 51 (p : Int) = w p + sumN (tu2 S.testBit cf ct p) n) ∧ eqo [(51, (-1))] (acopy M 50 0 51 0 10) N) n (etI w S.testBit cf ct (acopy M 50 0 51 0 10)) (fun k s hk hI => et_step hk hn (by rw [bit_ask hS (Nat.lt_trans (Nat.lt_of_lt_of_le hk hn) (by decide))]; rfl) hC0 hw hI) (fun s hI => by
      obtain ⟨i, N⟩ := s
      obtain ⟨h1, h2, h3⟩ := hI
      simp only at h1 h2 h3
      subst h1
      unfold p_B_isEvenTurned_L17
      simp only []
      rw [if_neg (Int.lt_irrefl _)]
      exact ⟨h2, h3⟩) f (Nat.lt_of_le_of_lt hn (Nat.lt_trans (by decide) hf)) h0
    refine okp_bind' (okp_mono hl fun N hN => ?_)
    show okp (iter (p_B_isEvenTurned_L81 f) f (0, N)) _
    refine okp_mono (zero_scan (P := allE S.testBit cf ct n) hf ?_) fun q hq => ⟨hq.2, by rw [hq.1]; exact eqo_tt f0 hN.2⟩
    unfold allE
    refine ⟨fun z p hp => ?_, fun z p hp => ?_⟩
    · rw [hN.1 p hp, hs p hp, evs_eq]; exact z p hp
    · rw [← evs_eq, ← hs p hp, ← hN.1 p hp]; exact z p hp
  obtain ⟨q, eq, h1, h2⟩ := okp_ex hr
  exact ⟨q.1, q.2, eq, h1, h2⟩
