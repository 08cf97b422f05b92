/-! the coins as a list, on both sides -/
def clf (d : Int → Int) (j : Nat) : Nat → Nat
  | 0 => 0
  | n + 1 => if j < cs d n then clf d j n else n
theorem clf_ok {d : Int → Int} {j : Nat} : ∀ n : Nat, j < cs d n → clf d j n < n ∧ cs d (clf d j n) ≤ j ∧ j < cs d (clf d j n + 1) := by
  intro n
  induction n with
  | zero => intro h; exact absurd h (Nat.not_lt_zero _)
  | succ n ih =>
    intro h
    unfold clf
    by_cases q : j < cs d n
    · rw [if_pos q]
      have := ih q
      exact ⟨Nat.lt_succ_of_lt this.1, this.2⟩
    · rw [if_neg q]
      exact ⟨Nat.lt_succ_self n, Nat.le_of_not_lt q, h⟩
theorem cell_uniq {d : Int → Int} {i i' j : Nat} (h1 : cs d i ≤ j) (h2 : j < cs d (i + 1)) (h1' : cs d i' ≤ j) (h2' : j < cs d (i' + 1)) : i = i' := by
  rcases Nat.lt_trichotomy i i' with h | h | h
  · exact absurd (Nat.le_trans (cs_le h) h1') (Nat.not_le.mpr h2)
  · exact h
  · exact absurd (Nat.le_trans (cs_le h) h1) (Nat.not_le.mpr h2')
theorem sumN_const (c : Int) (n : Nat) : sumN (fun _ => c) n = (n : Int) * c := by
  induction n with
  | zero => rw [show ((0 : Nat) : Int) = 0 from rfl, Int.zero_mul]; rfl
  | succ n ih =>
    show sumN (fun _ => c) n + c = _
    rw [ih, Int.natCast_add, Int.add_mul, show ((1 : Nat) : Int) = 1 from rfl, Int.one_mul]
theorem cl_sum {d : Int → Int} {cl : Nat → Nat} {N : Nat} (hd : ∀ n : Nat, n < N → 0 ≤ d n) (h : ∀ j, j < cs d N → cs d (cl j) ≤ j ∧ j < cs d (cl j + 1)) (W : Nat → Int) : ∀ n, n ≤ N → sumN (fun j => W (cl j)) (cs d n) = sumN (fun i => d (i : Int) * W i) n := by
  intro n
  induction n with
  | zero => intro _; rfl
  | succ n ih =>
    intro hn
    show sumN (fun j => W (cl j)) (cs d n + (d n).toNat) = sumN (fun i => d (i : Int) * W i) n + d (n : Int) * W n
    rw [sumN_add, ih (Nat.le_of_succ_le hn)]
    have e : sumN (fun k => W (cl (cs d n + k))) (d n).toNat = sumN (fun _ => W n) (d n).toNat := by
      refine sumN_congr _ fun k hk => ?_
      have h1 : cs d n + k < cs d (n + 1) := Nat.add_lt_add_left hk _
      have h2 := h (cs d n + k) (Nat.lt_of_lt_of_le h1 (cs_le hn))
      rw [cell_uniq h2.1 h2.2 (Nat.le_add_right _ _) h1]
    rw [e, sumN_const, Int.toNat_of_nonneg (hd n hn)]
theorem sumN_grid {g : Nat → Int} (n : Nat) : sumN g (10 * n) = sumN (fun a => sumN (fun b => g (10 * a + b)) 10) n := by
  induction n with
  | zero => rfl
  | succ n ih =>
    rw [show 10 * (n + 1) = 10 * n + 10 from Nat.mul_succ 10 n, sumN_add, ih]
    rfl
theorem cs_congr {d d' : Int → Int} : ∀ n : Nat, (∀ i : Nat, i < n → d' i = d i) → cs d' n = cs d n := by
  intro n
  induction n with
  | zero => intro _; rfl
  | succ n ih =>
    intro h
    show cs d' n + (d' n).toNat = cs d n + (d n).toNat
    rw [ih (fun i hi => h i (Nat.lt_succ_of_lt hi)), h n (Nat.lt_succ_self n)]
theorem dm10 {i : Nat} (h : i < 100) : i / 10 < 10 ∧ i % 10 < 10 ∧ (i : Int) = 10 * ((i / 10 : Nat) : Int) + ((i % 10 : Nat) : Int) := by omega
theorem dm10' {a b : Nat} (h : b < 10) : (10 * a + b) / 10 = a ∧ (10 * a + b) % 10 = b := by omega
theorem coins_gen {d d' r : Int → Int} {M : oM} {N m : Nat} (hN : N = 10 * m) (hm : m = 10) (hd : dOk d) (he : ∀ i : Int, 0 ≤ i → i < 100 → d' i = d i) (h1 : lsC d r N 0) (h2 : lsM d' M N 0) :
    ∃ cf ct : Nat → Nat, (∀ j : Nat, j < cs d N → cf j < 10 ∧ ct j < 10 ∧ r j = 10 * (cf j : Int) + (ct j : Int) ∧ M 84 j = (cf j : Int) ∧ M 85 j = (ct j : Int)) ∧ ∀ W : Nat → Nat → Int, sumN (fun j => W (cf j) (ct j)) (cs d N) = sumN (fun a => sumN (fun b => d (10 * (a : Int) + b) * W a b) 10) m := by
  have hN1 : N ≤ 100 := by omega
  have hcc : ∀ n : Nat, n ≤ N → cs d' n = cs d n := fun n hn => cs_congr n fun i hi => he i (Int.natCast_nonneg _) (by omega)
  refine ⟨fun j => clf d j N / 10, fun j => clf d j N % 10, fun j hj => ?_, fun W => ?_⟩
  · have h := clf_ok N hj
    have hr := h1.1 _ j h.1 h.2.1 h.2.2
    have hm := h2.1 _ j h.1 (by rw [hcc _ (Nat.le_of_lt h.1)]; exact h.2.1) (by rw [hcc _ h.1]; exact h.2.2)
    have hl := Nat.lt_of_lt_of_le h.1 hN1
    have hq := dm10 hl
    exact ⟨hq.1, hq.2.1, hr.trans hq.2.2, hm.1, hm.2⟩
  · have hs := cl_sum (d := d) (cl := fun j => clf d j N) (N := N) (fun n hn => (hd n (Int.natCast_nonneg _) (by omega)).1) (fun j hj => (clf_ok N hj).2) (fun i => W (i / 10) (i % 10)) N (Nat.le_refl N)
    refine hs.trans ?_
    have e : sumN (fun i => d (i : Int) * W (i / 10) (i % 10)) N = sumN (fun i => d (i : Int) * W (i / 10) (i % 10)) (10 * m) := by rw [hN]
    rw [e, sumN_grid]
    refine sumN_congr _ fun a ha => sumN_congr _ fun b hb => ?_
    rw [(dm10' hb).1, (dm10' hb).2]
    rfl
theorem coins_both {d d' r : Int → Int} {M : oM} (hd : dOk d) (he : ∀ i : Int, 0 ≤ i → i < 100 → d' i = d i) (h1 : lsC d r 100 0) (h2 : lsM d' M 100 0) :
    ∃ cf ct : Nat → Nat, (∀ j : Nat, j < cs d 100 → cf j < 10 ∧ ct j < 10 ∧ r j = 10 * (cf j : Int) + (ct j : Int) ∧ M 84 j = (cf j : Int) ∧ M 85 j = (ct j : Int)) ∧ ∀ W : Nat → Nat → Int, sumN (fun j => W (cf j) (ct j)) (cs d 100) = sumN (fun a => sumN (fun b => d (10 * (a : Int) + b) * W a b) 10) 10 :=
  coins_gen (by decide) rfl hd he h1 h2
