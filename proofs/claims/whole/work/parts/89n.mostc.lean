/-! the longest row: the class -/
def bst (N : oM) (b0 : Nat) (row best0 : Int → Int) (L : Nat) (l : List Nat) : Prop :=
  (b0 < L + l.length → N 42 7 = ((L + l.length : Nat) : Int) ∧ (∀ i : Nat, i < L → N 48 (i : Int) = row i) ∧ ∀ i : Nat, i < l.length → N 48 ((L + i : Nat) : Int) = ((l.getD i 0 : Nat) : Int)) ∧
  (¬ b0 < L + l.length → N 42 7 = (b0 : Int) ∧ ∀ i : Nat, i < b0 → N 48 (i : Int) = best0 i)
theorem bst_congr {N N' : oM} {b0 L : Nat} {row best0 : Int → Int} {l : List Nat} (h : bst N b0 row best0 L l) (h1 : N' 42 7 = N 42 7) (h2 : N' 48 = N 48) : bst N' b0 row best0 L l := by
  unfold bst at h ⊢
  rw [h1, h2]; exact h
theorem bst_B {N : oM} {b0 L : Nat} {row best0 : Int → Int} {l : List Nat} (h : bst N b0 row best0 L l) : ∃ B : Nat, N 42 7 = (B : Int) ∧ ((b0 < L + l.length ∧ B = L + l.length) ∨ (¬ b0 < L + l.length ∧ B = b0)) := by
  by_cases q : b0 < L + l.length
  · exact ⟨_, (h.1 q).1, .inl ⟨q, rfl⟩⟩
  · exact ⟨_, (h.2 q).1, .inr ⟨q, rfl⟩⟩
theorem bst_put {Q : oM} {b0 B L k : Nat} {row best0 row' best1 : Int → Int} {l' : List Nat} (hb : b0 ≤ B) (hB : B < L + 1 + l'.length) (hQ : bst Q B row' best1 (L + 1) l') (hr : ∀ i : Nat, i < L → row' i = row i) (hk : row' (L : Int) = (k : Int)) : bst Q b0 row best0 L (k :: l') := by
  have q := hQ.1 hB
  refine ⟨fun _ => ⟨?_, fun i hi => ?_, fun i hi => ?_⟩, fun z => ?_⟩
  · rw [q.1, List.length_cons, Nat.add_assoc, Nat.add_comm 1]
  · rw [q.2.1 i (Nat.lt_succ_of_lt hi), hr i hi]
  · cases i with
    | zero =>
      rw [Nat.add_zero, q.2.1 L (Nat.lt_succ_self L), hk]
      rfl
    | succ i =>
      rw [List.length_cons] at hi
      rw [show L + (i + 1) = L + 1 + i from by omega, q.2.2 i (by omega)]
      rfl
  · rw [List.length_cons] at z
    omega
theorem bst_next {N Q : oM} {b0 L k : Nat} {row best0 row' : Int → Int} {l l' : List Nat} (h : bst N b0 row best0 L l) (hr : ∀ i : Nat, i < L → row' i = row i) (hk : row' (L : Int) = (k : Int)) (hQ : ∀ B : Nat, N 42 7 = (B : Int) → bst Q B row' (N 48) (L + 1) l') : bst Q b0 row best0 L (if l.length < 1 + l'.length then k :: l' else l) := by
  obtain ⟨B, hB, hc⟩ := bst_B h
  have hQ1 := hQ B hB
  by_cases c : B < L + 1 + l'.length
  · have hl : l.length < 1 + l'.length := by omega
    rw [if_pos hl]
    exact bst_put (by omega) c hQ1 hr hk
  · have q := hQ1.2 c
    by_cases hl : l.length < 1 + l'.length
    · rw [if_pos hl]
      have hc2 : ¬ b0 < L + l.length ∧ B = b0 := by
        rcases hc with z | z
        · omega
        · exact z
      refine ⟨fun z => ?_, fun _ => ⟨by rw [q.1, hc2.2], fun i hi => ?_⟩⟩
      · rw [List.length_cons] at z; omega
      · rw [q.2 i (by omega)]
        exact (h.2 hc2.1).2 i hi
    · rw [if_neg hl]
      refine ⟨fun z => ?_, fun z => ⟨by rw [q.1]; omega, fun i hi => ?_⟩⟩
      · have hB2 : B = L + l.length := by omega
        refine ⟨by rw [q.1, hB2], fun i hi => ?_, fun i hi => ?_⟩
        · rw [q.2 i (by omega)]; exact (h.1 z).2.1 i hi
        · rw [q.2 (L + i) (by omega)]; exact (h.1 z).2.2 i hi
      · rw [q.2 i (by omega)]
        exact (h.2 z).2 i hi
theorem gOf_inc {M : oM} {o a b : Nat} {g : Nat → Nat → Nat} (hg : gOf (M o) (decg g a b)) (hb : b < 10) {v : Int} (hv : v = (g a b : Int)) : gOf (oU M o (10 * (a : Int) + b) v o) g := by
  intro x y hx hy
  by_cases q : x = a ∧ y = b
  · obtain ⟨rfl, rfl⟩ := q
    rw [oU_at, hv]
  · rw [oU_i (cell_ne hb hy q), hg x y hx hy]
    unfold decg
    rw [if_neg q]
theorem ln_skip {f s L k : Nat} {v : Int} {M : oM} {rec : Int → Int → oM → Option (Int × oM)} (hs : s < 10) (hk : k < 10) (h43 : M 43 (10 * (s : Int) + k) = v) (hv : ¬ 0 < v) : p_R_lengthen_L36 f rec s L ((k : Int), M) = some (.inl (((k + 1 : Nat) : Int), M)) := by
  have n1 := nat100 hs hk
  unfold p_R_lengthen_L36 p_R_lengthen_B97_36
  simp only []
  rw [if_pos (nat9 hk).2, w32p hs hk, lt_eq, bnd_eq n1.1 n1.2, h43, if_neg hv, lt_eq, w32nat (Nat.lt_trans hk (by decide))]
theorem ln_try {f s L k : Nat} {v u r : Int} {M Q : oM} {rec : Int → Int → oM → Option (Int × oM)} (hs : s < 10) (hk : k < 10) (hL : L < 12) (h43 : M 43 (10 * (s : Int) + k) = v) (hv : 0 < v) (hw : w32 (v - 1) = v - 1) (er : rec k ((L + 1 : Nat) : Int) (oU (oU M 43 (10 * (s : Int) + k) (v - 1)) 47 L k) = some (r, Q)) (hQ : Q 43 (10 * (s : Int) + k) = u) (hw' : w32 (u + 1) = u + 1) : p_R_lengthen_L36 f rec s L ((k : Int), M) = some (.inl (((k + 1 : Nat) : Int), oU Q 43 (10 * (s : Int) + k) (u + 1))) := by
  have n1 := nat100 hs hk
  have n60 : (L : Int) < 60 := nat_lt (Nat.lt_trans hL (by decide))
  unfold p_R_lengthen_L36 p_R_lengthen_B97_36
  simp only []
  rw [if_pos (nat9 hk).2, w32p hs hk, lt_eq, bnd_eq n1.1 n1.2, h43, if_pos hv, bnd_eq n1.1 n1.2, bnd_eq n1.1 n1.2, lt_eq, bnd_eq (Int.natCast_nonneg L) n60, lt_eq, h43, hw, w32nat (Nat.lt_trans hL (by decide)), er, Option.bind_some, bnd_eq n1.1 n1.2, bnd_eq n1.1 n1.2, lt_eq, show (r, Q).snd 43 (10 * (s : Int) + k) = u from hQ, hw', lt_eq, w32nat (Nat.lt_trans hk (by decide))]
theorem gk_step {n : Nat} {g : Nat → Nat → Nat} {s k : Nat} (hg : 0 < g s k) : gk n (gre n) g s (k + 1) = if (gk n (gre n) g s k).length < 1 + (gre n (decg g s k) k).length then k :: gre n (decg g s k) k else gk n (gre n) g s k := by
  rw [gk_len, gre_len]
  show (if lk n g s k < lngK (lng n) g s k then k :: gre n (decg g s k) k else gk n (gre n) g s k) = _
  unfold lngK
  rw [if_pos hg]
theorem gk_stay {n : Nat} {g : Nat → Nat → Nat} {s k : Nat} (hg : ¬ 0 < g s k) : gk n (gre n) g s (k + 1) = gk n (gre n) g s k := by
  show (if lk n g s k < lngK (lng n) g s k then k :: gre n (decg g s k) k else gk n (gre n) g s k) = _
  unfold lngK
  rw [if_neg hg, if_neg (Nat.not_lt_zero _)]
def lenQ (g : Nat → Nat → Nat) (b0 L : Nat) (row best0 : Int → Int) (l : List Nat) (N : oM) : Prop := gOf (N 43) g ∧ (∀ i : Nat, i < L → N 47 (i : Int) = row i) ∧ bst N b0 row best0 L l
def lenH (f n L : Nat) (rec : Int → Int → oM → Option (Int × oM)) : Prop := ∀ (s : Nat) (g : Nat → Nat → Nat) (M : oM) (b0 : Nat), s < 10 → gOf (M 43) g → (∀ a b, a < 10 → b < 10 → g a b ≤ 99) → M 42 7 = (b0 : Int) → okp (rec s (L : Int) M) (fun q => lenQ g b0 L (M 47) (M 48) (gre n g s) q.2)
theorem ln_step {f n s L k b0 : Nat} {g : Nat → Nat → Nat} {row best0 : Int → Int} {rec : Int → Int → oM → Option (Int × oM)} {M : oM} (hs : s < 10) (hk : k < 10) (hL : L < 12) (hb : ∀ a b, a < 10 → b < 10 → g a b ≤ 99) (hrec : lenH f n (L + 1) rec) (hI : lenQ g b0 L row best0 (gk n (gre n) g s k) M) :
    ∃ N, p_R_lengthen_L36 f rec s L ((k : Int), M) = some (.inl (((k + 1 : Nat) : Int), N)) ∧ lenQ g b0 L row best0 (gk n (gre n) g s (k + 1)) N := by
  obtain ⟨h1, h2, h3⟩ := hI
  have ev := h1 s k hs hk
  have hb1 := hb s k hs hk
  by_cases hg : 0 < g s k
  · generalize hM8 : oU (oU M 43 (10 * (s : Int) + k) ((g s k : Int) - 1)) 47 L k = M8
    have e43 : M8 43 = oU M 43 (10 * (s : Int) + k) ((g s k : Int) - 1) 43 := by rw [← hM8]; exact oU_row (by decide)
    have e48 : M8 48 = M 48 := by rw [← hM8, oU_row (by decide), oU_row (by decide)]
    have e42 : M8 42 7 = M 42 7 := by rw [← hM8, oU_o (by decide), oU_o (by decide)]
    have r1 : ∀ i : Nat, i < L → M8 47 (i : Int) = row i := fun i hi => by
      rw [← hM8, oU_i (natne (Nat.ne_of_lt hi)), oU_o (by decide)]; exact h2 i hi
    have r2 : M8 47 (L : Int) = (k : Int) := by rw [← hM8, oU_at]
    have g8 : gOf (M8 43) (decg g s k) := by rw [e43]; exact gOf_dec h1 hs hk hg
    obtain ⟨B, hB, -⟩ := bst_B h3
    obtain ⟨q, eq, q1, q2, q3⟩ := okp_ex (hrec k (decg g s k) M8 B hk g8 (decg_le hb) (e42.trans hB))
    have eQ : q.2 43 (10 * (s : Int) + k) = ((decg g s k s k : Nat) : Int) := q1 s k hs hk
    have ed : decg g s k s k = g s k - 1 := if_pos ⟨rfl, rfl⟩
    have eu : ((decg g s k s k : Nat) : Int) + 1 = (g s k : Int) := by rw [ed]; omega
    have wu : w32 (((decg g s k s k : Nat) : Int) + 1) = ((decg g s k s k : Nat) : Int) + 1 := by
      rw [w32_of (by rw [eu]; omega) (by rw [eu]; omega)]
    have er : rec k ((L + 1 : Nat) : Int) (oU (oU M 43 (10 * (s : Int) + k) ((g s k : Int) - 1)) 47 L k) = some (q.1, q.2) := by rw [hM8]; exact eq
    refine ⟨_, ln_try hs hk hL ev (natpos.2 hg) (w32c (Nat.le_trans hb1 (by decide))) er eQ wu, gOf_inc q1 hk eu, fun i hi => ?_, ?_⟩
    · rw [oU_o (by decide), q2 i (Nat.lt_succ_of_lt hi)]; exact r1 i hi
    · rw [gk_step hg]
      refine bst_congr (bst_next (row' := M8 47) h3 r1 r2 (fun B' hB' => ?_)) (oU_o (by decide)) (oU_row (by decide))
      have : B' = B := by
        have := hB'.symm.trans hB
        exact Int.ofNat.inj this
      rw [this, ← e48]
      exact q3
  · refine ⟨M, ln_skip hs hk ev (fun z => hg (natpos.1 z)), h1, h2, ?_⟩
    rw [gk_stay hg]; exact h3
theorem ln_loop {f n s L b0 : Nat} {g : Nat → Nat → Nat} {row best0 : Int → Int} {rec : Int → Int → oM → Option (Int × oM)} {M : oM} (hf : 2000 < f) (hs : s < 10) (hL : L < 12) (hb : ∀ a b, a < 10 → b < 10 → g a b ≤ 99) (hrec : lenH f n (L + 1) rec) (hI : lenQ g b0 L row best0 [] M) :
    okp (iter (p_R_lengthen_L36 f rec s L) f (0, M)) (fun q => lenQ g b0 L row best0 (gre (n + 1) g s) q.2) := by
  refine for_ok 10 (fun (k : Nat) (st : Int × oM) => st.1 = (k : Int) ∧ lenQ g b0 L row best0 (gk n (gre n) g s k) st.2) (fun k st hk hI => ?_) (fun st hI => ?_) f (Nat.lt_trans (by decide) hf) ⟨rfl, hI⟩
  · obtain ⟨j, N⟩ := st
    obtain ⟨i1, i2⟩ := hI
    simp only at i1 i2
    subst i1
    obtain ⟨N', e, h⟩ := ln_step (f := f) hs hk hL hb hrec i2
    rw [e]
    exact ⟨rfl, h⟩
  · obtain ⟨j, N⟩ := st
    obtain ⟨i1, i2⟩ := hI
    simp only at i1 i2
    subst i1
    unfold p_R_lengthen_L36
    simp only []
    rw [if_neg (show ¬ (((10 : Nat) : Int) < 10) by decide)]
    exact i2
theorem ln_first {f L b0 s : Nat} {g : Nat → Nat → Nat} {rec : Int → Int → oM → Option (Int × oM)} {M : oM} (hL : L ≤ 12) (hg : gOf (M 43) g) (h42 : M 42 7 = (b0 : Int)) : ∃ N, p_R_lengthen_F f rec s L M = p_R_lengthen_B27 f rec s L N ∧ lenQ g b0 L (M 47) (M 48) [] N := by
  unfold p_R_lengthen_F
  rw [h42]
  by_cases q : (b0 : Int) < (L : Int)
  · have q' : b0 < L := Int.ofNat_lt.mp q
    have L12 : (L : Int) ≤ 12 := Int.ofNat_le.mpr hL
    rw [if_pos q, lt_eq, cpg_eq ⟨by decide, by decide, Int.natCast_nonneg L, by omega, by omega⟩, lt_eq]
    refine ⟨_, rfl, ?_, fun i hi => ?_, fun _ => ⟨?_, fun i hi => ?_, fun i hi => absurd hi (Nat.not_lt_zero _)⟩, fun z => absurd q' z⟩
    · intro a b ha hb
      rw [acopy_o (by decide), oU_o (by decide)]; exact hg a b ha hb
    · rw [acopy_o (by decide), oU_o (by decide)]
    · rw [acopy_o (by decide), oU_at]; rfl
    · rw [acopy_in (Int.natCast_nonneg i) (by rw [Int.zero_add]; exact nat_lt hi), oU_o (by decide), Int.sub_zero, Int.zero_add]
  · rw [if_neg q]
    exact ⟨M, rfl, hg, fun i hi => rfl, fun z => absurd (nat_lt z) q, fun _ => ⟨h42, fun i hi => rfl⟩⟩
theorem len_ok {f : Nat} (hf : 2000 < f) : ∀ (n k L : Nat), n + 1 ≤ k → n + L = 12 → lenH f n L (p_R_lengthen f k) := by
  intro n
  induction n with
  | zero =>
    intro k L hk hL s g M b0 hs hg hb h42
    obtain ⟨k, rfl⟩ : ∃ k', k = k' + 1 := ⟨k - 1, by omega⟩
    have eL : L = 12 := by omega
    subst eL
    obtain ⟨N, e, h⟩ := ln_first (f := f) (s := s) (rec := p_R_lengthen f k) (Nat.le_refl 12) hg h42
    show okp (p_R_lengthen_F f (p_R_lengthen f k) s ((12 : Nat) : Int) M) _
    rw [e]
    unfold p_R_lengthen_B27
    rw [if_neg (show ¬ (((12 : Nat) : Int) < 12) by decide)]
    exact h
  | succ n ih =>
    intro k L hk hL s g M b0 hs hg hb h42
    obtain ⟨k, rfl⟩ : ∃ k', k = k' + 1 := ⟨k - 1, by omega⟩
    obtain ⟨N, e, h⟩ := ln_first (f := f) (s := s) (rec := p_R_lengthen f k) (L := L) (by omega) hg h42
    show okp (p_R_lengthen_F f (p_R_lengthen f k) s (L : Int) M) _
    rw [e]
    unfold p_R_lengthen_B27
    rw [if_pos (show (L : Int) < 12 by omega)]
    exact ln_loop hf hs (by omega) hb (ih k (L + 1) (by omega) (by omega)) h
theorem e_planMost {f s : Nat} {g : Nat → Nat → Nat} {M : oM} (hf : 2000 < f) (hs : s < 10) (hg : gOf (M 7) g) (hb : ∀ a b, a < 10 → b < 10 → g a b ≤ 99) : ∀ m, m = 12 → ∃ N, p_R_planMost f s M = some (((gre m g s).length : Int), N) ∧ ∀ i : Nat, i < (gre m g s).length → N 48 (i : Int) = (((gre m g s).getD i 0 : Nat) : Int) := by
  intro m hm
  generalize hM2 : oU (acopy M 7 0 43 0 100) 42 7 0 = M2
  have g2 : gOf (M2 43) g := fun a b ha hb => by
    rw [← hM2, oU_o (by decide), acopy_in (nat100 ha hb).1 (by rw [Int.zero_add]; exact (nat100 ha hb).2), Int.sub_zero, Int.zero_add]
    exact hg a b ha hb
  obtain ⟨q, eq, q1, q2, q3⟩ := okp_ex (len_ok hf m 14 0 (by omega) (by omega) s g M2 0 hs g2 hb (by rw [← hM2, oU_at]; rfl))
  have hq : q.2 42 7 = ((gre m g s).length : Int) ∧ ∀ i : Nat, i < (gre m g s).length → q.2 48 (i : Int) = (((gre m g s).getD i 0 : Nat) : Int) := by
    by_cases z : 0 < 0 + (gre m g s).length
    · have := q3.1 z
      refine ⟨by rw [this.1, Nat.zero_add], fun i hi => ?_⟩
      have h := this.2.2 i hi
      rw [Nat.zero_add] at h
      exact h
    · have := q3.2 z
      have e0 : (gre m g s).length = 0 := by omega
      refine ⟨by rw [this.1, e0], fun i hi => ?_⟩
      rw [e0] at hi
      exact absurd hi (Nat.not_lt_zero _)
  refine ⟨q.2, ?_, hq.2⟩
  unfold p_R_planMost
  rw [cpg_eq (by decide), lt_eq, lt_eq, hM2, show p_R_lengthen f 14 (s : Int) 0 M2 = some q from eq, Option.bind_some, hq.1]
