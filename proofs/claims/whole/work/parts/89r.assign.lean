/-! new debts: the class's search -/
def cOf (N : oM) (c : Nat → Nat) : Prop := ∀ q : Nat, q < 10 → c q ≤ 990 ∧ (N 50 (q : Int) < 0 ↔ 0 < c q) ∧ (0 < c q → N 50 (q : Int) = -(c q : Int))
def evb (N : oM) (b0 : Int) (row best0 : Int → Int) (k : Nat) (h v : Int) (l : List Nat) : Prop :=
  (h + v < b0 → N 49 8 = h + v ∧ (∀ i : Nat, i < k → N 54 (i : Int) = row i) ∧ ∀ i : Nat, i < l.length → N 54 ((k + i : Nat) : Int) = ((l.getD i 0 : Nat) : Int)) ∧
  (¬ h + v < b0 → N 49 8 = b0 ∧ ∀ i : Nat, i < 6 → N 54 (i : Int) = best0 i)
theorem evb_congr {N N' : oM} {b0 h v : Int} {row best0 : Int → Int} {k : Nat} {l : List Nat} (H : evb N b0 row best0 k h v l) (h1 : N' 49 8 = N 49 8) (h2 : N' 54 = N 54) : evb N' b0 row best0 k h v l := by
  unfold evb at H ⊢
  rw [h1, h2]; exact H
theorem evb_put {Q : oM} {b0 B h w v' : Int} {row best0 row' best1 : Int → Int} {k j : Nat} {l' : List Nat} (hB : h + w + v' < B) (hb : h + w + v' < b0) (hQ : evb Q B row' best1 (k + 1) (h + w) v' l') (hr : ∀ i : Nat, i < k → row' i = row i) (hk : row' (k : Int) = (j : Int)) : evb Q b0 row best0 k h (w + v') (j :: l') := by
  have q := hQ.1 hB
  refine ⟨fun _ => ⟨by rw [q.1, Int.add_assoc], fun i hi => ?_, fun i hi => ?_⟩, fun z => ?_⟩
  · rw [q.2.1 i (Nat.lt_succ_of_lt hi), hr i hi]
  · cases i with
    | zero =>
      rw [Nat.add_zero, q.2.1 k (Nat.lt_succ_self k), hk]
      rfl
    | succ i =>
      rw [List.length_cons] at hi
      rw [show k + (i + 1) = k + 1 + i from by omega, q.2.2 i (by omega)]
      rfl
  · omega
theorem evb_next {N Q : oM} {b0 h w v v' : Int} {row best0 row' : Int → Int} {k j : Nat} {l l' : List Nat} (hl : k + l.length ≤ 6) (H : evb N b0 row best0 k h v l) (hr : ∀ i : Nat, i < k → row' i = row i) (hk : row' (k : Int) = (j : Int)) (hQ : evb Q (N 49 8) row' (N 54) (k + 1) (h + w) v' l') : evb Q b0 row best0 k h (if w + v' < v then w + v' else v) (if w + v' < v then j :: l' else l) := by
  by_cases A : h + v < b0
  · have a := H.1 A
    by_cases c : w + v' < v
    · rw [if_pos c, if_pos c]
      exact evb_put (by rw [a.1]; omega) (by omega) hQ hr hk
    · rw [if_neg c, if_neg c]
      have q := hQ.2 (by rw [a.1]; omega)
      refine ⟨fun _ => ⟨by rw [q.1, a.1], fun i hi => ?_, fun i hi => ?_⟩, fun z => absurd A z⟩
      · rw [q.2 i (by omega)]; exact a.2.1 i hi
      · rw [q.2 (k + i) (by omega)]; exact a.2.2 i hi
  · have a := H.2 A
    by_cases z : h + w + v' < b0
    · have c : w + v' < v := by omega
      rw [if_pos c, if_pos c]
      exact evb_put (by rw [a.1]; omega) z hQ hr hk
    · have q := hQ.2 (by rw [a.1]; exact z)
      have done : ∀ (v0 : Int) (l0 : List Nat), ¬ h + v0 < b0 → evb Q b0 row best0 k h v0 l0 := fun v0 l0 hv0 => ⟨fun y => absurd y hv0, fun _ => ⟨by rw [q.1, a.1], fun i hi => by rw [q.2 i hi]; exact a.2 i hi⟩⟩
      by_cases c : w + v' < v
      · rw [if_pos c, if_pos c]; exact done _ _ (by omega)
      · rw [if_neg c, if_neg c]; exact done _ _ A
def w49 : List (Nat × Int) := [(49, 8), (50, (-1)), (53, (-1)), (54, (-1))]
theorem as_skip {f k q : Nat} {n h : Int} {M : oM} {rec : Int → Int → Int → oM → Option (Int × oM)} (hq : q < 10) (h50 : ¬ M 50 (q : Int) < 0) : p_B_assign_L44 f rec k n h ((q : Int), M) = some (.inl (((q + 1 : Nat) : Int), M)) := by
  unfold p_B_assign_L44 p_B_assign_B116_44
  simp only []
  rw [if_pos (nat9 hq).2, bnd_eq (nat9 hq).1 (nat9 hq).2, if_neg h50, lt_eq, w32nat (Nat.lt_trans hq (by decide))]
theorem as_try {f k q : Nat} {n h u v w r : Int} {M Q : oM} {rec : Int → Int → Int → oM → Option (Int × oM)} (hq : q < 10) (hk : k < 6) (h50 : M 50 (q : Int) = u) (hu : u < 0) (hu2 : w32 (u + 1) = u + 1) (hway : ∀ N : oM, N 4 = M 4 → N 5 = M 5 → N 52 = M 52 → p_P_way f (N 52 (k : Int)) q N = some (w, N)) (hw : w32 (h + w) = h + w) (er : rec ((k + 1 : Nat) : Int) n (h + w) (oU (oU M 50 (q : Int) (u + 1)) 53 (k : Int) q) = some (r, Q)) (hQ : Q 50 (q : Int) = v) (hv : w32 (v - 1) = v - 1) : p_B_assign_L44 f rec k n h ((q : Int), M) = some (.inl (((q + 1 : Nat) : Int), oU Q 50 (q : Int) (v - 1))) := by
  have n6 : (k : Int) < 6 := nat_lt hk
  have ew := hway (oU (oU M 50 (q : Int) (u + 1)) 53 (k : Int) q) ((oU_row (by decide)).trans (oU_row (by decide))) ((oU_row (by decide)).trans (oU_row (by decide))) ((oU_row (by decide)).trans (oU_row (by decide)))
  unfold p_B_assign_L44 p_B_assign_B116_44
  simp only []
  rw [if_pos (nat9 hq).2, bnd_eq (nat9 hq).1 (nat9 hq).2, h50, if_pos hu, bnd_eq (nat9 hq).1 (nat9 hq).2, bnd_eq (nat9 hq).1 (nat9 hq).2, lt_eq, h50, hu2, bnd_nat n6, lt_eq, bnd_nat n6, ew, Option.bind_some, w32nat (Nat.lt_trans hk (by decide)), show w32 (h + (w, oU (oU M 50 (q : Int) (u + 1)) 53 (k : Int) q).fst) = h + w from hw, show rec ((k + 1 : Nat) : Int) n (h + w) (w, oU (oU M 50 (q : Int) (u + 1)) 53 (k : Int) q).snd = some (r, Q) from er, Option.bind_some, bnd_eq (nat9 hq).1 (nat9 hq).2, bnd_eq (nat9 hq).1 (nat9 hq).2, lt_eq, show (r, Q).snd 50 (q : Int) = v from hQ, hv, lt_eq, w32nat (Nat.lt_trans hq (by decide))]
theorem cOf_dec {M : oM} {c : Nat → Nat} {q : Nat} {x : Int} (h : cOf M c) (hq : q < 10) (hp : 0 < c q) (hx : x = M 50 (q : Int) + 1) : cOf (oU M 50 (q : Int) x) (decc c q) := by
  intro p hp10
  have a := h p hp10
  unfold decc
  by_cases e : p = q
  · subst e
    rw [if_pos rfl, oU_at, hx, a.2.2 hp]
    refine ⟨by omega, ?_, ?_⟩
    · constructor <;> intro z <;> omega
    · intro z; omega
  · rw [if_neg e, oU_i (natne e)]
    exact a
theorem cOf_congr {M N : oM} {c : Nat → Nat} (h : cOf M c) (he : ∀ p : Nat, p < 10 → N 50 (p : Int) = M 50 (p : Int)) : cOf N c := by
  intro p hp
  rw [he p hp]
  exact h p hp
def asQ (B : oM) (m50 : Int → Int) (b0 : Int) (row best0 : Int → Int) (k : Nat) (h v : Int) (l : List Nat) (N : oM) : Prop := (∀ p : Nat, p < 10 → N 50 (p : Int) = m50 (p : Int)) ∧ (∀ i : Nat, i < k → N 53 (i : Int) = row i) ∧ eqo w49 B N ∧ evb N b0 row best0 k h v l
def asH (f : Nat) (B : oM) (w : Nat → Nat → Int) (n r k : Nat) (rec : Int → Int → Int → oM → Option (Int × oM)) : Prop := ∀ (c : Nat → Nat) (M : oM) (b0 h : Int), cOf M c → eqo w49 B M → M 49 8 = b0 → b0 ≤ 1000000 → 0 ≤ h → h ≤ 18 * (k : Int) → okp (rec (k : Int) (n : Int) h M) (fun q => asQ B (M 50) b0 (M 53) (M 54) k h (bv w r c k) (bl w r c k) q.2)
theorem evb_best {N : oM} {b0 h v : Int} {row best0 : Int → Int} {k : Nat} {l : List Nat} (H : evb N b0 row best0 k h v l) (hb : b0 ≤ 1000000) : N 49 8 ≤ 1000000 := by
  by_cases A : h + v < b0
  · rw [(H.1 A).1]; omega
  · rw [(H.2 A).1]; exact hb
theorem blK_len {w : Nat → Nat → Int} {r : Nat} {c : Nat → Nat} {k : Nat} (hlen : ∀ c k, (bl w r c k).length ≤ r) : ∀ j, (blK w r (bl w r) c k j).length ≤ r + 1 := by
  intro j
  induction j with
  | zero => exact Nat.zero_le _
  | succ j ih =>
    rw [blK_succ]
    split
    · rw [List.length_cons]; exact Nat.succ_le_succ (hlen _ _)
    · exact ih
theorem bl_len {w : Nat → Nat → Int} : ∀ (r : Nat) (c : Nat → Nat) (k : Nat), (bl w r c k).length ≤ r := by
  intro r
  induction r with
  | zero => intro c k; exact Nat.le_refl _
  | succ r ih => intro c k; exact blK_len ih 10
theorem as_step {f n r k q : Nat} {B M : oM} {w : Nat → Nat → Int} {c : Nat → Nat} {b0 h : Int} {m50 row best0 : Int → Int} {rec : Int → Int → Int → oM → Option (Int × oM)} (hq : q < 10) (hk : k < 6) (hr6 : r + 1 + k ≤ 6) (hb : b0 ≤ 1000000) (h0 : 0 ≤ h) (h1 : h ≤ 18 * (k : Int)) (hw : ∀ k q, 0 ≤ w k q ∧ w k q ≤ 18) (hway : ∀ (q : Nat) (N : oM), q < 10 → N 4 = B 4 → N 5 = B 5 → N 52 = B 52 → p_P_way f (N 52 (k : Int)) q N = some (w k q, N)) (hrec : asH f B w n r (k + 1) rec)
    (hc0 : ∀ N : oM, (∀ p : Nat, p < 10 → N 50 (p : Int) = m50 (p : Int)) → cOf N c) (hI : asQ B m50 b0 row best0 k h (evK w (bv w r) c k q) (blK w r (bl w r) c k q) M) :
    ∃ N, p_B_assign_L44 f rec k n h ((q : Int), M) = some (.inl (((q + 1 : Nat) : Int), N)) ∧ asQ B m50 b0 row best0 k h (evK w (bv w r) c k (q + 1)) (blK w r (bl w r) c k (q + 1)) N := by
  obtain ⟨i1, i2, i3, i4⟩ := hI
  have i1c := hc0 M i1
  have hc := i1c q hq
  by_cases hp : 0 < c q
  · have hu := hc.2.2 hp
    have hwq := hw k q
    generalize hM8 : oU (oU M 50 (q : Int) (M 50 (q : Int) + 1)) 53 (k : Int) q = M8
    have e54 : M8 54 = M 54 := by rw [← hM8, oU_row (by decide), oU_row (by decide)]
    have e49 : M8 49 8 = M 49 8 := by rw [← hM8, oU_o (by decide), oU_o (by decide)]
    have r1 : ∀ i : Nat, i < k → M8 53 (i : Int) = row i := fun i hi => by
      rw [← hM8, oU_i (natne (Nat.ne_of_lt hi)), oU_o (by decide)]; exact i2 i hi
    have r2 : M8 53 (k : Int) = (q : Int) := by rw [← hM8, oU_at]
    have c8 : cOf M8 (decc c q) := by
      have h8 := cOf_dec i1c hq hp (x := M 50 (q : Int) + 1) rfl
      intro p hp10
      rw [← hM8, oU_o (by decide)]
      exact h8 p hp10
    have f8 : eqo w49 B M8 := by
      rw [← hM8]
      exact eqo_oUa (.tail _ (.tail _ (.head _))) (eqo_oUa (.tail _ (.head _)) i3)
    obtain ⟨Q, eQ, q1, q2, q3, q4⟩ := okp_ex (hrec (decc c q) M8 (M 49 8) (h + w k q) c8 f8 e49 (evb_best i4 hb) (by omega) (by rw [Int.natCast_add, Int.mul_add]; omega))
    have er : rec ((k + 1 : Nat) : Int) n (h + w k q) (oU (oU M 50 (q : Int) (M 50 (q : Int) + 1)) 53 (k : Int) q) = some (Q.1, Q.2) := by rw [hM8]; exact eQ
    have e8 : ∀ p : Nat, p < 10 → p ≠ q → M8 50 (p : Int) = M 50 (p : Int) := fun p _ hpq => by
      rw [← hM8, oU_o (by decide), oU_i (natne hpq)]
    have e8q : M8 50 (q : Int) = M 50 (q : Int) + 1 := by rw [← hM8, oU_o (by decide), oU_at]
    have hq50 : Q.2 50 (q : Int) = M 50 (q : Int) + 1 := (q1 q hq).trans e8q
    refine ⟨_, as_try hq hk rfl (by rw [hu]; omega) (by rw [hu, w32_of (by omega) (by omega)]) (fun N n4 n5 n52 => hway q N hq (n4.trans (eqo_a i3 4 rfl)) (n5.trans (eqo_a i3 5 rfl)) (n52.trans (eqo_a i3 52 rfl))) (w32_of (by omega) (by omega)) er hq50 (by rw [w32_of (by omega) (by omega)]), fun p hp10 => ?_, fun i hi => ?_, eqo_oUa (.tail _ (.head _)) q3, ?_⟩
    · by_cases e : p = q
      · rw [e, oU_at, Int.add_sub_cancel]; exact i1 q hq
      · rw [oU_i (natne e), q1 p hp10, e8 p hp10 e]; exact i1 p hp10
    · rw [oU_o (by decide), q2 i (Nat.lt_succ_of_lt hi)]; exact r1 i hi
    · have ev : evV w (bv w r) c k q = w k q + bv w r (decc c q) (k + 1) := if_pos hp
      rw [evK_succ, blK_succ, ev]
      refine evb_congr (evb_next (row' := M8 53) ?_ i4 r1 r2 ?_) (oU_o (by decide)) (oU_row (by decide))
      · have := blK_len (w := w) (r := r) (c := c) (k := k) (bl_len r) q
        omega
      · rw [← e54]; exact q4
  · have ev : evV w (bv w r) c k q = 1000000 := if_neg hp
    have hle : evK w (bv w r) c k q ≤ 1000000 := by
      rcases blK_pick (w := w) (r := r) (G := bl w r) (c := c) (k := k) q with z | ⟨p, _, _, _, _, z, _⟩
      · exact Int.le_of_eq z.1
      · exact Int.le_of_lt z
    refine ⟨M, as_skip hq (fun z => hp (hc.2.1.1 z)), i1, i2, i3, ?_⟩
    rw [evK_succ, blK_succ, ev, if_neg (Int.not_lt.mpr hle), if_neg (Int.not_lt.mpr hle)]
    exact i4
theorem as_loop {f n r k : Nat} {B M : oM} {w : Nat → Nat → Int} {c : Nat → Nat} {b0 h : Int} {rec : Int → Int → Int → oM → Option (Int × oM)} (hf : 2000 < f) (hk : k < 6) (hr6 : r + 1 + k ≤ 6) (hb : b0 ≤ 1000000) (h0 : 0 ≤ h) (h1 : h ≤ 18 * (k : Int)) (hlt : h < b0) (hw : ∀ k q, 0 ≤ w k q ∧ w k q ≤ 18) (hway : ∀ (q : Nat) (N : oM), q < 10 → N 4 = B 4 → N 5 = B 5 → N 52 = B 52 → p_P_way f (N 52 (k : Int)) q N = some (w k q, N)) (hrec : asH f B w n r (k + 1) rec)
    (hc : cOf M c) (hB : eqo w49 B M) (h49 : M 49 8 = b0) : okp (iter (p_B_assign_L44 f rec k n h) f (0, M)) (fun q => asQ B (M 50) b0 (M 53) (M 54) k h (bv w (r + 1) c k) (bl w (r + 1) c k) q.2) := by
  refine for_ok 10 (fun (q : Nat) (s : Int × oM) => s.1 = (q : Int) ∧ asQ B (M 50) b0 (M 53) (M 54) k h (evK w (bv w r) c k q) (blK w r (bl w r) c k q) s.2) (fun q s hq hI => ?_) (fun s hI => ?_) f (Nat.lt_trans (by decide) hf) ⟨rfl, fun p _ => rfl, fun i _ => rfl, hB, fun z => ?_, fun _ => ⟨h49, fun i _ => rfl⟩⟩
  · obtain ⟨j, N⟩ := s
    obtain ⟨i1, i2⟩ := hI
    simp only at i1 i2
    subst i1
    obtain ⟨N', e, h'⟩ := as_step (f := f) hq hk hr6 hb h0 h1 hw hway hrec (fun N hN => cOf_congr hc hN) i2
    rw [e]
    exact ⟨rfl, h'⟩
  · obtain ⟨j, N⟩ := s
    obtain ⟨i1, i2⟩ := hI
    simp only at i1 i2
    subst i1
    unfold p_B_assign_L44
    simp only []
    rw [if_neg (show ¬ (((10 : Nat) : Int) < 10) by decide)]
    exact i2
  · have z' : h + 1000000 < b0 := z
    omega
theorem as_ok {f n : Nat} {B : oM} {w : Nat → Nat → Int} (hf : 2000 < f) (hn : n ≤ 6) (hw : ∀ k q, 0 ≤ w k q ∧ w k q ≤ 18) (hway : ∀ (k q : Nat) (N : oM), k < n → q < 10 → N 4 = B 4 → N 5 = B 5 → N 52 = B 52 → p_P_way f (N 52 (k : Int)) q N = some (w k q, N)) : ∀ (r lv k : Nat), r + 1 ≤ lv → r + k = n → asH f B w n r k (p_B_assign f lv) := by
  have hw0 : ∀ k q, 0 ≤ w k q := fun k q => (hw k q).1
  intro r
  induction r with
  | zero =>
    intro lv k hl hk c M b0 h hc hB h49 hb h0 h1
    obtain ⟨lv, rfl⟩ : ∃ l', lv = l' + 1 := ⟨lv - 1, by omega⟩
    have ek : k = n := by omega
    subst ek
    show okp (p_B_assign_F f (p_B_assign f lv) (k : Int) (k : Int) h M) _
    unfold p_B_assign_F p_B_assign_B20
    rw [h49]
    by_cases z : h < b0
    · rw [if_pos z, if_neg (Int.lt_irrefl _), lt_eq, cpg_eq (by decide), lt_eq]
      refine ⟨fun p _ => ?_, fun i _ => ?_, eqo_ac (.tail _ (.tail _ (.tail _ (.head _)))) (eqo_oU (.head _) hB), fun _ => ⟨?_, fun i hi => ?_, fun i hi => absurd hi (Nat.not_lt_zero _)⟩, fun y => absurd (show h + 0 < b0 by omega) y⟩
      · show acopy (oU M 49 8 h) 53 0 54 0 6 50 (p : Int) = _
        rw [acopy_o (by decide), oU_o (by decide)]
      · show acopy (oU M 49 8 h) 53 0 54 0 6 53 (i : Int) = _
        rw [acopy_o (by decide), oU_o (by decide)]
      · show acopy (oU M 49 8 h) 53 0 54 0 6 49 8 = h + 0
        rw [acopy_o (by decide), oU_at, Int.add_zero]
      · show acopy (oU M 49 8 h) 53 0 54 0 6 54 (i : Int) = _
        rw [acopy_in (Int.natCast_nonneg i) (by rw [Int.zero_add]; exact nat_lt (Nat.lt_of_lt_of_le hi hn)), oU_o (by decide), Int.sub_zero, Int.zero_add]
    · rw [if_neg z]
      exact ⟨fun p _ => rfl, fun i _ => rfl, hB, fun y => absurd (show h + 0 < b0 from y) (by omega), fun _ => ⟨h49, fun i _ => rfl⟩⟩
  | succ r ih =>
    intro lv k hl hk c M b0 h hc hB h49 hb h0 h1
    obtain ⟨lv, rfl⟩ : ∃ l', lv = l' + 1 := ⟨lv - 1, by omega⟩
    show okp (p_B_assign_F f (p_B_assign f lv) (k : Int) (n : Int) h M) _
    unfold p_B_assign_F
    rw [h49]
    by_cases z : h < b0
    · rw [if_pos z, if_pos (nat_lt (show k < n by omega)), if_pos (show (k : Int) < 6 from nat_lt (show k < 6 by omega))]
      exact as_loop hf (by omega) (by omega) hb h0 h1 z hw (fun q N hq => hway k q N (by omega) hq) (ih lv (k + 1) (by omega) (by omega)) hc hB h49
    · rw [if_neg z]
      have hv := bv_nn hw0 (r + 1) c k
      exact ⟨fun p _ => rfl, fun i _ => rfl, hB, fun y => absurd y (by omega), fun _ => ⟨h49, fun i _ => rfl⟩⟩
