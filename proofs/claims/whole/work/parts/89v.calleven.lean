/-! new debts: the reference's loop, the call -/
def isE (M : oM) (n : Nat) (lk wt : Nat → Nat) : Prop := M 57 58 = (n : Int) ∧ ∀ j : Nat, j < n → lk j < 10 ∧ wt j < 10 ∧ M 89 (j : Int) = (lk j : Int) ∧ M 90 (j : Int) = (wt j : Int)
def w92 : List (Nat × Int) := [(91, (-1)), (92, (-1))]
theorem isE_eqo {M N : oM} {n : Nat} {lk wt : Nat → Nat} (h : isE M n lk wt) (e : eqo w92 M N) : isE N n lk wt := ⟨(eqo_f e 57 58 rfl).trans h.1, fun j hj => ⟨(h.2 j hj).1, (h.2 j hj).2.1, (congrFun (eqo_a e 89 rfl) _).trans (h.2 j hj).2.2.1, (congrFun (eqo_a e 90 rfl) _).trans (h.2 j hj).2.2.2⟩⟩
theorem hor_step {f n k D : Nat} {s a b v : Int} {M : oM} (hk : k < n) (hn : n ≤ 6) (hD : D < n) (h91 : M 91 (k : Int) = (D : Int)) (h89 : M 89 (k : Int) = a) (h90 : M 90 (D : Int) = b) (hw : p_M_wayOf f a b M = some (v, M)) (hv : w32 (s + v) = s + v) : p_M_hoursOfRow_L4 f n (s, (k : Int), M) = some (.inl (s + v, (k : Int) + 1, M)) := by
  have n6 : (k : Int) < 6 := nat_lt (Nat.lt_of_lt_of_le hk hn)
  have d6 : (D : Int) < 6 := nat_lt (Nat.lt_of_lt_of_le hD hn)
  unfold p_M_hoursOfRow_L4
  simp only []
  rw [if_pos (nat_lt hk), bnd_nat n6, bnd_nat n6, h91, bnd_nat d6, h89, h90, hw, Option.bind_some, lt_eq, lt_eq, show w32 (s + (v, M).fst) = s + v from hv, show w32 ((k : Int) + 1) = (k : Int) + 1 from w32nat (Nat.lt_trans (Nat.lt_of_lt_of_le hk hn) (by decide))]
theorem e_hoursOfRow {f n : Nat} {M : oM} {lk wt D : Nat → Nat} {w : Nat → Nat → Int} (hf : 2000 < f) (hn : n ≤ 6) (hE : isE M n lk wt) (hX : spotOk (M 61)) (hY : spotOk (M 62)) (hw : ∀ k q : Nat, k < n → q < 10 → wayS (M 61) (M 62) (lk k) q = w k q) (hw18 : ∀ k q, 0 ≤ w k q ∧ w k q ≤ 18) (hD : ∀ k, k < n → D k < n ∧ M 91 (k : Int) = (D k : Int)) : p_M_hoursOfRow f n M = some (sumN (fun k => w k (wt (D k))) n, M) := by
  unfold p_M_hoursOfRow
  refine sum_loop (g := fun k => w k (wt (D k))) n 18 ⟨by decide, by omega⟩ (fun k _ => hw18 _ _) ?_ ?_ f (by omega)
  · intro i s hi h0 h1
    have h18 := hw18 i (wt (D i))
    have hd := hD i hi
    have hlk := hE.2 i hi
    have hwt := hE.2 (D i) hd.1
    refine hor_step hi hn hd.1 hd.2 hlk.2.2.1 hwt.2.2.2 ?_ (w32_of (by omega) (by omega))
    rw [e_M_wayOf hX hY (nat9 hlk.1) (nat9 hwt.2.1), hw i _ hi hwt.2.1]
  · intro s
    unfold p_M_hoursOfRow_L4
    simp only []
    rw [if_neg (Int.lt_irrefl _)]
theorem cp_row {f n : Nat} {l1 l2 l3 l4 : Int} {M : oM} {lk wt D : Nat → Nat} (hf : 2000 < f) (hn : n ≤ 6) (hE : isE M n lk wt) (hD : ∀ k, k < n → D k < n ∧ M 91 (k : Int) = (D k : Int)) : ∃ N, iter (p_M_even_L144 f l1 l2 l3 l4) f (0, M) = some N ∧ (∀ k, k < n → N 92 (k : Int) = (wt (D k) : Int)) ∧ eqo [(92, (-1))] M N := by
  refine okp_ex (for_ok n (fun (k : Nat) (s : Int × oM) => s.1 = (k : Int) ∧ (∀ j, j < k → s.2 92 (j : Int) = (wt (D j) : Int)) ∧ eqo [(92, (-1))] M s.2) (fun k s hk hI => ?_) (fun s hI => ?_) f (Nat.lt_of_le_of_lt hn (Nat.lt_trans (by decide) hf)) ⟨rfl, fun j hj => absurd hj (Nat.not_lt_zero _), eqo_rfl _ _⟩)
  · obtain ⟨i, N⟩ := s
    obtain ⟨i1, i2, i3⟩ := hI
    simp only at i1 i2 i3
    subst i1
    have n6 : (k : Int) < 6 := nat_lt (Nat.lt_of_lt_of_le hk hn)
    have d6 : (D k : Int) < 6 := nat_lt (Nat.lt_of_lt_of_le (hD k hk).1 hn)
    have e58 : N 57 58 = (n : Int) := (eqo_f i3 57 58 rfl).trans hE.1
    have e91 : N 91 (k : Int) = (D k : Int) := (congrFun (eqo_a i3 91 rfl) _).trans (hD k hk).2
    have e90 : N 90 (D k : Int) = (wt (D k) : Int) := (congrFun (eqo_a i3 90 rfl) _).trans (hE.2 _ (hD k hk).1).2.2.2
    unfold p_M_even_L144
    simp only []
    rw [e58, if_pos (nat_lt hk), bnd_nat n6, e91, bnd_nat d6, bnd_nat n6, e90, lt_eq, lt_eq, w32nat (Nat.lt_trans (Nat.lt_of_lt_of_le hk hn) (by decide))]
    refine ⟨rfl, fun j hj => ?_, eqo_oUa (.head _) i3⟩
    show oU N 92 (k : Int) (wt (D k) : Int) 92 (j : Int) = _
    by_cases z : j = k
    · rw [z, oU_at]
    · rw [oU_i (natne z)]; exact i2 j (by omega)
  · obtain ⟨i, N⟩ := s
    obtain ⟨i1, i2, i3⟩ := hI
    simp only at i1 i2 i3
    subst i1
    unfold p_M_even_L144
    simp only []
    rw [(eqo_f i3 57 58 rfl).trans hE.1, if_neg (Int.lt_irrefl _)]
    exact ⟨i2, i3⟩
def eweI (n : Nat) (wt : Nat → Nat) (w : Nat → Nat → Int) (B : oM) (i : Nat) (s : Int × Int × oM) : Prop :=
  s.2.1 = (i : Int) ∧ eqo w92 B s.2.2 ∧ ((s.1 = 1000000 ∧ ∀ y, viU n noU y → y.length = n → i ≤ ecd n 0 y) ∨
    ∃ x, viU n noU x ∧ x.length = n ∧ ecd n 0 x < i ∧ s.1 = clw w 0 (x.map wt) ∧ (∀ k, k < n → s.2.2 92 (k : Int) = (((x.map wt).getD k 0 : Nat) : Int)) ∧ ∀ y, viU n noU y → y.length = n → ecd n 0 y < i → clw w 0 (x.map wt) ≤ clw w 0 (y.map wt) ∧ (ecd n 0 y < ecd n 0 x → clw w 0 (x.map wt) < clw w 0 (y.map wt)))
def evQ (n : Nat) (wt : Nat → Nat) (w : Nat → Nat → Int) (what : Int) (r : Int × oM) : Prop := ∃ x, fmI n wt w noU 0 0 x ∧ x.length = n ∧ r.1 = if what = 101 then clw w 0 (x.map wt) else (((x.map wt).getD what.toNat 0 : Nat) : Int)
theorem ev2_step {f n i C : Nat} {what : Int} {B : oM} {s : Int × Int × oM} {lk wt : Nat → Nat} {w : Nat → Nat → Int} (hf : 2000 < f) (hn : n ≤ 6) (hC : C = n ^ n) (hC2 : C ≤ 46656) (hi : i < C) (hE : isE B n lk wt) (hX : spotOk (B 61)) (hY : spotOk (B 62)) (hw : ∀ k q : Nat, k < n → q < 10 → wayS (B 61) (B 62) (lk k) q = w k q) (hw18 : ∀ k q, 0 ≤ w k q ∧ w k q ≤ 18) (hI : eweI n wt w B i s) : okp (p_M_even_L98 f what C s) (psum (eweI n wt w B (i + 1)) (evQ n wt w what)) := by
  obtain ⟨a, j, M⟩ := s
  obtain ⟨i1, i2, i3⟩ := hI
  simp only at i1 i2 i3
  subst i1
  have hE1 := isE_eqo hE i2
  have w1 : w32 ((i : Int) + 1) = ((i + 1 : Nat) : Int) := by rw [w32_of (by omega) (by omega)]; rfl
  obtain ⟨b, N, e1, e2, e3⟩ := e_readsRow (f := f) (n := n) (code := i) (M := M) hf hn (by omega)
  have f2 : eqo w92 B N := eqo_tr (subw_cons (.head _) subw_nil) i2 e2
  have hE2 := isE_eqo hE f2
  have stay : ∀ N' : oM, eqo w92 B N' → p_M_even_B178_98 f what C a i N' = some (.inl (a, ((i + 1 : Nat) : Int), N')) := fun N' _ => by
    unfold p_M_even_B178_98
    rw [lt_eq, w1]
  unfold p_M_even_L98
  simp only []
  rw [if_pos (nat_lt hi), hE1.1, e1, Option.bind_some]
  rcases e3 with ⟨rfl, g1, g2⟩ | ⟨rfl, g1⟩
  · rw [if_neg (show ¬ ((1 : Int), N).fst = 0 from fun z => absurd (show (1 : Int) = 0 from z) (by decide))]
    have hvx := dist_vi g1
    have hlx : (lst (dgt n i) 0 n).length = n := lst_len n 0
    have hcx : ecd n 0 (lst (dgt n i) 0 n) = i := ecd_code (hC ▸ hi)
    have hD : ∀ k, k < n → dgt n i k < n ∧ N 91 (k : Int) = ((dgt n i k : Nat) : Int) := fun k hk => ⟨dgt_lt (by omega), g2 k hk⟩
    have hclw : clw w 0 ((lst (dgt n i) 0 n).map wt) = sumN (fun k => w k (wt (dgt n i k))) n := by
      rw [clw_lst]
      refine sumN_congr n fun k _ => ?_
      rw [Nat.zero_add]
    have hh := e_hoursOfRow (f := f) (M := N) (D := dgt n i) hf hn hE2 ((eqo_a f2 61 rfl) ▸ hX) ((eqo_a f2 62 rfl) ▸ hY) (by rw [eqo_a f2 61 rfl, eqo_a f2 62 rfl]; exact hw) hw18 hD
    rw [← hclw] at hh
    have hsm : clw w 0 ((lst (dgt n i) 0 n).map wt) < 1000000 := by
      have := clw_bd hw18 ((lst (dgt n i) 0 n).map wt) 0
      rw [List.length_map, hlx] at this
      omega
    have uniq : ∀ y, viU n noU y → y.length = n → ecd n 0 y = i → y = lst (dgt n i) 0 n := fun y hy hyl hyc => by
      have := (vi_code hy hyl).2.2
      rw [hyc] at this
      exact this
    obtain ⟨N', c1, c2, c3⟩ := cp_row (f := f) (l1 := what) (l2 := (C : Int)) (l3 := clw w 0 ((lst (dgt n i) 0 n).map wt)) (l4 := (i : Int)) (M := N) hf hn hE2 hD
    generalize hx : lst (dgt n i) 0 n = x at *
    rw [show (1, N).snd 57 58 = (n : Int) from hE2.1, show p_M_hoursOfRow f n ((1 : Int), N).snd = some (clw w 0 (x.map wt), N) from hh, Option.bind_some]
    by_cases hlt : clw w 0 (x.map wt) < a
    · rw [if_pos (show (clw w 0 (x.map wt), N).fst < a from hlt), show (clw w 0 (x.map wt), N).snd 57 58 = (n : Int) from hE2.1, show p_M_hoursOfRow f n (clw w 0 (x.map wt), N).snd = some (clw w 0 (x.map wt), N) from hh, Option.bind_some, show iter (p_M_even_L144 f what C (clw w 0 (x.map wt), N).fst i) f (0, (clw w 0 (x.map wt), N).snd) = some N' from c1, Option.bind_some]
      unfold p_M_even_X144 p_M_even_B178_98
      simp only []
      rw [lt_eq, w1]
      refine ⟨rfl, eqo_tr (subw_cons (.tail _ (.head _)) subw_nil) f2 c3, .inr ⟨x, hvx, hlx, by omega, rfl, fun k hk => ?_, fun y hy hyl hyc => ?_⟩⟩
      · show N' 92 (k : Int) = _
        rw [c2 k hk, ← hx, lst_getD n 0 k hk, Nat.zero_add]
      · by_cases z : ecd n 0 y = i
        · rw [uniq y hy hyl z]
          exact ⟨Int.le_refl _, fun q => absurd q (Nat.lt_irrefl _)⟩
        · rcases i3 with ⟨_, k2⟩ | ⟨x0, k1, k2, k3, k4, k5, k6⟩
          · have := k2 y hy hyl
            omega
          · have := k6 y hy hyl (by omega)
            exact ⟨by omega, fun _ => by omega⟩
    · rw [if_neg (show ¬ (clw w 0 (x.map wt), N).fst < a from hlt), stay _ f2]
      refine ⟨rfl, f2, ?_⟩
      rcases i3 with ⟨k1, _⟩ | ⟨x0, k1, k2, k3, k4, k5, k6⟩
      · rw [k1] at hlt; exact absurd hsm hlt
      · refine .inr ⟨x0, k1, k2, by omega, k4, fun k hk => ?_, fun y hy hyl hyc => ?_⟩
        · show N 92 (k : Int) = _
          rw [eqo_a e2 92 rfl]; exact k5 k hk
        · by_cases z : ecd n 0 y = i
          · rw [uniq y hy hyl z]
            exact ⟨by omega, fun q => by omega⟩
          · exact k6 y hy hyl (by omega)
  · rw [if_pos (show ((0 : Int), N).fst = 0 from rfl), stay _ f2]
    have no : ∀ y, viU n noU y → y.length = n → ecd n 0 y ≠ i := fun y hy hyl z => by
      have := (vi_code hy hyl).2.1
      rw [z] at this
      exact g1 this
    refine ⟨rfl, f2, ?_⟩
    rcases i3 with ⟨k1, k2⟩ | ⟨x0, k1, k2, k3, k4, k5, k6⟩
    · exact .inl ⟨k1, fun y hy hyl => by have := k2 y hy hyl; have := no y hy hyl; omega⟩
    · refine .inr ⟨x0, k1, k2, by omega, k4, fun k hk => ?_, fun y hy hyl hyc => k6 y hy hyl (by have := no y hy hyl; omega)⟩
      show N 92 (k : Int) = _
      rw [eqo_a e2 92 rfl]; exact k5 k hk
theorem ev2_end {f n C : Nat} {what : Int} {B : oM} {s : Int × Int × oM} {wt : Nat → Nat} {w : Nat → Nat → Int} (hC : C = n ^ n) (hwhat : what = 101 ∨ (0 ≤ what ∧ what < (n : Int))) (hn : n ≤ 6) (hI : eweI n wt w B C s) : okp (p_M_even_L98 f what C s) (psum (fun _ => False) (evQ n wt w what)) := by
  obtain ⟨a, j, M⟩ := s
  obtain ⟨i1, i2, i3⟩ := hI
  simp only at i1 i2 i3
  subst i1
  unfold p_M_even_L98
  simp only []
  rw [if_neg (Int.lt_irrefl _)]
  rcases i3 with ⟨k1, k2⟩ | ⟨x0, k1, k2, k3, k4, k5, k6⟩
  · have hv : viU n noU (lst (fun i => i) 0 n) := lst_vi n 0 noU (fun j _ h2 => ⟨by omega, rfl⟩) (fun a b _ hab _ => Nat.ne_of_lt hab)
    have h1 := k2 _ hv (lst_len n 0)
    have h2 := (vi_code hv (lst_len n 0)).1
    omega
  · have hfm : fmI n wt w noU 0 0 x0 := ⟨k1, fun y hy hyl => k6 y hy (hyl.trans k2) (by rw [hC]; exact (vi_code hy (hyl.trans k2)).1)⟩
    by_cases h101 : what = 101
    · rw [if_pos h101]
      exact ⟨x0, hfm, k2, by rw [if_pos h101]; exact k4⟩
    · have hw := hwhat.resolve_left h101
      rw [if_neg h101, bnd_eq hw.1 (by omega)]
      refine ⟨x0, hfm, k2, ?_⟩
      rw [if_neg h101]
      show M 92 what = _
      have h5 := k5 what.toNat (by omega)
      rw [Int.toNat_of_nonneg hw.1] at h5
      exact h5
theorem pow_bd {n k : Nat} (hn : n ≤ 6) (hk : k ≤ n) : n ^ k ≤ 46656 := by
  have h1 : n ^ k ≤ 6 ^ k := Nat.pow_le_pow_left hn k
  have h2 : 6 ^ k ≤ 6 ^ 6 := Nat.pow_le_pow_right (by decide) (Nat.le_trans hk hn)
  exact Nat.le_trans h1 h2
theorem e_pow {f n : Nat} {what : Int} {M : oM} (hf : 2000 < f) (hn : n ≤ 6) (h58 : M 57 58 = (n : Int)) : iter (p_M_even_L70 f what) f (1, 0, M) = some (((n ^ n : Nat) : Int), M) := by
  refine iter_up n (fun i => (((n ^ i : Nat) : Int), (i : Int), M)) _ ?_ ?_ f (Nat.lt_of_le_of_lt hn (Nat.lt_trans (by decide) hf))
  · intro k hk
    have hb := pow_bd hn hk
    have e : ((n ^ k : Nat) : Int) * (n : Int) = ((n ^ (k + 1) : Nat) : Int) := by rw [Nat.pow_succ, Int.natCast_mul]
    show p_M_even_L70 f what (((n ^ k : Nat) : Int), (k : Int), M) = _
    unfold p_M_even_L70
    simp only []
    rw [h58, if_pos (nat_lt hk), e]
    generalize n ^ (k + 1) = P at *
    rw [w32_of (a := (P : Int)) (by omega) (by omega), lt_eq, lt_eq, w32nat (Nat.lt_trans (Nat.lt_of_lt_of_le hk hn) (by decide))]
  · show p_M_even_L70 f what (_, (n : Int), M) = _
    unfold p_M_even_L70
    simp only []
    rw [h58, if_neg (Int.lt_irrefl _)]
theorem e_M_evenB66 {f n : Nat} {what : Int} {M : oM} {lk wt : Nat → Nat} {w : Nat → Nat → Int} (hf : 50000 < f) (hn : n ≤ 6) (hwhat : what = 101 ∨ (0 ≤ what ∧ what < (n : Int))) (hE : isE M n lk wt) (hX : spotOk (M 61)) (hY : spotOk (M 62)) (hw : ∀ k q : Nat, k < n → q < 10 → wayS (M 61) (M 62) (lk k) q = w k q) (hw18 : ∀ k q, 0 ≤ w k q ∧ w k q ≤ 18) : ∃ r N, p_M_even_B66 f what M = some (r, N) ∧ evQ n wt w what (r, N) := by
  have hf2 : 2000 < f := Nat.lt_trans (by decide) hf
  have hb := pow_bd hn (Nat.le_refl n)
  have hr : okp (p_M_even_B66 f what M) (evQ n wt w what) := by
    unfold p_M_even_B66
    rw [e_pow hf2 hn hE.1, Option.bind_some]
    unfold p_M_even_X70
    simp only []
    generalize hC : n ^ n = C at *
    refine for_ok C (eweI n wt w M) (fun i s hi hI => ev2_step hf2 hn hC.symm hb hi hE hX hY hw hw18 hI) (fun s hI => ev2_end hC.symm hwhat hn hI) f (by omega) ⟨rfl, eqo_rfl _ _, .inl ⟨rfl, fun y _ _ => Nat.zero_le _⟩⟩
  obtain ⟨q, eq, h⟩ := okp_ex hr
  exact ⟨q.1, q.2, eq, h⟩
theorem cu_cNeg {d : Int → Int} {n : Nat} (hn : n = cs (wN d) 10) : cu n (fun i => clf (wN d) i 10) noU = cNeg d := by
  funext q
  have h := clf_cnt (d := wN d) (m := 10) (q := q) 10 (Nat.le_refl _)
  unfold cu cNeg
  rw [hn, ← h]
  refine sN_congr _ fun i _ => ?_
  by_cases z : clf (wN d) i 10 = q
  · rw [if_pos ⟨rfl, z⟩, if_pos z]
  · rw [if_neg (fun y => z y.2), if_neg z]
theorem clf_mono {d : Int → Int} {m i j : Nat} (hi : i < cs d m) (hj : j < cs d m) (h : clf d i m < clf d j m) : i < j := by
  have a := clf_ok m hi
  have b := clf_ok m hj
  exact Nat.lt_of_lt_of_le a.2.2 (Nat.le_trans (cs_le h) b.2.1)
theorem clf_congr {d d' : Int → Int} {j : Nat} : ∀ n, (∀ p, p ≤ n → cs d' p = cs d p) → clf d' j n = clf d j n := by
  intro n
  induction n with
  | zero => intro _; rfl
  | succ n ih =>
    intro h
    show (if j < cs d' n then clf d' j n else n) = (if j < cs d n then clf d j n else n)
    rw [h n (Nat.le_succ n), ih (fun p hp => h p (Nat.le_succ_of_le hp))]
theorem hrw_congr {X Y X' Y' : Int → Int} {lk : Nat → Nat} (h : ∀ i : Int, 0 ≤ i → i < 10 → X i = X' i ∧ Y i = Y' i) : hrw X Y lk = hrw X' Y' lk := by
  funext k q
  unfold hrw
  by_cases z : lk k < 10 ∧ q < 10
  · rw [if_pos z, if_pos z, wayS_congr (nat9 z.1) (nat9 z.2) h]
  · rw [if_neg z, if_neg z]
theorem even_B {f T : Nat} {c what : Int} {Mc Mr : oM} (hf : 50000 < f) (h : Rel T c Mc Mr) (hw : (0 ≤ what ∧ what < 6) ∨ what = 100 ∨ what = 101) : ∃ r N M, p_O_even_B34 f what (if what < 6 then 1 else 0) Mc = some (r, N) ∧ p_M_even_B22 f what Mr = some (r, M) := by
  obtain ⟨hp, hd, ho, -⟩ := id h
  have hf2 : 2000 < f := Nat.lt_trans (by decide) hf
  have n10 : ¬ (1 : Int) = 0 := by decide
  have hsp := pplR_spotR hp
  have hXY : ∀ i : Int, 0 ≤ i → i < 10 → Mc 4 i = Mr 61 i ∧ Mc 5 i = Mr 62 i := fun i i0 i1 => ⟨(hp.2.2.2.2.2 i i0 i1).1.symm, (hp.2.2.2.2.2 i i0 i1).2.symm⟩
  have hdc : dOk (Mc 7) := dC_dOk hd ho
  obtain ⟨N0, a1, a2, a3⟩ := e_newDebts (f := f) (M := Mc) hf2 hdc
  obtain ⟨M0, b1, b2, b3, b4, b5⟩ := e_laysLacks (f := f) (M := Mr) hf2 (rOk_dOk ho)
  have hww : ∀ p : Nat, p < 10 → wOf (Mc 7) p = wOf (Mr 58) p := fun p hp => wOf_congr hp hd.1
  have ecs : cs (wP (Mc 7)) 10 = cs (wP (Mr 58)) 10 := cs_congr 10 fun i hi => hww i hi
  rw [ecs] at a1
  have hsame := cs_same (Mr 58)
  generalize hn : cs (wP (Mr 58)) 10 = n at *
  unfold p_O_even_B34 p_M_even_B22
  rw [a1, b1]
  simp only [Option.bind_some]
  rw [b2]
  by_cases h100 : what = 100
  · rw [if_pos h100, if_pos h100]
    exact ⟨_, _, _, rfl, rfl⟩
  rw [if_neg h100, if_neg h100]
  by_cases h6 : (6 : Int) < (n : Int)
  · rw [if_pos h6, if_pos h6]
    exact ⟨_, _, _, rfl, rfl⟩
  rw [if_neg h6, if_neg h6]
  have hn6 : n ≤ 6 := Int.ofNat_le.mp (Int.not_lt.mp h6)
  have hplace : what = 101 ∨ (0 ≤ what ∧ what < 6) := by
    rcases hw with q | q | q
    · exact .inr q
    · exact absurd q h100
    · exact .inl q
  by_cases hno : 0 ≤ what ∧ what < 6 ∧ ¬ what < (n : Int)
  · rw [if_pos hno.2.1, if_neg n10, if_neg hno.2.2, if_pos (show what < 100 by omega), if_neg hno.2.2]
    exact ⟨_, _, _, rfl, rfl⟩
  have hwhat : what = 101 ∨ (0 ≤ what ∧ what < (n : Int)) := by
    rcases hplace with q | q
    · exact .inl q
    · right
      refine ⟨q.1, ?_⟩
      by_cases z : what < (n : Int)
      · exact z
      · exact absurd ⟨q.1, q.2, z⟩ hno
  have hE : isE M0 n (fun j => clf (wP (Mr 58)) j 10) (fun j => clf (wN (Mr 58)) j 10) := ⟨b2, fun j hj => ⟨(clf_ok 10 (show j < cs (wP (Mr 58)) 10 by rw [hn]; exact hj)).1, (clf_ok 10 (show j < cs (wN (Mr 58)) 10 by rw [← hsame]; exact hj)).1, lsK_clf b3 (by omega) (by rw [hn]; exact hj), lsK_clf b4 (by omega) (by rw [← hsame]; exact hj)⟩⟩
  have e61 : M0 61 = Mr 61 := eqo_a b5 61 rfl
  have e62 : M0 62 = Mr 62 := eqo_a b5 62 rfl
  have e4 : N0 4 = Mc 4 := eqo_a a3 4 rfl
  have e5 : N0 5 = Mc 5 := eqo_a a3 5 rfl
  have hw18 : ∀ k q, 0 ≤ hrw (Mr 61) (Mr 62) (fun j => clf (wP (Mr 58)) j 10) k q ∧ hrw (Mr 61) (Mr 62) (fun j => clf (wP (Mr 58)) j 10) k q ≤ 18 := fun k q => hrw_bd hsp.1 hsp.2 k q
  obtain ⟨r, M1, c1, x, c2, c3, c4⟩ := e_M_evenB66 (f := f) (M := M0) (w := hrw (Mr 61) (Mr 62) (fun j => clf (wP (Mr 58)) j 10)) hf hn6 hwhat hE (e61 ▸ hsp.1) (e62 ▸ hsp.2) (fun k q hk hq => by
    rw [e61, e62]
    unfold hrw
    rw [if_pos ⟨(hE.2 k hk).1, hq⟩]) hw18
  have hfm := fm_bl (n := n) (wt := fun j => clf (wN (Mr 58)) j 10) hw18 (fun i hi => (hE.2 i hi).2.1) (fun i j hi hj hlt => clf_mono (by rw [← hsame]; exact hi) (by rw [← hsame]; exact hj) hlt) x noU 0 0 (by rw [c3]; exact hn6) c2
  rw [c3, cu_cNeg hsame] at hfm
  have hlen : (x.map (fun j => clf (wN (Mr 58)) j 10)).length = n := by rw [List.length_map, c3]
  have hclf : (fun j => clf (wP (Mc 7)) j 10) = (fun j => clf (wP (Mr 58)) j 10) := by
    funext j
    exact clf_congr 10 fun p hp => cs_congr p fun i hi => hww i (Nat.lt_of_lt_of_le hi hp)
  have hneg : cNeg (Mc 7) = cNeg (Mr 58) := by
    funext q
    unfold cNeg
    by_cases z : q < 10
    · rw [if_pos z, if_pos z, wN_nat, wN_nat, hww q z]
    · rw [if_neg z, if_neg z]
  have hwc : hrw (N0 4) (N0 5) (fun j => clf (wP (Mc 7)) j 10) = hrw (Mr 61) (Mr 62) (fun j => clf (wP (Mr 58)) j 10) := by
    rw [e4, e5, hclf, hrw_congr hXY]
  have hplan := e_planNewDebts (f := f) (n := n) (M := N0) (d := Mc 7) hf2 hn6 hdc a2 ecs.symm (e4 ▸ hp.2.2.2.1) (e5 ▸ hp.2.2.2.2.1) n rfl
  rw [hwc, hneg, ← hfm.1, ← hfm.2, hlen] at hplan
  have hsm : clw (hrw (Mr 61) (Mr 62) (fun j => clf (wP (Mr 58)) j 10)) 0 (x.map (fun j => clf (wN (Mr 58)) j 10)) < 1000000 := by
    have := clw_bd hw18 (x.map (fun j => clf (wN (Mr 58)) j 10)) 0
    rw [hlen] at this
    have h6' : (n : Int) ≤ 6 := Int.ofNat_le.mpr hn6
    omega
  obtain ⟨N1, d1, d2, d3⟩ := hplan hsm
  unfold p_O_even_B75
  rw [d1]
  simp only [Option.bind_some]
  rcases hwhat with q | q
  · rw [if_neg (show ¬ what < 6 by omega), if_pos rfl, if_pos rfl, if_neg (show ¬ what < 100 by omega), c1]
    rw [if_pos q] at c4
    exact ⟨_, _, M1, rfl, by rw [d2, ← c4]⟩
  · have q6 : what < 6 := by omega
    rw [if_pos q6, if_neg n10, if_pos q.2, if_neg n10, if_pos (show what < 100 by omega), if_pos q.2, c1, bnd_eq q.1 q6]
    rw [if_neg (show ¬ what = 101 by omega)] at c4
    have h3 := d3 what.toNat (by omega)
    rw [Int.toNat_of_nonneg q.1] at h3
    exact ⟨_, _, M1, rfl, by rw [h3, ← c4]⟩
theorem call_even {f T : Nat} {c what : Int} {Mc Mr : oM} (hf : 50000 < f) (h : Rel T c Mc Mr) : Same f c (p_O_even f what Mc) (p_M_even f what Mr) := by
  by_cases hw : (0 ≤ what ∧ what < 6) ∨ what = 100 ∨ what = 101
  · obtain ⟨r, N, M, k1, k2⟩ := even_B hf h hw
    have e1 : p_O_even f what Mc = some (r, N) := by
      rw [← k1]
      unfold p_O_even p_O_even_B14 p_O_even_B15
      rcases hw with q | q | q
      · rw [if_neg (by omega), if_pos q.2, if_neg (by decide), if_pos q.2]
      · rw [if_neg (by omega), if_neg (by omega), if_pos rfl, if_pos q, if_neg (show ¬ what < 6 by omega)]
      · rw [if_neg (by omega), if_neg (by omega), if_pos rfl, if_neg (by omega), if_pos q, if_neg (show ¬ what < 6 by omega)]
    have e2 : p_M_even f what Mr = some (r, M) := by
      rw [← k2]
      have n10 : ¬ (1 : Int) = 0 := by decide
      unfold p_M_even
      rw [e_M_in]
      simp only [Option.bind_some]
      rcases hw with q | q
      · rw [in_t (show 0 ≤ what ∧ what ≤ 5 by omega), b01_t, if_neg n10]
      · rw [in_f (by omega), b01_f, if_pos rfl, e_M_in, in_t (show 100 ≤ what ∧ what ≤ 101 by omega)]
        simp only [Option.bind_some]
        rw [b01_t, if_neg n10]
    have x1 := fr_O_even (eqo_rfl _ _) _ e1
    have x2 := fr_M_even (eqo_rfl _ _) _ e2
    exact same_upd e1 e2 ⟨T, Rel_try h x1 x2 rfl (fun i _ _ => x2 58 i rfl)⟩
  · refine same_some (r := -1) h ?_ ?_
    · unfold p_O_even p_O_even_B14 p_O_even_B15
      by_cases y : what < 0
      · rw [if_pos y, if_pos rfl, if_neg (by omega), if_neg (by omega)]
      · rw [if_neg y, if_neg (by omega), if_pos rfl, if_neg (by omega), if_neg (by omega)]
    · unfold p_M_even
      rw [e_M_in, in_f (by omega), Option.bind_some, b01_f, if_pos rfl, e_M_in, in_f (by omega), Option.bind_some, b01_f, if_pos rfl]
