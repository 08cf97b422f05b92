/-! new debts: the reference's codes -/
def dgt (n code k : Nat) : Nat := code / n ^ (n - 1 - k) % n
def lst (d : Nat → Nat) : Nat → Nat → List Nat
  | _, 0 => []
  | k, r + 1 => d k :: lst d (k + 1) r
def dist (n code : Nat) : Prop := ∀ k k', k < k' → k' < n → dgt n code k ≠ dgt n code k'
def al (n : Nat) (x : List Nat) : Prop := ∀ i ∈ x, i < n
theorem lst_len {d : Nat → Nat} : ∀ r k, (lst d k r).length = r := by
  intro r
  induction r with
  | zero => intro k; rfl
  | succ r ih => intro k; show (lst d (k + 1) r).length + 1 = r + 1; rw [ih]
theorem lst_getD {d wt : Nat → Nat} : ∀ r k i, i < r → ((lst d k r).map wt).getD i 0 = wt (d (k + i)) := by
  intro r
  induction r with
  | zero => intro k i h; exact absurd h (Nat.not_lt_zero _)
  | succ r ih =>
    intro k i h
    cases i with
    | zero => rfl
    | succ i =>
      show ((lst d (k + 1) r).map wt).getD i 0 = _
      rw [ih (k + 1) i (by omega), show k + 1 + i = k + (i + 1) from by omega]
theorem lst_al {n : Nat} {d : Nat → Nat} : ∀ r k, (∀ j, k ≤ j → j < k + r → d j < n) → al n (lst d k r) := by
  intro r
  induction r with
  | zero => intro k _ i hi; cases hi
  | succ r ih =>
    intro k h i hi
    rcases List.mem_cons.1 hi with e | e
    · rw [e]; exact h k (Nat.le_refl _) (by omega)
    · exact ih (k + 1) (fun j h1 h2 => h j (by omega) (by omega)) i e
theorem lst_vi {n : Nat} {d : Nat → Nat} : ∀ r k (U : Nat → Bool), (∀ j, k ≤ j → j < k + r → d j < n ∧ U (d j) = false) → (∀ a b, k ≤ a → a < b → b < k + r → d a ≠ d b) → viU n U (lst d k r) := by
  intro r
  induction r with
  | zero => intro k U _ _; exact trivial
  | succ r ih =>
    intro k U h1 h2
    have hk := h1 k (Nat.le_refl _) (by omega)
    refine ⟨hk.1, hk.2, ih (k + 1) _ (fun j j1 j2 => ⟨(h1 j (by omega) (by omega)).1, ?_⟩) (fun a b ha hab hb => h2 a b (by omega) hab (by omega))⟩
    show (if d j = d k then true else U (d j)) = false
    rw [if_neg (fun z => h2 k j (Nat.le_refl _) (by omega) (by omega) z.symm)]
    exact (h1 j (by omega) (by omega)).2
theorem viU_mono {n : Nat} : ∀ (x : List Nat) (U : Nat → Bool) (i : Nat), viU n U x → i ∈ x → U i = false := by
  intro x
  induction x with
  | nil => intro U i _ h; cases h
  | cons a x ih =>
    intro U i h hi
    rcases List.mem_cons.1 hi with e | e
    · rw [e]; exact h.2.1
    · have := ih _ i h.2.2 e
      have h2 : (if i = a then true else U i) = false := this
      by_cases z : i = a
      · rw [if_pos z] at h2; exact absurd h2 (by decide)
      · rw [if_neg z] at h2; exact h2
theorem lst_mem {d : Nat → Nat} : ∀ r k j, k ≤ j → j < k + r → d j ∈ lst d k r := by
  intro r
  induction r with
  | zero => intro k j h1 h2; omega
  | succ r ih =>
    intro k j h1 h2
    by_cases e : j = k
    · rw [e]; exact List.mem_cons.2 (.inl rfl)
    · exact List.mem_cons.2 (.inr (ih (k + 1) j (by omega) (by omega)))
theorem vi_lst {n : Nat} {d : Nat → Nat} : ∀ r k (U : Nat → Bool), viU n U (lst d k r) → ∀ a b, k ≤ a → a < b → b < k + r → d a ≠ d b := by
  intro r
  induction r with
  | zero => intro k U _ a b h1 h2 h3; omega
  | succ r ih =>
    intro k U h a b h1 h2 h3 e
    by_cases z : a = k
    · have := viU_mono _ _ (d b) h.2.2 (lst_mem r (k + 1) b (by omega) (by omega))
      have h2 : (if d b = d k then true else U (d b)) = false := this
      rw [if_pos (by rw [← e, z])] at h2
      exact absurd h2 (by decide)
    · exact ih (k + 1) _ h.2.2 a b (by omega) h2 (by omega) e
theorem viU_al {n : Nat} : ∀ (x : List Nat) (U : Nat → Bool), viU n U x → al n x := by
  intro x
  induction x with
  | nil => intro U _ i hi; cases hi
  | cons a x ih =>
    intro U h i hi
    rcases List.mem_cons.1 hi with e | e
    · rw [e]; exact h.1
    · exact ih _ h.2.2 i e
theorem al_tail {n a : Nat} {x : List Nat} (h : al n (a :: x)) : a < n ∧ al n x := ⟨h a (List.mem_cons.2 (.inl rfl)), fun i hi => h i (List.mem_cons.2 (.inr hi))⟩
theorem ecd_lt2 {n : Nat} : ∀ (x y : List Nat) (e e' : Nat), x.length = y.length → al n x → al n y → e < e' → ecd n e x < ecd n e' y := by
  intro x
  induction x with
  | nil =>
    intro y e e' hl _ _ h
    cases y with
    | nil => exact h
    | cons b y => exact absurd hl (by rw [List.length_cons]; exact (Nat.succ_ne_zero _).symm)
  | cons a x ih =>
    intro y e e' hl hx hy h
    cases y with
    | nil => exact absurd hl (by rw [List.length_cons]; exact Nat.succ_ne_zero _)
    | cons b y =>
      refine ih y _ _ (by rw [List.length_cons, List.length_cons] at hl; omega) (al_tail hx).2 (al_tail hy).2 ?_
      have h1 : n * e + n ≤ n * e' := by
        rw [← Nat.mul_succ]; exact Nat.mul_le_mul_left n h
      have := (al_tail hx).1
      omega
theorem ecd_inj {n : Nat} : ∀ (x y : List Nat) (e : Nat), x.length = y.length → al n x → al n y → ecd n e x = ecd n e y → x = y := by
  intro x
  induction x with
  | nil =>
    intro y e hl _ _ _
    cases y with
    | nil => rfl
    | cons b y => exact absurd hl (by rw [List.length_cons]; exact (Nat.succ_ne_zero _).symm)
  | cons a x ih =>
    intro y e hl hx hy h
    cases y with
    | nil => exact absurd hl (by rw [List.length_cons]; exact Nat.succ_ne_zero _)
    | cons b y =>
      have hl' : x.length = y.length := by rw [List.length_cons, List.length_cons] at hl; omega
      have hab : a = b := by
        rcases Nat.lt_trichotomy a b with z | z | z
        · have := ecd_lt2 x y (n * e + a) (n * e + b) hl' (al_tail hx).2 (al_tail hy).2 (by omega)
          exact absurd h (Nat.ne_of_lt this)
        · exact z
        · have := ecd_lt2 y x (n * e + b) (n * e + a) hl'.symm (al_tail hy).2 (al_tail hx).2 (by omega)
          exact absurd h.symm (Nat.ne_of_lt this)
      subst hab
      rw [ih y (n * e + a) hl' (al_tail hx).2 (al_tail hy).2 h]
theorem ecd_bd {n : Nat} : ∀ (x : List Nat) (e : Nat), al n x → ecd n e x < (e + 1) * n ^ x.length := by
  intro x
  induction x with
  | nil => intro e _; rw [List.length_nil, Nat.pow_zero, Nat.mul_one]; exact Nat.lt_succ_self e
  | cons a x ih =>
    intro e h
    have h1 := ih (n * e + a) (al_tail h).2
    refine Nat.lt_of_lt_of_le h1 ?_
    rw [List.length_cons, Nat.pow_succ]
    have h2 : n * e + a + 1 ≤ (e + 1) * n := by
      have := (al_tail h).1
      rw [Nat.add_mul, Nat.one_mul, Nat.mul_comm e n]; omega
    rw [Nat.mul_comm (n ^ x.length) n, ← Nat.mul_assoc]
    exact Nat.mul_le_mul_right _ h2
theorem ecd_dgt {n code : Nat} (hn : 0 < n) (hc : code < n ^ n) : ∀ r k, k + r = n → ecd n (code / n ^ r) (lst (dgt n code) k r) = code := by
  intro r
  induction r with
  | zero => intro k _; rw [Nat.pow_zero, Nat.div_one]; rfl
  | succ r ih =>
    intro k hk
    show ecd n (n * (code / n ^ (r + 1)) + dgt n code k) (lst (dgt n code) (k + 1) r) = code
    have e1 : dgt n code k = code / n ^ r % n := by
      unfold dgt
      rw [show n - 1 - k = r from by omega]
    have e2 : code / n ^ (r + 1) = code / n ^ r / n := by rw [Nat.pow_succ, Nat.div_div_eq_div_mul]
    rw [e1, e2, Nat.div_add_mod, ih (k + 1) (by omega)]
theorem ecd_code {n code : Nat} (hc : code < n ^ n) : ecd n 0 (lst (dgt n code) 0 n) = code := by
  by_cases h0 : n = 0
  · subst h0
    have : code = 0 := by rw [Nat.pow_zero] at hc; omega
    subst this
    rfl
  · have h := ecd_dgt (Nat.pos_of_ne_zero h0) hc n 0 (Nat.zero_add n)
    rw [Nat.div_eq_of_lt hc] at h
    exact h
theorem dgt_lt {n code k : Nat} (hn : 0 < n) : dgt n code k < n := Nat.mod_lt _ hn
def noU : Nat → Bool := fun _ => false
theorem dist_vi {n code : Nat} (h : dist n code) : viU n noU (lst (dgt n code) 0 n) := by
  refine lst_vi n 0 noU (fun j _ h2 => ⟨dgt_lt (by omega), rfl⟩) (fun a b _ hab hb => h a b hab (by omega))
theorem vi_code {n : Nat} {x : List Nat} (h : viU n noU x) (hl : x.length = n) : ecd n 0 x < n ^ n ∧ dist n (ecd n 0 x) ∧ x = lst (dgt n (ecd n 0 x)) 0 n := by
  have hb := ecd_bd x 0 (viU_al x _ h)
  rw [Nat.zero_add, Nat.one_mul, hl] at hb
  have e : x = lst (dgt n (ecd n 0 x)) 0 n := by
    refine ecd_inj x _ 0 (by rw [lst_len, hl]) (viU_al x _ h) (lst_al n 0 fun j _ h2 => dgt_lt (by omega)) ?_
    rw [ecd_code hb]
  refine ⟨hb, fun a b hab hbn => ?_, e⟩
  have h' := h
  rw [e] at h'
  exact vi_lst n 0 noU h' a b (Nat.zero_le _) hab (by omega)
theorem clw_lst {w : Nat → Nat → Int} {d wt : Nat → Nat} : ∀ r k, clw w k ((lst d k r).map wt) = sumN (fun j => w (k + j) (wt (d (k + j)))) r := by
  intro r
  induction r with
  | zero => intro k; rfl
  | succ r ih =>
    intro k
    show w k (wt (d k)) + clw w (k + 1) ((lst d (k + 1) r).map wt) = _
    rw [ih (k + 1), show r + 1 = 1 + r from Nat.add_comm r 1, sumN_add]
    have e1 : sumN (fun j => w (k + j) (wt (d (k + j)))) 1 = w k (wt (d k)) := by
      show (0 : Int) + w (k + 0) (wt (d (k + 0))) = _
      rw [Int.zero_add, Nat.add_zero]
    rw [e1]
    congr 1
    refine sumN_congr r fun j _ => ?_
    rw [Nat.add_assoc]
/-! reading a code -/
def rrI (n code : Nat) (B : oM) (j : Nat) (s : Int × Int × Int × oM) : Prop :=
  s.1 = ((code / n ^ j : Nat) : Int) ∧ s.2.2.1 = (n : Int) - 1 - (j : Int) ∧ (∃ S : Nat, s.2.1 = (S : Int) ∧ S < 64 ∧ ∀ v, S.testBit v = true ↔ ∃ k, n - j ≤ k ∧ k < n ∧ dgt n code k = v) ∧ (∀ k, n - j ≤ k → k < n → s.2.2.2 91 (k : Int) = ((dgt n code k : Nat) : Int)) ∧ (∀ k k', n - j ≤ k → k < k' → k' < n → dgt n code k ≠ dgt n code k') ∧ eqo [(91, (-1))] B s.2.2.2
theorem tm_nat (a b : Nat) : Int.tmod (a : Int) (b : Int) = ((a % b : Nat) : Int) := rfl
theorem td_nat (a b : Nat) : Int.tdiv (a : Int) (b : Int) = ((a / b : Nat) : Int) := rfl
theorem rr_step {f n k D S L : Nat} {M : oM} (hk : k < n) (hn : n ≤ 6) (hL : L < 100000) (hD : D = L % n) (hS : S < 64) : p_M_readsRow_L10 f n ((L : Int), (S : Int), (k : Int), M) = if S.testBit D then some (.inr (0, oU M 91 (k : Int) (D : Int))) else some (.inl (((L / n : Nat) : Int), ((S ||| 2 ^ D : Nat) : Int), (k : Int) - 1, oU M 91 (k : Int) (D : Int))) := by
  have n6 : (k : Int) < 6 := nat_lt (Nat.lt_of_lt_of_le hk hn)
  have n0 : ¬ (n : Int) = 0 := by omega
  have hDn : D < 6 := by rw [hD]; exact Nat.lt_of_lt_of_le (Nat.mod_lt L (by omega)) hn
  have wd : w32 ((L / n : Nat) : Int) = ((L / n : Nat) : Int) := by
    have h9 := Nat.div_le_self L n
    generalize L / n = y at *
    rw [w32_of (by omega) (by omega)]
  have h2D : 2 ^ D < 64 := Nat.pow_lt_pow_right (a := 2) (by decide) hDn
  unfold p_M_readsRow_L10
  simp only []
  rw [if_neg (Int.not_lt.mpr (Int.natCast_nonneg k)), nz_eq n0, bnd_nat n6, tm_nat, ← hD, lt_eq, nz_eq n0, td_nat, wd, lt_eq, bnd_nat n6, oU_at, e_M_has (Nat.lt_trans hS (by decide)) (Nat.lt_trans hDn (by decide)), Option.bind_some]
  cases hb : S.testBit D
  · rw [if_pos (show (b01 false, oU M 91 (k : Int) (D : Int)).fst = (0 : Int) from rfl), bnd_nat n6, show (b01 false, oU M 91 (k : Int) (D : Int)).snd 91 (k : Int) = (D : Int) from oU_at, ishl1 (Nat.lt_trans hDn (by decide)), ior_nat (Nat.lt_trans hS (by decide)) (Nat.lt_trans h2D (by decide)), lt_eq, lt_eq, show w32 ((k : Int) + -1) = (k : Int) - 1 from by rw [w32_of (by omega) (by omega)]; rfl, if_neg (by decide)]
  · rw [if_neg (show ¬ (b01 true, oU M 91 (k : Int) (D : Int)).fst = (0 : Int) from fun z => absurd (show (1 : Int) = 0 from z) (by decide)), if_pos rfl]
theorem e_readsRow {f n code : Nat} {M : oM} (hf : 2000 < f) (hn : n ≤ 6) (hc : code < 100000) : ∃ b : Int, ∃ N : oM, p_M_readsRow f code n M = some (b, N) ∧ eqo [(91, (-1))] M N ∧ ((b = 1 ∧ dist n code ∧ ∀ k, k < n → N 91 (k : Int) = ((dgt n code k : Nat) : Int)) ∨ (b = 0 ∧ ¬ dist n code)) := by
  have hr : okp (p_M_readsRow f code n M) (fun q => eqo [(91, (-1))] M q.2 ∧ ((q.1 = 1 ∧ dist n code ∧ ∀ k, k < n → q.2 91 (k : Int) = ((dgt n code k : Nat) : Int)) ∨ (q.1 = 0 ∧ ¬ dist n code))) := by
    unfold p_M_readsRow
    rw [lt_eq, show w32 ((n : Int) - 1) = (n : Int) - 1 from w32_of (by omega) (by omega)]
    refine for_ok n (rrI n code M) (fun j s hj hI => ?_) (fun s hI => ?_) f (Nat.lt_of_le_of_lt hn (Nat.lt_trans (by decide) hf)) ⟨by show (code : Int) = _; rw [Nat.pow_zero, Nat.div_one], by show (n : Int) - 1 = _; omega, ⟨0, rfl, by decide, fun v => ?_⟩, fun k h1 h2 => by omega, fun k k' h1 h2 h3 => by omega, eqo_rfl _ _⟩
    · obtain ⟨a, b, c, N⟩ := s
      obtain ⟨i1, i2, ⟨S, i3, i4, i5⟩, i6, i7, i8⟩ := hI
      simp only at i1 i2 i3 i6 i8
      subst i1 i3
      obtain ⟨k, hk⟩ : ∃ k, k + j + 1 = n := ⟨n - 1 - j, by omega⟩
      have ec : c = (k : Int) := by omega
      subst ec
      have eD : dgt n code k = code / n ^ j % n := by
        unfold dgt
        rw [show n - 1 - k = j from by omega]
      rw [rr_step (D := dgt n code k) (by omega) hn (Nat.lt_of_le_of_lt (Nat.div_le_self _ _) hc) eD i4]
      cases hb : S.testBit (dgt n code k)
      · rw [if_neg (by decide)]
        refine ⟨?_, ?_, ⟨_, rfl, ?_, fun v => ?_⟩, fun p p1 p2 => ?_, fun p p' p1 p2 p3 => ?_, eqo_oUa (.head _) i8⟩
        · show ((code / n ^ j / n : Nat) : Int) = _
          rw [Nat.pow_succ, Nat.div_div_eq_div_mul]
        · show (k : Int) - 1 = _
          omega
        · have hD6 : dgt n code k < 6 := Nat.lt_of_lt_of_le (dgt_lt (by omega)) hn
          exact Nat.or_lt_two_pow (n := 6) i4 (Nat.pow_lt_pow_right (a := 2) (by decide) hD6)
        · rw [or_bit, Bool.or_eq_true, decide_eq_true_iff, i5 v]
          constructor
          · rintro (⟨p, p1, p2, p3⟩ | e)
            · exact ⟨p, by omega, p2, p3⟩
            · exact ⟨k, by omega, by omega, e⟩
          · rintro ⟨p, p1, p2, p3⟩
            by_cases z : p = k
            · right; rw [← z]; exact p3
            · left; exact ⟨p, by omega, p2, p3⟩
        · show oU N 91 (k : Int) ((dgt n code k : Nat) : Int) 91 (p : Int) = _
          by_cases z : p = k
          · rw [z, oU_at]
          · rw [oU_i (natne z)]; exact i6 p (by omega) p2
        · by_cases z : p = k
          · intro e
            have : S.testBit (dgt n code k) = true := (i5 _).2 ⟨p', by omega, p3, by rw [← e, z]⟩
            rw [hb] at this
            exact absurd this (by decide)
          · exact i7 p p' (by omega) p2 p3
      · rw [if_pos rfl]
        refine ⟨eqo_oUa (.head _) i8, .inr ⟨rfl, fun z => ?_⟩⟩
        obtain ⟨p, p1, p2, p3⟩ := (i5 _).1 hb
        exact z k p (by omega) p2 p3.symm
    · obtain ⟨a, b, c, N⟩ := s
      obtain ⟨i1, i2, -, i6, i7, i8⟩ := hI
      simp only at i1 i2 i6 i8
      unfold p_M_readsRow_L10
      simp only []
      rw [if_pos (by omega)]
      exact ⟨i8, .inl ⟨rfl, fun p p' p2 p3 => i7 p p' (by omega) p2 p3, fun k hk => i6 k (by omega) hk⟩⟩
    · rw [Nat.zero_testBit]
      constructor
      · intro z; exact absurd z (by decide)
      · rintro ⟨p, p1, p2, p3⟩; omega
  obtain ⟨q, eq, h1, h2⟩ := okp_ex hr
  exact ⟨q.1, q.2, eq, h1, h2⟩
