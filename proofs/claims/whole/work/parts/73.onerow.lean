/-! whether all can be paid in one row: both programs ask Euler's rule -/
def okRow (g : Nat → Nat → Nat) (s : Nat) : Prop := (∃ t, t < 10 ∧ Bal g s t) ∧ Cov g s
theorem out_in (g : Nat → Nat → Nat) : sN (fun v => outg g v) 10 = sN (fun v => ing g v) 10 := sN_swap 10 10
theorem bal_of {g : Nat → Nat → Nat} {s : Nat} (hs : s < 10) (h : ∀ v, v < 10 → outg g v ≤ ing g v + ind1 v s) : ∃ t, t < 10 ∧ Bal g s t := by
  have hsum := out_in g
  by_cases q : outg g s ≤ ing g s
  · refine ⟨s, hs, fun v hv => ?_⟩
    have hle : ∀ v, v < 10 → outg g v ≤ ing g v := fun v hv => by
      by_cases z : v = s
      · subst z; exact q
      · have := h v hv; unfold ind1 at this; rw [if_neg z] at this; omega
    have := sN_eq 10 hle hsum v hv
    omega
  · have hex : ∃ t, t < 10 ∧ outg g t < ing g t := by
      by_cases z : ∃ t, t < 10 ∧ outg g t < ing g t
      · exact z
      · exfalso
        have hle : ∀ v, v < 10 → ing g v ≤ outg g v := fun v hv => by
          by_cases y : outg g v < ing g v
          · exact absurd ⟨v, hv, y⟩ z
          · omega
        have := sN_eq 10 hle hsum.symm s hs
        omega
    obtain ⟨t, ht, ht2⟩ := hex
    have hts : t ≠ s := fun z => by subst z; omega
    refine ⟨t, ht, fun v hv => ?_⟩
    refine sN_eq (f := fun v => outg g v + ind1 v t) (g := fun v => ing g v + ind1 v s) 10 (fun v hv => ?_) ?_ v hv
    · have := h v hv
      show outg g v + ind1 v t ≤ ing g v + ind1 v s
      by_cases z : v = t
      · subst z
        unfold ind1; rw [if_pos rfl, if_neg hts]; omega
      · unfold ind1 at this ⊢; rw [if_neg z]; omega
    · rw [sN_add, sN_add, ind1_sum ht, ind1_sum hs, hsum]
theorem bal_cond {g : Nat → Nat → Nat} {s t : Nat} (h : Bal g s t) {v : Nat} (hv : v < 10) : outg g v ≤ ing g v + ind1 v s ∧ ing g v ≤ outg g v + 1 ∧ (ing g v < outg g v ↔ v = s ∧ s ≠ t) ∧ (outg g v < ing g v ↔ v = t ∧ s ≠ t) := by
  have h1 := h v hv
  unfold ind1 at h1 ⊢
  by_cases a : v = s
  · subst a
    by_cases b : v = t
    · subst b
      simp at h1 ⊢
      omega
    · simp [b] at h1 ⊢
      omega
  · by_cases b : v = t
    · subst b
      simp [a] at h1 ⊢
      have : s ≠ v := fun z => a z.symm
      simp [this]
      omega
    · simp [a, b] at h1 ⊢
      omega
def cgt (g : Nat → Nat → Nat) (k : Nat) : Nat := sN (fun v => if ing g v < outg g v then 1 else 0) k
def clt (g : Nat → Nat → Nat) (k : Nat) : Nat := sN (fun v => if outg g v < ing g v then 1 else 0) k
theorem clt_bal {g : Nat → Nat → Nat} {s t : Nat} (ht : t < 10) (h : Bal g s t) : clt g 10 ≤ 1 := by
  have : clt g 10 ≤ sN (fun v => if v = t then 1 else 0) 10 := sN_mono 10 fun v hv => by
    by_cases q : outg g v < ing g v
    · rw [if_pos q, if_pos ((bal_cond h hv).2.2.2.1 q).1]; exact Nat.le_refl _
    · rw [if_neg q]; exact Nat.zero_le _
  rw [sN_ind 10 t ht] at this
  exact this
theorem cgt_bal {g : Nat → Nat → Nat} {s t : Nat} (hs : s < 10) (h : Bal g s t) : cgt g 10 = if s = t then 0 else 1 := by
  by_cases q : s = t
  · rw [if_pos q]
    refine (sN_congr 10 (g := fun _ => 0) fun v hv => ?_).trans (sN_zero 10)
    show (if ing g v < outg g v then 1 else 0) = 0
    rw [if_neg fun z => ((bal_cond h hv).2.2.1.1 z).2 q]
  · rw [if_neg q]
    refine (sN_congr 10 fun v hv => ?_).trans (sN_ind 10 s hs)
    show (if ing g v < outg g v then 1 else 0) = if v = s then 1 else 0
    by_cases z : v = s
    · rw [if_pos z, if_pos ((bal_cond h hv).2.2.1.2 ⟨z, q⟩)]
    · rw [if_neg z, if_neg fun y => z ((bal_cond h hv).2.2.1.1 y).1]
theorem gs_bd {g : Nat → Nat → Nat} (hg : ∀ a b, a < 10 → b < 10 → g a b ≤ 99) {v : Nat} (hv : v < 10) : outg g v ≤ 990 ∧ ing g v ≤ 990 := by
  have e : sN (fun _ => 99) 10 = 990 := by decide
  have h1 := sN_mono (f := fun b => g v b) (g := fun _ => 99) 10 (fun k hk => hg v k hv hk)
  have h2 := sN_mono (f := fun a => g a v) (g := fun _ => 99) 10 (fun k hk => hg k v hk hv)
  unfold outg ing
  omega
theorem rowsum {f o k : Nat} {l1 l2 : Int} {M : oM} {g : Nat → Nat → Nat} (hf : 2000 < f) (hk : k < 10) (hg : gOf (M o) g) (hb : ∀ a b, a < 10 → b < 10 → g a b ≤ 99) : iter (p_R_isOneRow_L19 f o l1 l2 (k : Int)) f (0, 0, 0, M) = some ((outg g k : Int), (ing g k : Int), M) := by
  have bd : ∀ j, j ≤ 10 → sN (fun b => g k b) j ≤ 990 ∧ sN (fun a => g a k) j ≤ 990 := fun j hj => by
    have h1 := sN_mono (f := fun b => g k b) (g := fun _ => 99) j (fun i hi => hb k i hk (by omega))
    have h2 := sN_mono (f := fun a => g a k) (g := fun _ => 99) j (fun i hi => hb i k (by omega) hk)
    have e : sN (fun _ => 99) j ≤ 990 := by
      have : j = 0 ∨ j = 1 ∨ j = 2 ∨ j = 3 ∨ j = 4 ∨ j = 5 ∨ j = 6 ∨ j = 7 ∨ j = 8 ∨ j = 9 ∨ j = 10 := by omega
      rcases this with rfl | rfl | rfl | rfl | rfl | rfl | rfl | rfl | rfl | rfl | rfl <;> decide
    omega
  refine iter_up 10 (fun j => ((sN (fun b => g k b) j : Int), (sN (fun a => g a k) j : Int), (j : Int), M)) _ ?_ ?_ f (by omega)
  · intro j hj
    show p_R_isOneRow_L19 f o l1 l2 (k : Int) (_, _, _, M) = some (.inl (((sN (fun b => g k b) j + g k j : Nat) : Int), ((sN (fun a => g a k) j + g j k : Nat) : Int), ((j + 1 : Nat) : Int), M))
    have b1 := bd j (by omega)
    have b2 := hb k j hk hj
    have b3 := hb j k hj hk
    unfold p_R_isOneRow_L19
    simp only []
    rw [if_pos (by omega), w32_of (a := (k : Int) * 10) (by omega) (by omega), w32_of (a := (k : Int) * 10 + j) (by omega) (by omega), bnd_eq (by omega) (by omega), show (k : Int) * 10 + j = 10 * (k : Int) + j from by omega, hg k j hk hj, lt_eq, w32_of (a := (j : Int) * 10) (by omega) (by omega), w32_of (a := (j : Int) * 10 + k) (by omega) (by omega), bnd_eq (by omega) (by omega), show (j : Int) * 10 + k = 10 * (j : Int) + k from by omega, hg j k hj hk, lt_eq, lt_eq, w32_of (by omega) (by omega), w32_of (by omega) (by omega), w32_of (by omega) (by omega)]
    rfl
  · show p_R_isOneRow_L19 f o l1 l2 (k : Int) (_, _, _, M) = _
    unfold p_R_isOneRow_L19
    simp only []
    rw [if_neg (by omega)]
    rfl
def isOut (g : Nat → Nat → Nat) (k x : Nat) : Prop := outg g k = x
def isIn (g : Nat → Nat → Nat) (k x : Nat) : Prop := ing g k = x
theorem or_all {g : Nat → Nat → Nat} {s k ou inn : Nat} (ho : isOut g k ou) (hi : isIn g k inn) (h4 : ∀ v, v < k → outg g v ≤ ing g v + ind1 v s) (hle : ou ≤ inn + ind1 k s) : ∀ v, v < k + 1 → outg g v ≤ ing g v + ind1 v s := by
  unfold isOut isIn at *
  intro v hv
  rcases Nat.lt_or_ge v k with y | y
  · exact h4 v y
  · have e : v = k := Nat.le_antisymm (Nat.le_of_lt_succ hv) y
    rw [e, ho, hi]; exact hle
theorem or_bal {g : Nat → Nat → Nat} {s t k ou inn : Nat} (hk : k < 10) (ho : isOut g k ou) (hi : isIn g k inn) (h : Bal g s t) : ou ≤ inn + ind1 k s ∧ inn ≤ ou + 1 := by
  unfold isOut isIn at *
  have h1 := (bal_cond h hk).1
  have h2 := (bal_cond h hk).2.1
  rw [ho, hi] at h1 h2
  exact ⟨h1, h2⟩
theorem ind1_eq {a b : Nat} (h : a = b) : ind1 a b = 1 := if_pos h
theorem ind1_ne {a b : Nat} (h : a ≠ b) : ind1 a b = 0 := if_neg h
theorem or_bits {g : Nat → Nat → Nat} {k ou P : Nat} (ho : isOut g k ou) (h2 : ∀ v, P.testBit v = true ↔ v < k ∧ 0 < outg g v) : (0 < ou → ∀ v, (P ||| 2 ^ k).testBit v = true ↔ v < k + 1 ∧ 0 < outg g v) ∧ (¬ 0 < ou → ∀ v, P.testBit v = true ↔ v < k + 1 ∧ 0 < outg g v) := by
  unfold isOut at ho
  constructor
  · intro y v
    rw [or_bit, Bool.or_eq_true, h2 v, decide_eq_true_iff]
    constructor
    · rintro (⟨w1, w2⟩ | w)
      · exact ⟨Nat.lt_succ_of_lt w1, w2⟩
      · subst w; exact ⟨Nat.lt_succ_self _, by rw [ho]; exact y⟩
    · intro ⟨w1, w2⟩
      rcases Nat.lt_or_ge v k with w | w
      · exact .inl ⟨w, w2⟩
      · exact .inr (Nat.le_antisymm w (Nat.le_of_lt_succ w1))
  · intro y v
    rw [h2 v]
    constructor
    · intro ⟨w1, w2⟩; exact ⟨Nat.lt_succ_of_lt w1, w2⟩
    · intro ⟨w1, w2⟩
      rcases Nat.lt_or_ge v k with w | w
      · exact ⟨w, w2⟩
      · have e : v = k := Nat.le_antisymm (Nat.le_of_lt_succ w1) w
        rw [e, ho] at w2; exact absurd w2 y
def orI (g : Nat → Nat → Nat) (s : Nat) (M : oM) (k : Nat) (st : Int × Int × oM) : Prop := ∃ P : Nat, st = ((P : Int), (k : Int), M) ∧ P < 1024 ∧ (∀ v, P.testBit v = true ↔ v < k ∧ 0 < outg g v) ∧ ∀ v, v < k → outg g v ≤ ing g v + ind1 v s
def orQ (g : Nat → Nat → Nat) (s : Nat) (M : oM) (q : Int × oM) : Prop := q.2 = M ∧ ((q.1 = 1 ∧ okRow g s) ∨ (q.1 = 0 ∧ ¬ okRow g s))
theorem or_no {g : Nat → Nat → Nat} {s k : Nat} {M : oM} (hno : ∀ t, t < 10 → ¬ Bal g s t) : okp (some (Sum.inr (α := Int × Int × oM) ((0 : Int), M))) (psum (orI g s M (k + 1)) (orQ g s M)) := ⟨rfl, .inr ⟨rfl, fun z => by obtain ⟨⟨t, ht, hb⟩, _⟩ := z; exact hno t ht hb⟩⟩
theorem or_fin {f o s k P ou inn : Nat} {M : oM} {g : Nat → Nat → Nat} {x y e : Int} (hx : x = (ou : Int)) (hy : y = (inn : Int)) (he : e = (ind1 k s : Int)) (hi1 : ind1 k s ≤ 1) (hk : k < 10) (hou : isOut g k ou) (hin : isIn g k inn) (bk : ou ≤ 990 ∧ inn ≤ 990) (h1 : P < 1024) (h2 : ∀ v, P.testBit v = true ↔ v < k ∧ 0 < outg g v) (h4 : ∀ v, v < k → outg g v ≤ ing g v + ind1 v s) :
    okp (p_R_isOneRow_B74_4 f o s P k x x y e M) (psum (orI g s M (k + 1)) (orQ g s M)) := by
  have w : w32 (y + e) = y + e := w32_of (by omega) (by omega)
  have w2 : w32 ((k : Int) + 1) = (k : Int) + 1 := w32_of (by omega) (by omega)
  unfold p_R_isOneRow_B74_4
  rw [w]
  by_cases z : y + e < x
  · rw [if_pos z]
    refine or_no fun t ht hbal => ?_
    have h5 := (or_bal hk hou hin hbal).1
    omega
  · rw [if_neg z]
    have hle : ou ≤ inn + ind1 k s := by omega
    have hall := or_all hou hin h4 hle
    obtain ⟨hb1, hb2⟩ := or_bits hou h2
    clear hle
    unfold p_R_isOneRow_B93_4
    simp only [lt_eq, w2]
    by_cases q : 0 < ou
    · have q' : (0 : Int) < x := by omega
      have p1 := pow_lt10 hk
      rw [if_pos q', ishl1 (by omega), ior_nat (by omega) (by omega)]
      exact ⟨P ||| 2 ^ k, rfl, or_lt10 h1 p1, hb1 q, hall⟩
    · have q' : ¬ (0 : Int) < x := by omega
      rw [if_neg q', show (0 : Int) = ((0 : Nat) : Int) from rfl, ior_nat (by omega) (by omega), Nat.or_zero]
      exact ⟨P, rfl, h1, hb2 q, hall⟩
theorem or_step {f o s k P ou inn : Nat} {x y : Int} {M : oM} {g : Nat → Nat → Nat} (hx : x = (ou : Int)) (hy : y = (inn : Int)) (hk : k < 10) (hou : isOut g k ou) (hin : isIn g k inn) (bk : ou ≤ 990 ∧ inn ≤ 990) (h1 : P < 1024) (h2 : ∀ v, P.testBit v = true ↔ v < k ∧ 0 < outg g v) (h4 : ∀ v, v < k → outg g v ≤ ing g v + ind1 v s) :
    okp (p_R_isOneRow_X19 f o s P k (x, y, M)) (psum (orI g s M (k + 1)) (orQ g s M)) := by
  unfold p_R_isOneRow_X19
  simp only []
  by_cases z : (k : Int) = s
  · rw [if_pos z]
    have e1 : ind1 k s = 1 := ind1_eq (by omega)
    exact or_fin hx hy (by rw [e1]; rfl) (by omega) hk hou hin bk h1 h2 h4
  · rw [if_neg z]
    have e1 : ind1 k s = 0 := ind1_ne (by omega)
    exact or_fin hx hy (by rw [e1]; rfl) (by omega) hk hou hin bk h1 h2 h4
theorem or_L4 {f o s k P : Nat} {x y : Int} {M : oM} {g : Nat → Nat → Nat} (hr : iter (p_R_isOneRow_L19 f o s P (k : Int)) f (0, 0, 0, M) = some (x, y, M)) (hx : x = (outg g k : Int)) (hy : y = (ing g k : Int)) (hk : k < 10) (bk : outg g k ≤ 990 ∧ ing g k ≤ 990) (h1 : P < 1024) (h2 : ∀ v, P.testBit v = true ↔ v < k ∧ 0 < outg g v) (h4 : ∀ v, v < k → outg g v ≤ ing g v + ind1 v s) :
    okp (p_R_isOneRow_L4 f o s ((P : Int), (k : Int), M)) (psum (orI g s M (k + 1)) (orQ g s M)) := by
  have hk' : (k : Int) < 10 := by clear bk hx hy; omega
  unfold p_R_isOneRow_L4
  simp only []
  rw [if_pos hk', hr]
  exact or_step hx hy hk rfl rfl bk h1 h2 h4
theorem e_isOneRow {f o s : Nat} {M : oM} {g : Nat → Nat → Nat} (hf : 2000 < f) (hs : s < 10) (hg : gOf (M o) g) (hb : ∀ a b, a < 10 → b < 10 → g a b ≤ 99) : ∃ r : Int, p_R_isOneRow f o s M = some (r, M) ∧ ((r = 1 ∧ okRow g s) ∨ (r = 0 ∧ ¬ okRow g s)) := by
  have h : okp (p_R_isOneRow f o s M) (orQ g s M) := by
    unfold p_R_isOneRow
    refine for_ok 10 (orI g s M) ?_ ?_ f (by omega) ⟨0, rfl, by omega, fun v => ⟨fun z => (by rw [Nat.zero_testBit] at z; cases z), fun z => absurd z.1 (Nat.not_lt_zero _)⟩, fun v hv => absurd hv (Nat.not_lt_zero _)⟩
    · intro k st hk ⟨P, hst, h1, h2, h4⟩
      subst hst
      exact or_L4 (rowsum hf hk hg hb) rfl rfl hk (gs_bd hb hk) h1 h2 h4
    · intro st ⟨P, hst, h1, h2, h4⟩
      subst hst
      unfold p_R_isOneRow_L4
      simp only []
      rw [if_neg (by omega)]
      obtain ⟨S, eS, hS⟩ := e_reachedFrom (f := f) hf hs hg
      rw [eS]
      simp only [Option.bind_some]
      rw [andn_nat (by omega)]
      by_cases y : P ^^^ (P &&& S) = 0
      · rw [if_pos (by omega)]
        refine ⟨rfl, .inl ⟨rfl, bal_of hs h4, fun v hv hv2 => ?_⟩⟩
        refine (hS.2 v hv).1 ?_
        cases hb2 : S.testBit v with
        | true => rfl
        | false =>
          have h5 : (P ^^^ (P &&& S)).testBit v = true := by rw [andn_bit, (h2 v).2 ⟨hv, hv2⟩, hb2]; rfl
          rw [y, Nat.zero_testBit] at h5; cases h5
      · rw [if_neg (by omega)]
        refine ⟨rfl, .inr ⟨rfl, fun hok => ?_⟩⟩
        obtain ⟨i, hi⟩ := Nat.exists_testBit_of_ne_zero y
        rw [andn_bit, Bool.and_eq_true] at hi
        have hi2 := (h2 i).1 hi.1
        have := (hS.2 i hi2.1).2 (hok.2 i hi2.1 hi2.2)
        rw [this] at hi
        exact absurd hi.2 (by decide)
  obtain ⟨q, eq, hq, hq2⟩ := okp_ex h
  obtain ⟨r, N⟩ := q
  simp only at hq hq2
  subst hq
  exact ⟨r, eq, hq2⟩
