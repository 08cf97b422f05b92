/-! the reference asks the same rule -/
def isCgt (g : Nat → Nat → Nat) (k C : Nat) : Prop := C = cgt g k
def isMine (g : Nat → Nat → Nat) (s k : Nat) (m : Int) : Prop := (s < k → m = (outg g s : Int) - (ing g s : Int)) ∧ (k ≤ s → m = 0)
theorem isCgt_step {g : Nat → Nat → Nat} {k C ou inn : Nat} (hC : isCgt g k C) (ho : isOut g k ou) (hi : isIn g k inn) : isCgt g (k + 1) (C + (if inn < ou then 1 else 0)) := by
  unfold isCgt isOut isIn at *
  rw [hC, ← ho, ← hi]; rfl
theorem isMine_step {g : Nat → Nat → Nat} {s k ou inn : Nat} {m : Int} (hm : isMine g s k m) (ho : isOut g k ou) (hi : isIn g k inn) : isMine g s (k + 1) (if k = s then (ou : Int) - inn else m) := by
  unfold isMine isOut isIn at *
  by_cases q : k = s
  · rw [if_pos q]
    subst q
    rw [ho, hi]
    exact ⟨fun _ => rfl, fun z => absurd z (by clear ho hi hm; omega)⟩
  · rw [if_neg q]
    exact ⟨fun z => hm.1 (by clear ho hi hm; omega), fun z => hm.2 (by clear ho hi hm; omega)⟩
theorem cgt_two {g : Nat → Nat → Nat} {s v : Nat} (hs : s < 10) (hv : v < 10) (hne : v ≠ s) (h1 : ing g s < outg g s) (h2 : ing g v < outg g v) : 2 ≤ cgt g 10 := by
  have e := sN_one (f := fun u => if ing g u < outg g u then 1 else 0) (g := fun u => if u = v then 0 else (if ing g u < outg g u then 1 else 0)) 10 v hv (fun k _ hk => by rw [if_neg hk]) (by rw [if_pos rfl, if_pos h2])
  have l := sN_le (f := fun u => if u = v then 0 else (if ing g u < outg g u then 1 else 0)) 10 s hs
  rw [if_neg (fun z => hne z.symm), if_pos h1] at l
  unfold cgt
  rw [e]
  exact Nat.succ_le_succ l
theorem rw_end {g : Nat → Nat → Nat} {s C : Nat} {m : Int} (hs : s < 10) (hC : isCgt g 10 C) (hm : isMine g s 10 m) (hcov : Cov g s) : ((C = 0 ∧ m = 0) ∨ (C = 1 ∧ m = 1)) ↔ okRow g s := by
  have hm' := hm.1 hs
  unfold isCgt at hC
  constructor
  · intro h
    refine ⟨bal_of hs fun v hv => ?_, hcov⟩
    rcases h with ⟨h1, h2⟩ | ⟨h1, h2⟩
    · by_cases z : ing g v < outg g v
      · exfalso
        have := sN_le (f := fun u => if ing g u < outg g u then 1 else 0) 10 v hv
        rw [if_pos z] at this
        have e : cgt g 10 = 0 := hC.symm.trans h1
        unfold cgt at e
        rw [e] at this
        exact absurd this (by decide)
      · exact Nat.le_trans (Nat.le_of_not_lt z) (Nat.le_add_right _ _)
    · by_cases y : v = s
      · subst y
        rw [ind1_eq rfl]
        generalize outg g v = a at *
        generalize ing g v = b at *
        clear hC hm
        omega
      · by_cases z : ing g v < outg g v
        · exfalso
          have hs2 : ing g s < outg g s := by
            generalize outg g s = a at *
            generalize ing g s = b at *
            clear hC hm
            omega
          have := cgt_two hs hv y hs2 z
          rw [← hC, h1] at this
          exact absurd this (by decide)
        · exact Nat.le_trans (Nat.le_of_not_lt z) (Nat.le_add_right _ _)
  · intro ⟨⟨t, ht, hb⟩, _⟩
    have h1 := cgt_bal hs hb
    have h2 := hb s hs
    rw [ind1_eq rfl] at h2
    by_cases q : s = t
    · left
      rw [if_pos q] at h1
      rw [ind1_eq q] at h2
      refine ⟨hC.trans h1, ?_⟩
      generalize outg g s = a at *
      generalize ing g s = b at *
      clear hC h1 hm
      omega
    · right
      rw [if_neg q] at h1
      rw [ind1_ne q] at h2
      refine ⟨hC.trans h1, ?_⟩
      generalize outg g s = a at *
      generalize ing g s = b at *
      clear hC h1 hm
      omega
def rwI (g : Nat → Nat → Nat) (s R : Nat) (M : oM) (k : Nat) (st : Int × Int × Int × oM) : Prop := ∃ C : Nat, ∃ m : Int, st = ((C : Int), m, (k : Int), M) ∧ isCgt g k C ∧ C ≤ k ∧ isMine g s k m ∧ ∀ v, v < k → 0 < outg g v → R.testBit v = true
theorem L30_step {f : Nat} {l1 l2 l3 l4 k j u v x y : Int} {M : oM} (hk : 0 ≤ k ∧ k < 10) (hj : 0 ≤ j ∧ j < 10) (hu : p_M_leftOf f k j M = some (u, M)) (hv : p_M_leftOf f j k M = some (v, M)) (w1 : w32 (x + u) = x + u) (w2 : w32 (y + v) = y + v) : p_M_isRow_L30 f l1 l2 l3 l4 k (x, y, j, M) = some (.inl (x + u, y + v, j + 1, M)) := by
  have w3 : w32 (j + 1) = j + 1 := by clear hu hv w1 w2; exact w32_of (by omega) (by omega)
  unfold p_M_isRow_L30
  simp only []
  rw [if_pos hj.2, hu]
  simp only [Option.bind_some]
  rw [lt_eq, hv]
  simp only [Option.bind_some]
  rw [lt_eq, lt_eq, w1, w2, w3]
theorem sN99 {f : Nat → Nat} (h : ∀ k, k < 10 → f k ≤ 99) (j : Nat) (hj : j ≤ 10) : sN f j ≤ 990 := by
  have h1 := sN_mono (f := f) (g := fun _ => 99) j (fun i hi => h i (Nat.lt_of_lt_of_le hi hj))
  have e : sN (fun _ => 99) j ≤ 990 := by
    have : j = 0 ∨ j = 1 ∨ j = 2 ∨ j = 3 ∨ j = 4 ∨ j = 5 ∨ j = 6 ∨ j = 7 ∨ j = 8 ∨ j = 9 ∨ j = 10 := by omega
    rcases this with rfl | rfl | rfl | rfl | rfl | rfl | rfl | rfl | rfl | rfl | rfl <;> decide
  exact Nat.le_trans h1 e
theorem nat9 {n : Nat} (h : n < 10) : 0 ≤ (n : Int) ∧ (n : Int) < 10 := by omega
theorem w32_nat {a b : Nat} (h : a ≤ 990) (h' : b ≤ 99) : w32 ((a : Int) + b) = (a : Int) + b := w32_of (by omega) (by omega)
theorem leftOf_g {f a b : Nat} {M : oM} {g : Nat → Nat → Nat} (hg : gOf (M 82) g) (ha : a < 10) (hb : b < 10) : p_M_leftOf f a b M = some ((g a b : Int), M) := by
  rw [e_M_leftOf ha hb, hg a b ha hb]
theorem nat990 {n : Nat} (h : n ≤ 990) : 0 ≤ (n : Int) ∧ (n : Int) ≤ 990 := by omega
theorem rowsumM {f k : Nat} {l1 l2 l3 l4 : Int} {M : oM} {g : Nat → Nat → Nat} (hf : 2000 < f) (hk : k < 10) (hg : gOf (M 82) g) (hb : ∀ a b, a < 10 → b < 10 → g a b ≤ 99) : iter (p_M_isRow_L30 f l1 l2 l3 l4 (k : Int)) f (0, 0, 0, M) = some ((outg g k : Int), (ing g k : Int), M) := by
  refine iter_up 10 (fun j => ((sN (fun b => g k b) j : Int), (sN (fun a => g a k) j : Int), (j : Int), M)) _ (fun j hj => ?_) ?_ f (Nat.lt_trans (by decide) hf)
  · exact L30_step (nat9 hk) (nat9 hj) (leftOf_g hg hk hj) (leftOf_g hg hj hk) (w32_nat (sN99 (fun i hi => hb k i hk hi) j (Nat.le_of_lt hj)) (hb k j hk hj)) (w32_nat (sN99 (fun i hi => hb i k hi hk) j (Nat.le_of_lt hj)) (hb j k hj hk))
  · show p_M_isRow_L30 f l1 l2 l3 l4 (k : Int) (_, _, _, M) = _
    unfold p_M_isRow_L30
    simp only []
    rw [if_neg (show ¬ (((10 : Nat) : Int) < 10) by decide)]
    rfl
theorem rw_no {g : Nat → Nat → Nat} {s k R : Nat} {M : oM} (hno : ¬ okRow g s) : okp (some (Sum.inr (α := Int × Int × Int × oM) ((0 : Int), M))) (psum (rwI g s R M (k + 1)) (orQ g s M)) := ⟨rfl, .inr ⟨rfl, hno⟩⟩
theorem rw_B105 {f s k R C ou inn : Nat} {x y m : Int} {M : oM} {g : Nat → Nat → Nat} (hx : x = (ou : Int)) (hy : y = (inn : Int)) (hk : k < 10) (hs : s < 10) (hou : isOut g k ou) (hin : isIn g k inn) (bk : ou ≤ 990 ∧ inn ≤ 990) (hC : isCgt g (k + 1) C) (h3 : C ≤ k + 1) (hm : isMine g s k m) (h4 : ∀ v, v < k + 1 → 0 < outg g v → R.testBit v = true) :
    okp (p_M_isRow_B105_14 f s R C m k x y M) (psum (rwI g s R M (k + 1)) (orQ g s M)) := by
  have hm' := isMine_step hm hou hin
  have w1 : w32 ((k : Int) + 1) = (k : Int) + 1 := w32_of (by omega) (by omega)
  have w2 : w32 (x - y) = x - y := w32_of (by omega) (by omega)
  unfold p_M_isRow_B105_14 p_M_isRow_B118_14
  simp only [lt_eq, w1, w2]
  by_cases z : (k : Int) = s
  · rw [if_pos z]
    have z' : k = s := by omega
    rw [if_pos z'] at hm'
    exact ⟨C, x - y, rfl, hC, h3, by rw [hx, hy]; exact hm', h4⟩
  · rw [if_neg z]
    have z' : ¬ k = s := by omega
    rw [if_neg z'] at hm'
    exact ⟨C, m, rfl, hC, h3, hm', h4⟩
theorem rw_B83 {f s k R C ou inn : Nat} {x y m : Int} {M : oM} {g : Nat → Nat → Nat} (hx : x = (ou : Int)) (hy : y = (inn : Int)) (hk : k < 10) (hs : s < 10) (hou : isOut g k ou) (hin : isIn g k inn) (bk : ou ≤ 990 ∧ inn ≤ 990) (hC : isCgt g k C) (h3 : C ≤ k) (hm : isMine g s k m) (h4 : ∀ v, v < k + 1 → 0 < outg g v → R.testBit v = true) :
    okp (p_M_isRow_B83_14 f s R C m k x y M) (psum (rwI g s R M (k + 1)) (orQ g s M)) := by
  have hC' := isCgt_step hC hou hin
  have w1 : w32 (y + 1) = y + 1 := w32_of (by omega) (by omega)
  have w2 : w32 ((C : Int) + 1) = ((C + 1 : Nat) : Int) := by rw [w32_of (by omega) (by omega)]; omega
  unfold p_M_isRow_B83_14
  rw [w1]
  by_cases z : y + 1 < x
  · rw [if_pos z]
    refine rw_no fun hok => ?_
    obtain ⟨⟨t, ht, hbal⟩, _⟩ := hok
    have h5 := (or_bal hk hou hin hbal).1
    by_cases y' : k = s
    · rw [ind1_eq y'] at h5; omega
    · rw [ind1_ne y'] at h5; omega
  · rw [if_neg z]
    by_cases z2 : y < x
    · have z3 : inn < ou := by omega
      rw [if_pos z2, lt_eq, w2]
      rw [if_pos z3] at hC'
      exact rw_B105 hx hy hk hs hou hin bk hC' (Nat.succ_le_succ h3) hm h4
    · have z3 : ¬ inn < ou := by omega
      rw [if_neg z2]
      rw [if_neg z3] at hC'
      exact rw_B105 hx hy hk hs hou hin bk hC' (Nat.le_succ_of_le h3) hm h4
theorem rw_X30 {f s k R C ou inn : Nat} {x y m : Int} {M : oM} {g : Nat → Nat → Nat} (hx : x = (ou : Int)) (hy : y = (inn : Int)) (hk : k < 10) (hs : s < 10) (hou : isOut g k ou) (hin : isIn g k inn) (bk : ou ≤ 990 ∧ inn ≤ 990) (hR : isReach g s R) (hC : isCgt g k C) (h3 : C ≤ k) (hm : isMine g s k m) (h4 : ∀ v, v < k → 0 < outg g v → R.testBit v = true) :
    okp (p_M_isRow_X30 f s R C m k (x, y, M)) (psum (rwI g s R M (k + 1)) (orQ g s M)) := by
  have hRl := hR.1
  unfold p_M_isRow_X30
  simp only []
  by_cases z : 0 < x
  · have zo : 0 < ou := by omega
    have n10 : ¬ (1 : Int) = 0 := by decide
    rw [if_pos z, e_M_has (by omega) (by omega)]
    simp only [Option.bind_some]
    have zo' : 0 < outg g k := by rw [show outg g k = ou from hou]; exact zo
    cases hz : R.testBit k with
    | false =>
      rw [b01_f, if_pos rfl]
      refine rw_no fun hok => ?_
      have := (hR.2 k hk).2 (hok.2 k hk zo')
      rw [hz] at this; cases this
    | true =>
      rw [b01_t, if_neg n10]
      refine rw_B83 hx hy hk hs hou hin bk hC h3 hm fun v hv hv2 => ?_
      rcases Nat.lt_or_ge v k with w | w
      · exact h4 v w hv2
      · rw [Nat.le_antisymm (Nat.le_of_lt_succ hv) w]; exact hz
  · rw [if_neg z]
    have zo : ¬ 0 < ou := by omega
    refine rw_B83 hx hy hk hs hou hin bk hC h3 hm fun v hv hv2 => ?_
    rcases Nat.lt_or_ge v k with w | w
    · exact h4 v w hv2
    · rw [Nat.le_antisymm (Nat.le_of_lt_succ hv) w, show outg g k = ou from hou] at hv2
      exact absurd hv2 zo
theorem rw_L14 {f s k R C : Nat} {x y m : Int} {M : oM} {g : Nat → Nat → Nat} (hr : iter (p_M_isRow_L30 f s R C m (k : Int)) f (0, 0, 0, M) = some (x, y, M)) (hx : x = (outg g k : Int)) (hy : y = (ing g k : Int)) (hk : k < 10) (hs : s < 10) (bk : outg g k ≤ 990 ∧ ing g k ≤ 990) (hR : isReach g s R) (hC : isCgt g k C) (h3 : C ≤ k) (hm : isMine g s k m) (h4 : ∀ v, v < k → 0 < outg g v → R.testBit v = true) :
    okp (p_M_isRow_L14 f s R ((C : Int), m, (k : Int), M)) (psum (rwI g s R M (k + 1)) (orQ g s M)) := by
  have hk' : (k : Int) < 10 := by clear bk hx hy; omega
  unfold p_M_isRow_L14
  simp only []
  rw [if_pos hk', hr]
  exact rw_X30 hx hy hk hs rfl rfl bk hR hC h3 hm h4
theorem e_isRow {f s : Nat} {M : oM} {g : Nat → Nat → Nat} (hf : 2000 < f) (hs : s < 10) (hg : gOf (M 82) g) (hb : ∀ a b, a < 10 → b < 10 → g a b ≤ 99) : ∃ r : Int, p_M_isRow f s M = some (r, M) ∧ ((r = 1 ∧ okRow g s) ∨ (r = 0 ∧ ¬ okRow g s)) := by
  obtain ⟨R, eR, hR⟩ := e_M_reachLeft (f := f) hf hs hg
  have h : okp (p_M_isRow f s M) (orQ g s M) := by
    unfold p_M_isRow
    rw [eR]
    simp only [Option.bind_some]
    refine for_ok 10 (rwI g s R M) ?_ ?_ f (by omega) ⟨0, 0, rfl, rfl, Nat.le_refl _, ⟨fun z => absurd z (Nat.not_lt_zero _), fun _ => rfl⟩, fun v hv => absurd hv (Nat.not_lt_zero _)⟩
    · intro k st hk ⟨C, m, hst, hC, h3, hm, h4⟩
      subst hst
      exact rw_L14 (rowsumM hf hk hg hb) rfl rfl hk hs (gs_bd hb hk) hR hC h3 hm h4
    · intro st ⟨C, m, hst, hC, h3, hm, h4⟩
      subst hst
      have hcov : Cov g s := fun v hv hv2 => (hR.2 v hv).1 (h4 v hv hv2)
      have hiff := rw_end hs hC hm hcov
      clear hC hm h4 hcov
      unfold p_M_isRow_L14 p_M_isRow_B133_14 p_M_isRow_B144_14
      simp only []
      rw [if_neg (by clear hiff; omega)]
      have c0 : (C : Int) = 0 ↔ C = 0 := by clear hiff; omega
      have c1 : (C : Int) = 1 ↔ C = 1 := by clear hiff; omega
      have d01 : ¬ (0 : Int) = 1 := by decide
      by_cases z : C = 0
      · have z1 : ¬ C = 1 := by clear hiff c0 c1; omega
        rw [if_pos (c0.2 z)]
        by_cases y : m = 0
        · rw [if_pos y]
          exact ⟨rfl, .inl ⟨rfl, hiff.1 (.inl ⟨z, y⟩)⟩⟩
        · rw [if_neg y, if_neg (fun w => z1 (c1.1 w))]
          exact ⟨rfl, .inr ⟨rfl, fun hok => (hiff.2 hok).elim (fun w => y w.2) (fun w => z1 w.1)⟩⟩
      · rw [if_neg (fun w => z (c0.1 w))]
        by_cases y : C = 1
        · rw [if_pos (c1.2 y)]
          by_cases w : m = 1
          · rw [if_pos w]
            exact ⟨rfl, .inl ⟨rfl, hiff.1 (.inr ⟨y, w⟩)⟩⟩
          · rw [if_neg w]
            exact ⟨rfl, .inr ⟨rfl, fun hok => (hiff.2 hok).elim (fun v => z v.1) (fun v => w v.2)⟩⟩
        · rw [if_neg (fun w => y (c1.1 w))]
          exact ⟨rfl, .inr ⟨rfl, fun hok => (hiff.2 hok).elim (fun v => z v.1) (fun v => y v.1)⟩⟩
  obtain ⟨q, eq, hq, hq2⟩ := okp_ex h
  obtain ⟨r, N⟩ := q
  simp only at hq hq2
  subst hq
  exact ⟨r, eq, hq2⟩
