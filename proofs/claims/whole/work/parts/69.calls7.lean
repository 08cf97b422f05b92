/-! dry, longest, the tape: feed, check -/
theorem okp_swap {α β : Type} {x : Option α} {y : Option β} {Q : α → β → Prop} (h : okp x (fun a => okp y (fun b => Q a b))) : okp y (fun b => okp x (fun a => Q a b)) := by
  obtain ⟨a, ea, ha⟩ := okp_ex h
  obtain ⟨b, eb, hb⟩ := okp_ex ha
  rw [eb]
  show okp x _
  rw [ea]
  exact hb
theorem two30 : (1073741824 : Int) = 2 ^ 30 := by decide
/-- Euclid's steps are few -/
theorem gcds {f : Nat} {x y : Int} {Mc Mr : oM} (hf : 2000 < f) (hx : 0 ≤ x) (hy : 0 < y ∧ y < 1073741824) : okp (p_O_commonDivisor f x y Mc) (fun q => okp (p_M_gcd f x y Mr) (fun q' => q.1 = q'.1 ∧ 0 < q.1 ∧ q.2 = Mc ∧ q'.2 = Mr)) := by
  unfold p_O_commonDivisor p_M_gcd
  refine iter2_ok (fun n s s' => ∃ a b i : Int, s = (a, b, i, Mc) ∧ s' = (a, b, Mr) ∧ 0 ≤ a ∧ 0 ≤ b ∧ 0 < a + b ∧ 0 ≤ i ∧ i + n ≤ 60 ∧ ∃ j : Nat, (n = 2 * j ∧ b < 2 ^ j) ∨ (n + 1 = 2 * j ∧ b < a ∧ a < 2 ^ j)) ?_ 60 f f (by omega) (by omega) ⟨x, y, 0, rfl, rfl, hx, by omega, by omega, by omega, by omega, 30, .inl ⟨rfl, two30 ▸ hy.2⟩⟩
  intro n s s' ⟨a, b, i, hs, hs', h1, h2, h3, h4, h5, j, h6⟩
  subst hs; subst hs'
  unfold p_O_commonDivisor_L7 p_M_gcd_L4
  simp only []
  rw [if_pos (by omega)]
  by_cases q : b = 0
  · rw [if_pos q, if_pos q]
    exact ⟨rfl, by show 0 < a; omega, rfl, rfl⟩
  · rw [if_neg q, nz_eq q, lt_eq, lt_eq, w32_of (by omega) (by omega), if_neg q, nz_eq q, lt_eq]
    have hm : Int.tmod a b = a % b := Int.tmod_eq_emod_of_nonneg h1
    have hm1 := Int.emod_nonneg a q
    have hm2 := Int.emod_lt_of_pos a (show 0 < b by omega)
    rw [hm]
    rcases h6 with ⟨h6, h7⟩ | ⟨h6, h7, h8⟩
    · cases j with
      | zero => exfalso; rw [Int.pow_zero] at h7; omega
      | succ j =>
        exact ⟨n - 1, by omega, b, a % b, i + 1, rfl, rfl, h2, hm1, by omega, by omega, by omega, j + 1, .inr ⟨by omega, hm2, h7⟩⟩
    · cases j with
      | zero => omega
      | succ j =>
        refine ⟨n - 1, by omega, b, a % b, i + 1, rfl, rfl, h2, hm1, by omega, by omega, by omega, j, .inl ⟨by omega, ?_⟩⟩
        rw [Int.pow_succ] at h8
        have h9 := Int.mul_ediv_add_emod a b
        have h10 : 1 ≤ a / b := by
          rcases Int.lt_or_le (a / b) 1 with z | z
          · have z0 := Int.ediv_nonneg h1 (show 0 ≤ b by omega)
            have : a / b = 0 := by omega
            rw [this, Int.mul_zero] at h9
            omega
          · exact z
        have h11 : b * 1 ≤ b * (a / b) := Int.mul_le_mul_of_nonneg_left h10 (by omega)
        omega
theorem pow10 : ∀ k : Nat, k ≤ 9 → (10 : Int) ^ k ≤ 1000000000 ∧ 0 < (10 : Int) ^ k := by decide
theorem call_dry {f T : Nat} {c n what : Int} {Mc Mr : oM} (hf : 2000 < f) (h : Rel T c Mc Mr) : Same f c (p_O_dry f n what Mc) (p_M_dry f n what Mr) := by
  obtain ⟨hp, hd, ho, hk, ht, hl, hz⟩ := id h
  by_cases hn : 1 ≤ n ∧ n ≤ 9
  · by_cases hw : 0 ≤ what ∧ what ≤ 1
    · obtain ⟨a, ea, ha⟩ := okp_ex (rain_by (f := f) (day := Mc 6 9) hf hl (dC_hour hd).2.symm)
      obtain ⟨b, eb, h1, h2⟩ := okp_ex ha
      have f1 := fr_L_rain (eqo_rfl _ _) _ ea
      have f2 := fr_M_rainBy (eqo_rfl _ _) _ eb
      have w0 : w32 (10 - a.1) = 10 - a.1 := w32_of (by omega) (by omega)
      have hloop : okp (iter (p_O_dry_L46 f n what a.1) f (1, 1, 0, a.2)) (fun q => okp (iter (p_M_dry_L38 f n what (10 - a.1)) f (1, 1, 0, b.2)) (fun q' => q.1 = q'.1)) := by
        refine for2_ok n.toNat (fun k s s' => ∃ x y : Int, s = (x, y, (k : Int), a.2) ∧ s' = (x, y, (k : Int), b.2) ∧ 0 ≤ x ∧ x ≤ (10 : Int) ^ k ∧ y = (10 : Int) ^ k) ?_ ?_ f f (by omega) (by omega) ⟨1, 1, rfl, rfl, by omega, by rw [Int.pow_zero]; omega, rfl⟩
        · intro k s s' hk ⟨x, y, hs, hs', x0, x1, hy⟩
          subst hs; subst hs'
          have hp10 := pow10 k (by omega)
          have hp11 := pow10 (k + 1) (by omega)
          rw [Int.pow_succ] at hp11
          have hx2 : 0 ≤ x * (10 - a.1) ∧ x * (10 - a.1) ≤ 10 ^ k * 10 := by
            refine ⟨Int.mul_nonneg x0 (by omega), Int.le_trans (Int.mul_le_mul_of_nonneg_left (show 10 - a.1 ≤ 10 by omega) x0) ?_⟩
            exact Int.mul_le_mul_of_nonneg_right x1 (by omega)
          unfold p_O_dry_L46 p_M_dry_L38
          simp only []
          rw [if_pos (by omega), if_pos (c := (k : Int) < n) (by omega), w0, w32_of (a := x * (10 - a.1)) (by omega) (by omega), lt_eq, lt_eq, lt_eq, lt_eq, lt_eq, lt_eq, hy, w32_of (a := (10 : Int) ^ k * 10) (by omega) (by omega), w32_of (a := (k : Int) + 1) (by omega) (by omega)]
          exact ⟨x * (10 - a.1), 10 ^ k * 10, by rw [show ((k + 1 : Nat) : Int) = (k : Int) + 1 from by omega], by rw [show ((k + 1 : Nat) : Int) = (k : Int) + 1 from by omega], hx2.1, by rw [Int.pow_succ]; exact hx2.2, by rw [Int.pow_succ]⟩
        · intro s s' ⟨x, y, hs, hs', x0, x1, hy⟩
          subst hs; subst hs'
          have hp10 := pow10 n.toNat (by omega)
          unfold p_O_dry_L46 p_M_dry_L38
          simp only []
          rw [if_neg (by omega), if_neg (c := (n.toNat : Int) < n) (by omega)]
          obtain ⟨g, eg, hg⟩ := okp_ex (gcds (f := f) (x := x) (y := y) (Mc := a.2) (Mr := b.2) hf x0 (by rw [hy]; omega))
          obtain ⟨g', eg', g1, g2, -⟩ := okp_ex hg
          rw [eg, eg']
          simp only [Option.bind_some]
          rw [if_pos g2]
          by_cases z : what = 0
          · rw [if_pos z, if_pos z, nz_eq (by omega), nz_eq (by omega), g1]
            exact rfl
          · rw [if_neg z, if_neg z, nz_eq (by omega), nz_eq (by omega), g1]
            exact rfl
      obtain ⟨q, eq, hq⟩ := okp_ex hloop
      obtain ⟨q', eq', hq'⟩ := okp_ex hq
      have e1 : p_O_dry f n what Mc = some (q.1, q.2) := by
        unfold p_O_dry p_O_dry_B22
        rw [if_neg (by omega), if_neg (by omega)]
        by_cases z : what = 0
        · rw [if_pos z, ea]
          simp only [Option.bind_some]
          exact eq
        · rw [if_neg z, if_pos (by omega), ea]
          simp only [Option.bind_some]
          exact eq
      have e2 : p_M_dry f n what Mr = some (q.1, q'.2) := by
        unfold p_M_dry
        rw [e_M_in, in_t hn]
        simp only [Option.bind_some]
        rw [b01_t, if_neg (by omega), e_M_in, in_t hw]
        simp only [Option.bind_some]
        rw [b01_t, if_neg (by omega), eb]
        simp only [Option.bind_some]
        rw [← h1, w0, lt_eq, hq']
        exact eq'
      have x1 := fr_O_dry (eqo_rfl _ _) _ e1
      have x2 := fr_M_dry (eqo_rfl _ _) _ e2
      exact same_upd e1 e2 ⟨T, Rel_try h x1 x2 rfl (fun i _ _ => x2 58 i rfl)⟩
    · refine same_some (r := -1) h ?_ ?_
      · unfold p_O_dry
        rw [if_neg (by omega), if_neg (by omega), if_neg (by omega), if_neg (by omega)]
      · unfold p_M_dry
        rw [e_M_in, in_t hn]
        simp only [Option.bind_some]
        rw [b01_t, if_neg (by omega), e_M_in, in_f hw]
        simp (disch := omega) only [bnd_eq, nz_eq, lt_eq, if_pos, if_neg, w32_of, if_true, if_false, not_true_eq_false, not_false_eq_true, Option.bind_some, oU_at, oU_o, oU_i, b01_t, b01_f]
  · refine same_some (r := -1) h ?_ ?_
    · unfold p_O_dry
      by_cases z : n < 1
      · rw [if_pos z]
      · rw [if_neg z, if_pos (by omega)]
    · unfold p_M_dry
      rw [e_M_in, in_f hn]
      simp (disch := omega) only [bnd_eq, nz_eq, lt_eq, if_pos, if_neg, w32_of, if_true, if_false, not_true_eq_false, not_false_eq_true, Option.bind_some, oU_at, oU_o, oU_i, b01_t, b01_f]
/-! who held it longest -/
def lgP (H : Int → Int) (r : Int) : Prop := (r = -2 ∧ ∀ j : Int, 0 ≤ j → j < 10 → H j ≤ 0) ∨ ((0 ≤ r ∧ r < 10) ∧ 0 < H r ∧ (∀ j : Int, 0 ≤ j → j < 10 → H j ≤ H r) ∧ ∀ j : Int, 0 ≤ j → j < r → H j < H r)
theorem lgP_uniq {H : Int → Int} {r r' : Int} (h : lgP H r) (h' : lgP H r') : r = r' := by
  rcases h with ⟨h1, h2⟩ | ⟨h1, h2, h3, h4⟩
  · rcases h' with ⟨g1, g2⟩ | ⟨g1, g2, g3, g4⟩
    · omega
    · have := h2 r' g1.1 g1.2; omega
  · rcases h' with ⟨g1, g2⟩ | ⟨g1, g2, g3, g4⟩
    · have := g2 r h1.1 h1.2; omega
    · have e1 := h3 r' g1.1 g1.2
      have e2 := g3 r h1.1 h1.2
      rcases Int.lt_trichotomy r r' with z | z | z
      · have := g4 r h1.1 z; omega
      · exact z
      · have := h4 r' g1.1 z; omega
theorem call_longest {f T : Nat} {c : Int} {Mc Mr : oM} (hf : 2000 < f) (h : Rel T c Mc Mr) : Same f c (p_O_longest f Mc) (p_M_longest f Mr) := by
  obtain ⟨hp, hd, ho, -⟩ := id h
  let H : Int → Int := fun i => Mr 58 (100 + i)
  have hM8 : ∀ i : Int, 0 ≤ i → i < 10 → Mc 8 i = H i := fun i i0 i1 => hd.2.1 i i0 i1
  have hH : ∀ i : Int, 0 ≤ i → i < 10 → 0 ≤ H i ∧ (0 < H i → tld T i) := fun i i0 i1 => ⟨(ho.2.2.1 i i0 i1).1, (ho.2.2.1 i i0 i1).2.2⟩
  have h1 : okp (p_O_longest f Mc) (fun q => lgP H q.1 ∧ q.2 = Mc) := by
    unfold p_O_longest
    refine for_ok 9 (fun k s => ∃ b : Int, s = (b, (k : Int) + 1, Mc) ∧ (0 ≤ b ∧ b ≤ k) ∧ (∀ j : Int, 0 ≤ j → j ≤ k → H j ≤ H b) ∧ ∀ j : Int, 0 ≤ j → j < b → H j < H b) ?_ ?_ f (by omega) ⟨0, rfl, ⟨by omega, by omega⟩, fun j j0 j1 => by rw [show j = 0 from by omega]; exact Int.le_refl _, fun j j0 j1 => by omega⟩
    · intro k s hk ⟨b, hs, b1, b2, b3⟩
      subst hs
      unfold p_O_longest_L4 p_O_longest_B33_4
      simp only []
      rw [if_pos (by omega), bnd_eq (by omega) (by omega), bnd_eq (by omega) (by omega), hM8 _ (by omega) (by omega), hM8 _ (by omega) (by omega), lt_eq, lt_eq, w32_of (by omega) (by omega)]
      by_cases z : H b < H ((k : Int) + 1)
      · rw [if_pos z]
        refine ⟨(k : Int) + 1, by rw [show ((k + 1 : Nat) : Int) = (k : Int) + 1 from by omega], ⟨by omega, by omega⟩, fun j j0 j1 => ?_, fun j j0 j1 => ?_⟩
        · by_cases y : j = (k : Int) + 1
          · rw [y]; exact Int.le_refl _
          · have := b2 j j0 (by omega); omega
        · have := b2 j j0 (by omega); omega
      · rw [if_neg z]
        refine ⟨b, by rw [show ((k + 1 : Nat) : Int) = (k : Int) + 1 from by omega], ⟨b1.1, by omega⟩, fun j j0 j1 => ?_, b3⟩
        by_cases y : j = (k : Int) + 1
        · rw [y]; omega
        · exact b2 j j0 (by omega)
    · intro s ⟨b, hs, b1, b2, b3⟩
      subst hs
      unfold p_O_longest_L4
      simp only []
      rw [if_neg (by omega), bnd_eq (by omega) (by omega), hM8 _ (by omega) (by omega)]
      by_cases z : 0 < H b
      · rw [if_pos z]
        exact ⟨.inr ⟨⟨b1.1, by show b < 10; omega⟩, z, fun j j0 j1 => b2 j j0 (by omega), b3⟩, rfl⟩
      · rw [if_neg z]
        exact ⟨.inl ⟨rfl, fun j j0 j1 => by have := b2 j j0 (by omega); omega⟩, rfl⟩
  have h2 : okp (p_M_longest f Mr) (fun q => lgP H q.1 ∧ q.2 = Mr) := by
    unfold p_M_longest
    refine for_ok 10 (fun k s => ∃ b m : Int, s = (b, m, (k : Int), Mr) ∧ ((b = -2 ∧ m = 0 ∧ ∀ j : Int, 0 ≤ j → j < k → H j ≤ 0) ∨ ((0 ≤ b ∧ b < k) ∧ m = H b ∧ 0 < H b ∧ (∀ j : Int, 0 ≤ j → j < k → H j ≤ H b) ∧ ∀ j : Int, 0 ≤ j → j < b → H j < H b))) ?_ ?_ f (by omega) ⟨-2, 0, rfl, .inl ⟨rfl, rfl, fun j j0 j1 => by omega⟩⟩
    · intro k s hk ⟨b, m, hs, hb⟩
      subst hs
      have kk := hH (k : Int) (by omega) (by omega)
      unfold p_M_longest_L7 p_M_longest_B49_7
      simp only []
      rw [if_pos (by omega), e_M_isPerson hp.2.2.1 hp.1]
      simp only [Option.bind_some, lt_eq]
      rw [w32_of (a := (k : Int) + 1) (by omega) (by omega), w32_of (a := 100 + (k : Int)) (by omega) (by omega), bnd_eq (by omega) (by omega), bnd_eq (by omega) (by omega)]
      have stay : (∀ x, x = H (k : Int) → x ≤ m) → ∃ b' m' : Int, (b, m, (k : Int) + 1, Mr) = (b', m', ((k + 1 : Nat) : Int), Mr) ∧ ((b' = -2 ∧ m' = 0 ∧ ∀ j : Int, 0 ≤ j → j < ((k + 1 : Nat) : Int) → H j ≤ 0) ∨ ((0 ≤ b' ∧ b' < ((k + 1 : Nat) : Int)) ∧ m' = H b' ∧ 0 < H b' ∧ (∀ j : Int, 0 ≤ j → j < ((k + 1 : Nat) : Int) → H j ≤ H b') ∧ ∀ j : Int, 0 ≤ j → j < b' → H j < H b')) := by
        intro hx
        have hx' := hx _ rfl
        refine ⟨b, m, by rw [show ((k + 1 : Nat) : Int) = (k : Int) + 1 from by omega], ?_⟩
        rcases hb with ⟨y1, y2, y3⟩ | ⟨y1, y2, y3, y4, y5⟩
        · refine .inl ⟨y1, y2, fun j j0 j1 => ?_⟩
          by_cases y : j = (k : Int)
          · rw [y]; omega
          · exact y3 j j0 (by omega)
        · refine .inr ⟨⟨y1.1, by omega⟩, y2, y3, fun j j0 j1 => ?_, y5⟩
          by_cases y : j = (k : Int)
          · rw [y]; omega
          · exact y4 j j0 (by omega)
      have hm0 : 0 ≤ m := by
        rcases hb with ⟨y1, y2, y3⟩ | ⟨y1, y2, y3, y4, y5⟩ <;> omega
      cases htl : tldb T (k : Int) with
      | false =>
        rw [b01_f, if_pos rfl]
        refine stay fun x hx => ?_
        have : ¬ 0 < H (k : Int) := fun z => by
          have := kk.2 z
          unfold tld at this
          rw [htl] at this; cases this
        omega
      | true =>
        rw [b01_t, if_neg (by omega)]
        show okp (if m < H (k : Int) then _ else _) _
        by_cases z : m < H (k : Int)
        · rw [if_pos z]
          refine ⟨(k : Int), H (k : Int), by rw [show ((k + 1 : Nat) : Int) = (k : Int) + 1 from by omega], .inr ⟨⟨by omega, by omega⟩, rfl, by omega, fun j j0 j1 => ?_, fun j j0 j1 => ?_⟩⟩
          · by_cases y : j = (k : Int)
            · rw [y]; exact Int.le_refl _
            · rcases hb with ⟨y1, y2, y3⟩ | ⟨y1, y2, y3, y4, y5⟩
              · have := y3 j j0 (by omega); omega
              · have := y4 j j0 (by omega); omega
          · rcases hb with ⟨y1, y2, y3⟩ | ⟨y1, y2, y3, y4, y5⟩
            · have := y3 j j0 (by omega); omega
            · have := y4 j j0 (by omega); omega
        · rw [if_neg z]
          exact stay fun x hx => by omega
    · intro s ⟨b, m, hs, hb⟩
      subst hs
      unfold p_M_longest_L7
      simp only []
      rw [if_neg (by omega)]
      refine ⟨?_, rfl⟩
      rcases hb with ⟨y1, y2, y3⟩ | ⟨y1, y2, y3, y4, y5⟩
      · exact .inl ⟨y1, y3⟩
      · exact .inr ⟨y1, y3, y4, y5⟩
  obtain ⟨q, eq, q1, q2⟩ := okp_ex h1
  obtain ⟨q', eq', q1', q2'⟩ := okp_ex h2
  obtain ⟨r, N⟩ := q
  obtain ⟨r', N'⟩ := q'
  simp only at q1 q2 q1' q2'
  subst q2; subst q2'
  rw [← lgP_uniq q1 q1'] at eq'
  exact same_some h eq eq'
