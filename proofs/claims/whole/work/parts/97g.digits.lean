/-! THE LAW: digits and letters by both -/
theorem nu_fl {b : Int → Int} {n p z e w op : Int} {N0 M0 N M : oM} (h : nuR b n N0 M0 p z e w op N M) : eqo lgC N0 N ∧ 0 ≤ N 27 9 := ⟨h.2.2.2.2.2.2.1, by rw [h.2.2.2.1.1]; exact h.2.2.2.1.2.2.1⟩
theorem pow10s : ∀ k : Nat, k < 5 → (10 : Int) ^ k ≤ 10000 ∧ 0 < (10 : Int) ^ k := by decide
def dgI (b : Int → Int) (n : Int) (N0 M0 : oM) (p z e w op : Int) (N M : oM) (k : Nat) (s : Int × Int × oM) (M1 : oM) : Prop := s.2.1 = (k : Int) ∧ nuR b n N0 M0 (p + k) z e w op s.2.2 M1 ∧ M1 57 11 = s.1 ∧ (0 ≤ s.1 ∧ s.1 < (10 : Int) ^ k) ∧ (s.2.2 28 = N 28 ∧ s.2.2 29 = N 29 ∧ M1 64 = M 64 ∧ M1 65 = M 65)
def dgQ (b : Int → Int) (n : Int) (N0 M0 : oM) (p z e w op : Int) (N M : oM) (q q' : Int × oM) : Prop := (q.1 < 0 ∧ q'.1 = 0 ∧ q'.2 57 10 = q.1 ∧ (eqo lgC N0 q.2 ∧ 0 ≤ q.2 27 9) ∧ eqo lgM M0 q'.2) ∨
  (q.1 = 0 ∧ q'.1 = 1 ∧ ∃ p' v N', p ≤ p' ∧ (0 ≤ v ∧ v < 1048576) ∧ nuR b n N0 M0 p' z e w op N' q'.2 ∧ q'.2 57 11 = v ∧ q.2 = putN N' z 48 v ∧ (chT b n p' < 48 ∨ 57 < chT b n p') ∧ (N' 28 = N 28 ∧ N' 29 = N 29 ∧ q'.2 64 = M 64 ∧ q'.2 65 = M 65))
theorem nu_step {f : Nat} {b : Int → Int} {n p z e w op : Int} {N0 M0 N M : oM} (h : nuR b n N0 M0 p z e w op N M) (hp : p < n) : ∃ N', p_T_step f N = some (0, N') ∧ (∀ M' : oM, rdM b n M' (p + 1) → M' 57 13 = z → M' 57 14 = w → M' 57 12 = op → eqo lgM M0 M' → nuR b n N0 M0 (p + 1) z e w op N' M') ∧ N' 28 = N 28 ∧ N' 29 = N 29 := by
  obtain ⟨h1, h2, h3, h4, h5, h6, h7, h8⟩ := h
  obtain ⟨N', a1, a2, a3⟩ := e_T_step1 (f := f) h1 hp
  refine ⟨N', a1, fun M' k1 k2 k3 k4 k5 => ⟨a2, k1, ⟨by omega, h3.2⟩, ⟨(eqo_f a3 27 9 rfl).trans h4.1, k2, by omega, by omega, by omega⟩, ⟨k3, by omega, by omega⟩, ⟨k4, h6.2⟩, eqo_tr (subw_cons (.head _) (subw_cons (.tail _ (.head _)) subw_nil)) h7 a3, k5⟩, eqo_a a3 28 rfl, eqo_a a3 29 rfl⟩
theorem dg_step {f k : Nat} {b : Int → Int} {n p z e w op : Int} {N0 M0 N M : oM} {s : Int × Int × oM} {M1 : oM} (hk : k < 5) (hI : dgI b n N0 M0 p z e w op N M k s M1) :
    okp (p_LR_readDigits_L4 f s) (fun y => okp (p_M_readsNumber_L10 f p M1) (fun y' => psum2 (dgI b n N0 M0 p z e w op N M (k + 1)) (dgQ b n N0 M0 p z e w op N M) y y')) := by
  obtain ⟨v, j, N1⟩ := s
  obtain ⟨i1, i2, i3, i4, i5⟩ := hI
  simp only at i1 i2 i3 i4 i5
  subst i1
  obtain ⟨h1, h2, h3, h4, h5, h6, h7, h8⟩ := id i2
  have hch := rdC_ch h1
  have hbd := chT_bd h1
  have hh := e_M_here (f := f) h2
  have hp := h2.2.2.2
  have hk5 : (k : Int) < 5 := nat_lt hk
  have hpw := pow10s k hk
  unfold p_LR_readDigits_L4 p_M_readsNumber_L10
  simp only []
  rw [if_pos hk5, e_T_digit hch.1, Option.bind_some, e_M_digit hh, Option.bind_some]
  by_cases q : 48 ≤ chT b n (p + k) ∧ chT b n (p + k) ≤ 57
  · have hpn : p + k < n := chT_in (b := b) (p := p + k) (by omega)
    obtain ⟨N2, a1, a2, a3, a4⟩ := nu_step (f := f) i2 hpn
    rw [if_pos q, if_neg (show ¬ ((1 : Int), N1).fst = 0 from n10), if_neg (show ¬ ((1 : Int), M1).fst = 0 from n10)]
    unfold p_T_next
    rw [Option.bind_some, show ((1 : Int), N1).snd 1 4 = chT b n (p + k) from hch.1, show ((1 : Int), M1).snd 57 8 = p + k from hp.1, w32_of (a := p + 5) (by omega) (by omega), if_neg (show ¬ p + (k : Int) = p + 5 by omega), show p_M_here f ((1 : Int), M1).snd = _ from hh, Option.bind_some, show ((1 : Int), M1).snd 57 11 = v from i3]
    generalize chT b n (p + k) = c at *
    have w1 : w32 (w32 (w32 (v * 10) + c) - 48) = 10 * v + c - 48 := by
      rw [w32_of (a := v * 10) (by omega) (by omega), w32_of (a := v * 10 + c) (by omega) (by omega), w32_of (by omega) (by omega)]; omega
    have w2 : w32 (w32 (w32 (10 * v) + c) - 48) = 10 * v + c - 48 := by
      rw [w32_of (a := 10 * v) (by omega) (by omega), w32_of (a := 10 * v + c) (by omega) (by omega), w32_of (by omega) (by omega)]
    rw [show (c, ((1 : Int), N1).snd).fst = c from rfl, w1, lt_eq, show p_T_step f (c, ((1 : Int), N1).snd).snd = some (0, N2) from a1, Option.bind_some, lt_eq, w32nat (Nat.lt_trans hk (by decide)), w2, lt_eq, show oU (c, M1).snd 57 11 (10 * v + c - 48) 57 8 = p + k from (oU_i (by decide)).trans hp.1, w32_of (a := p + (k : Int) + 1) (by omega) (by omega), lt_eq]
    have ep : p + ((k + 1 : Nat) : Int) = p + (k : Int) + 1 := by omega
    refine ⟨rfl, ?_, ?_, ?_, ?_⟩
    · show nuR b n N0 M0 (p + ((k + 1 : Nat) : Int)) z e w op N2 (oU (oU M1 57 11 (10 * v + c - 48)) 57 8 (p + (k : Int) + 1))
      rw [ep]
      refine a2 _ (rdM_next (rdM_57 h2 (by decide) (by decide)) (by omega)) ?_ ?_ ?_ (eqo_oU (.head _) (eqo_oU (.tail _ (.tail _ (.head _))) h8))
      · rw [oU_i (by decide), oU_i (by decide)]; exact h4.2.1
      · rw [oU_i (by decide), oU_i (by decide)]; exact h5.1
      · rw [oU_i (by decide), oU_i (by decide)]; exact h6.1
    · show oU (oU M1 57 11 (10 * v + c - 48)) 57 8 (p + (k : Int) + 1) 57 11 = 10 * v + c - 48
      rw [oU_i (by decide), oU_at]
    · show 0 ≤ 10 * v + c - 48 ∧ 10 * v + c - 48 < (10 : Int) ^ (k + 1)
      rw [Int.pow_succ]
      omega
    · exact ⟨a3.trans i5.1, a4.trans i5.2.1, (show (oU (oU M1 57 11 (10 * v + c - 48)) 57 8 (p + (k : Int) + 1)) 64 = M 64 by rw [oU_row (by decide), oU_row (by decide)]; exact i5.2.2.1), (show (oU (oU M1 57 11 (10 * v + c - 48)) 57 8 (p + (k : Int) + 1)) 65 = M 65 by rw [oU_row (by decide), oU_row (by decide)]; exact i5.2.2.2)⟩
  · rw [if_neg q, if_pos (show ((0 : Int), N1).fst = 0 from rfl), if_pos (show ((0 : Int), M1).fst = 0 from rfl)]
    unfold p_LR_readDigits_B48_4
    rw [show p_T_nextIsDigit f ((0 : Int), N1).snd = _ from e_T_digit hch.1, if_neg q, Option.bind_some, if_pos (show ((0 : Int), ((0 : Int), N1).snd).fst = 0 from rfl), show p_L_put f 48 v ((0 : Int), ((0 : Int), N1).snd).snd = some (z, putN N1 z 48 v) from e_put h4.1 (by omega), Option.bind_some]
    exact .inr ⟨rfl, rfl, p + k, v, N1, by omega, by omega, i2, i3, rfl, by omega, i5⟩
theorem dg_end {f : Nat} {b : Int → Int} {n p z e w op : Int} {N0 M0 N M : oM} {s : Int × Int × oM} {M1 : oM} (hI : dgI b n N0 M0 p z e w op N M 5 s M1) :
    okp (p_LR_readDigits_L4 f s) (fun y => okp (p_M_readsNumber_L10 f p M1) (fun y' => psum2 (fun _ _ => False) (dgQ b n N0 M0 p z e w op N M) y y')) := by
  obtain ⟨v, j, N1⟩ := s
  obtain ⟨i1, i2, i3, i4, i5⟩ := hI
  simp only at i1 i2 i3 i4 i5
  subst i1
  obtain ⟨h1, h2, h3, h4, h5, h6, h7, h8⟩ := id i2
  have hch := rdC_ch h1
  have hbd := chT_bd h1
  have hh := e_M_here (f := f) h2
  have hp := h2.2.2.2
  have e5 : ((5 : Nat) : Int) = 5 := rfl
  have hv : v < 1048576 := Int.lt_of_lt_of_le i4.2 (by decide)
  unfold p_LR_readDigits_L4 p_M_readsNumber_L10 p_LR_readDigits_B48_4
  simp only []
  rw [if_neg (show ¬ (((5 : Nat) : Int) < 5) by decide), e_T_digit hch.1, Option.bind_some, e_M_digit hh, Option.bind_some]
  by_cases q : 48 ≤ chT b n (p + ((5 : Nat) : Int)) ∧ chT b n (p + ((5 : Nat) : Int)) ≤ 57
  · rw [if_pos q, if_neg (show ¬ ((1 : Int), N1).fst = 0 from n10), if_neg (show ¬ ((1 : Int), M1).fst = 0 from n10), show p_T_fault f 2 ((1 : Int), N1).snd = some (-1000 * 2 - (p + ((5 : Nat) : Int)), N1) from e_T_fault hch.2.1 (by decide) hch.2.2.2.1, Option.bind_some, show ((1 : Int), M1).snd 57 8 = p + ((5 : Nat) : Int) from hp.1, w32_of (a := p + 5) (by omega) (by omega), if_pos (show p + ((5 : Nat) : Int) = p + 5 from rfl), e_wrongR (by decide) (by omega)]
    refine .inl ⟨?_, rfl, at_snd (x := 0), nu_fl i2, eqo_oU (.tail _ (.head _)) h8⟩
    show -1000 * 2 - (p + ((5 : Nat) : Int)) < 0
    omega
  · rw [if_neg q, if_pos (show ((0 : Int), N1).fst = 0 from rfl), if_pos (show ((0 : Int), M1).fst = 0 from rfl), show p_L_put f 48 v ((0 : Int), N1).snd = some (z, putN N1 z 48 v) from e_put h4.1 (by omega), Option.bind_some]
    exact .inr ⟨rfl, rfl, p + ((5 : Nat) : Int), v, N1, by omega, ⟨i4.1, hv⟩, i2, i3, rfl, by omega, i5⟩
theorem digits_ok {f : Nat} {b : Int → Int} {n p z e w op : Int} {N0 M0 N M : oM} (hf : 2000 < f) (hR : nuR b n N0 M0 p z e w op N M) : okp (p_LR_readDigits f N) (fun q => okp (p_M_readsNumber f M) (fun q' => dgQ b n N0 M0 p z e w op N M q q')) := by
  obtain ⟨h1, h2, h3, h4, h5, h6, h7, h8⟩ := id hR
  unfold p_LR_readDigits p_M_readsNumber
  rw [h2.2.2.2.1, lt_eq, lt_eq]
  refine for2_ok 5 (dgI b n N0 M0 p z e w op N M) (fun k s s' hk hI => dg_step hk hI) (fun s s' hI => dg_end hI) f f (by omega) (by omega) ⟨rfl, ?_, oU_at, ⟨Int.le_refl 0, by show (0 : Int) < (10 : Int) ^ 0; decide⟩, rfl, rfl, oU_row (by decide), oU_row (by decide)⟩
  show nuR b n N0 M0 (p + ((0 : Nat) : Int)) z e w op N (oU M 57 11 0)
  rw [show p + ((0 : Nat) : Int) = p from Int.add_zero p]
  refine ⟨h1, rdM_57 h2 (by decide) (by decide), h3, ⟨h4.1, ?_, h4.2.2⟩, ⟨?_, h5.2⟩, ⟨?_, h6.2⟩, h7, eqo_oU (.tail _ (.tail _ (.head _))) h8⟩
  · rw [oU_i (by decide)]; exact h4.2.1
  · rw [oU_i (by decide)]; exact h5.1
  · rw [oU_i (by decide)]; exact h6.1
/-! letters -/
theorem i2c_b : ∀ c : Nat, c < 256 → i2c (c : Int) = (c : Int) ∧ i2b (c : Int) = (if c < 128 then (c : Int) else (c : Int) - 256) := by decide +kernel
def ltP (c r : Int) : Prop := (r = -1 ∧ ∀ j : Int, 0 ≤ j → j < 8 → tx8 j ≠ c) ∨ ((0 ≤ r ∧ r < 8) ∧ tx8 r = c)
theorem tx8_bd (j : Int) : 99 ≤ tx8 j ∧ tx8 j ≤ 121 := by
  unfold tx8
  repeat' split
  all_goals decide
theorem e_indexOf {f : Nat} {c : Int} {N : oM} (hf : 2000 < f) (hc : 0 ≤ c ∧ c ≤ 255) : ∃ r, p_JS_indexOf f (i2c c) N = some (r, N) ∧ ltP c r := by
  obtain ⟨m, hm⟩ : ∃ m : Nat, (m : Int) = c := ⟨c.toNat, Int.toNat_of_nonneg hc.1⟩
  have hm2 := i2c_b m (by omega)
  rw [hm] at hm2
  have hmb : ∀ j : Int, tx8 j = i2b c ↔ tx8 j = c := by
    intro j
    have := tx8_bd j
    rw [hm2.2]
    by_cases q : m < 128
    · rw [if_pos q]
    · rw [if_neg q]
      omega
  have hloop : okp (iter (p_JL_indexOfChar_L7 f 8 (i2b c)) f (0, N)) (fun q => q.2 = N ∧ ltP c q.1) := by
    refine for_ok 8 (fun (k : Nat) (s : Int × oM) => s = ((k : Int), N) ∧ ∀ j : Int, 0 ≤ j → j < (k : Int) → tx8 j ≠ c) (fun k s hk hI => ?_) (fun s hI => ?_) f (by omega) ⟨rfl, fun j j0 j1 => by omega⟩
    · obtain ⟨rfl, h2⟩ := hI
      have hk8 : (k : Int) < 8 := nat_lt hk
      unfold p_JL_indexOfChar_L7
      simp only []
      rw [if_pos hk8, bnd_nat hk8]
      by_cases q : tx8 (k : Int) = i2b c
      · rw [if_pos q]
        exact ⟨rfl, .inr ⟨⟨Int.natCast_nonneg k, hk8⟩, (hmb k).1 q⟩⟩
      · rw [if_neg q, w32nat (Nat.lt_trans hk (by decide)), lt_eq]
        refine ⟨rfl, fun j j0 j1 => ?_⟩
        by_cases z : j = (k : Int)
        · rw [z]; exact fun y => q ((hmb k).2 y)
        · exact h2 j j0 (by omega)
    · obtain ⟨rfl, h2⟩ := hI
      unfold p_JL_indexOfChar_L7
      simp only []
      rw [if_neg (show ¬ (((8 : Nat) : Int) < 8) by decide)]
      exact ⟨rfl, .inl ⟨rfl, fun j j0 j1 => h2 j j0 j1⟩⟩
  obtain ⟨q, e1, e2, e3⟩ := okp_ex hloop
  refine ⟨q.1, ?_, e3⟩
  have hlen : p_JS_length f N = some (8, N) := by
    unfold p_JS_length p_JS_coder
    rw [if_neg n10, Option.bind_some]
    show some (ishr 8 0, N) = _
    rw [show ishr 8 0 = 8 from by decide +kernel]
  unfold p_JS_indexOf p_JS_indexOf2 p_JS_isLatin1
  rw [if_neg n10, if_pos rfl, Option.bind_some, if_neg (show ¬ ((1 : Int), N).fst = 0 from n10), show p_JS_length f ((1 : Int), N).snd = _ from hlen, Option.bind_some]
  unfold p_JL_indexOf p_JL_canEncode
  rw [hm2.1, if_neg (show ¬ c < 0 by omega), if_neg (show ¬ 255 < c by omega), Option.bind_some, if_neg (show ¬ ((1 : Int), ((8 : Int), N).snd).fst = 0 from n10), lt_eq, lt_eq, if_pos (show imax 0 0 < imin ((8 : Int), N).fst 8 from by show imax 0 0 < imin 8 8; decide)]
  unfold p_JL_indexOfChar
  rw [lt_eq, show iter (p_JL_indexOfChar_L7 f (imin ((8 : Int), N).fst 8) (i2b c)) f (imax 0 0, ((1 : Int), ((8 : Int), N).snd).snd) = some q from e1, Option.bind_some, Option.bind_some, Option.bind_some, ← e2]
theorem ite_same {α : Type} {c x : Int} {Y R : α} (h : Y = R) : (if c = x then R else Y) = R := by
  by_cases q : c = x
  · rw [if_pos q]
  · rw [if_neg q]; exact h
theorem ite_ne {α : Type} {c x : Int} {A Y R : α} (hne : c ≠ x) (h : Y = R) : (if c = x then A else Y) = R := by rw [if_neg hne]; exact h
theorem e_factOf {f : Nat} {c r : Int} {M : oM} (h : ltP c r) : p_M_factOf f c M = some (r, M) := by
  have key : ∀ x : Int, (∀ j : Int, 0 ≤ j → j < 8 → tx8 j ≠ x) → x ≠ 104 ∧ x ≠ 99 ∧ x ≠ 110 ∧ x ≠ 111 ∧ x ≠ 119 ∧ x ≠ 103 ∧ x ≠ 116 ∧ x ≠ 121 := fun x hx => ⟨fun z => hx 0 (by decide) (by decide) (by rw [z]; rfl), fun z => hx 1 (by decide) (by decide) (by rw [z]; rfl), fun z => hx 2 (by decide) (by decide) (by rw [z]; rfl), fun z => hx 3 (by decide) (by decide) (by rw [z]; rfl), fun z => hx 4 (by decide) (by decide) (by rw [z]; rfl), fun z => hx 5 (by decide) (by decide) (by rw [z]; rfl), fun z => hx 6 (by decide) (by decide) (by rw [z]; rfl), fun z => hx 7 (by decide) (by decide) (by rw [z]; rfl)⟩
  unfold p_M_factOf
  rcases h with ⟨h1, h2⟩ | ⟨h1, h2⟩
  · obtain ⟨k1, k2, k3, k4, k5, k6, k7, k8⟩ := key c h2
    rw [h1]
    exact ite_ne k2 (ite_same (ite_same (ite_same (ite_ne k6 (ite_ne k1 (ite_same (ite_same (ite_same (ite_same (ite_same (ite_ne k3 (ite_ne k4 (ite_same (ite_same (ite_same (ite_same (ite_ne k7 (ite_same (ite_same (ite_ne k5 (ite_same (ite_ne k8 (rfl)))))))))))))))))))))))
  · have hr : r = 0 ∨ r = 1 ∨ r = 2 ∨ r = 3 ∨ r = 4 ∨ r = 5 ∨ r = 6 ∨ r = 7 := by omega
    rcases hr with z | z | z | z | z | z | z | z <;> rw [z] at h2 ⊢ <;> rw [← h2] <;> rfl
