/-! THE LAW: all rules by both -/
theorem lwR_step {b : Int → Int} {n p k z : Int} {N0 M0 N M N' : oM} (hR : lwR b n N0 M0 p k z N M) (hp : p < n) (e2 : rdC b n N' (p + 1)) (e3 : eqo [(1, 3), (1, 4)] N N') : lwR b n N0 M0 (p + 1) k z N' (oU M 57 8 (p + 1)) := by
  obtain ⟨r1, r2, r3, r4, r5, r6, r7, r8, r9⟩ := hR
  refine ⟨e2, rdM_next r2 (by omega), by omega, ⟨(eqo_f e3 27 9 rfl).trans r4.1, (oU_i (by decide)).trans r4.2.1, by omega, by omega⟩, ⟨(eqo_f e3 27 10 rfl).trans r5.1, (oU_i (by decide)).trans r5.2.1, r5.2.2⟩, ?_, fun q q0 q1 => ?_, eqo_tr (subw_cons (.head _) (subw_cons (.tail _ (.head _)) subw_nil)) r8 e3, eqo_oU (.head _) r9⟩
  · unfold cdR
    rw [eqo_a e3 28 rfl, eqo_a e3 29 rfl, oU_row (by decide)]
    exact r6
  · have := r7 q q0 q1
    unfold rl1 at this ⊢
    rw [eqo_a e3 28 rfl, eqo_a e3 29 rfl, eqo_a e3 30 rfl, eqo_a e3 31 rfl, eqo_a e3 32 rfl, eqo_a e3 33 rfl, oU_o (by decide), oU_o (by decide), oU_o (by decide), oU_o (by decide)]
    exact this
def lawQ (b : Int → Int) (n : Int) (N0 M0 : oM) (q q' : Int × oM) : Prop := (q.1 < 0 ∧ q'.1 = 0 ∧ q'.2 57 10 = q.1 ∧ eqo lwC N0 q.2 ∧ eqo lwM M0 q'.2) ∨ (0 < q.1 ∧ q'.1 = 1 ∧ ∃ p z, lwR b n N0 M0 p q.1 z q.2 q'.2)
theorem ll_ft {F : Nat} {k : Int} {N : oM} {q : Int × oM} (hl : k ≤ 16) (e : p_LR_readRule F k N = some q) (h : q.1 < 0) : p_LR_read_L18 F (k, N) = some (.inr q) := by
  unfold p_LR_read_L18
  simp only []
  rw [if_neg (by omega), e, Option.bind_some, if_neg (Int.ne_of_lt h)]
theorem ll_end {F : Nat} {k p n k2 : Int} {N N1 : oM} (hl : k ≤ 16) (e : p_LR_readRule F k N = some (0, N1)) (h3 : N1 1 3 = p) (h2 : N1 1 2 = n) (hp : ¬ p < n) (hk : N1 27 10 = k2) : p_LR_read_L18 F (k, N) = some (.inr (k2, N1)) := by
  unfold p_LR_read_L18 p_T_ended
  simp only []
  rw [if_neg (by omega), e, Option.bind_some, if_pos (show ((0 : Int), N1).fst = 0 from rfl), show ((0 : Int), N1).snd 1 3 = p from h3, show ((0 : Int), N1).snd 1 2 = n from h2, if_neg hp, Option.bind_some, if_neg (show ¬ ((1 : Int), ((0 : Int), N1).snd).fst = 0 from n10), show ((1 : Int), ((0 : Int), N1).snd).snd 27 10 = k2 from hk]
theorem ll_go {F : Nat} {k p n : Int} {N N1 N2 : oM} (hl : k < 16) (h0 : 0 ≤ k) (e : p_LR_readRule F k N = some (0, N1)) (h3 : N1 1 3 = p) (h2 : N1 1 2 = n) (hp : p < n) (h4 : N1 1 4 = 59) (es : p_T_step F N1 = some (0, N2)) : p_LR_read_L18 F (k, N) = some (.inl (k + 1, N2)) := by
  unfold p_LR_read_L18 p_T_ended p_T_next
  simp only []
  rw [if_neg (by omega), e, Option.bind_some, if_pos (show ((0 : Int), N1).fst = 0 from rfl), show ((0 : Int), N1).snd 1 3 = p from h3, show ((0 : Int), N1).snd 1 2 = n from h2, if_pos hp, Option.bind_some, if_pos (show ((0 : Int), ((0 : Int), N1).snd).fst = 0 from rfl), Option.bind_some, if_pos (show (((0 : Int), ((0 : Int), N1).snd).snd 1 4, ((0 : Int), ((0 : Int), N1).snd).snd).fst = 59 from h4), show p_T_step F (((0 : Int), ((0 : Int), N1).snd).snd 1 4, ((0 : Int), ((0 : Int), N1).snd).snd).snd = some (0, N2) from es, Option.bind_some, w32_of (by omega) (by omega), lt_eq]
theorem ll_bad {F : Nat} {k p n c : Int} {N N1 : oM} (hl : k ≤ 16) (e : p_LR_readRule F k N = some (0, N1)) (h3 : N1 1 3 = p) (h2 : N1 1 2 = n) (hp : p < n) (h4 : N1 1 4 = c) (hc : c ≠ 59) (hp0 : 0 ≤ p ∧ p ≤ 1000) : p_LR_read_L18 F (k, N) = some (.inr (-1000 * 1 - p, N1)) := by
  unfold p_LR_read_L18 p_T_ended p_T_next
  simp only []
  rw [if_neg (by omega), e, Option.bind_some, if_pos (show ((0 : Int), N1).fst = 0 from rfl), show ((0 : Int), N1).snd 1 3 = p from h3, show ((0 : Int), N1).snd 1 2 = n from h2, if_pos hp, Option.bind_some, if_pos (show ((0 : Int), ((0 : Int), N1).snd).fst = 0 from rfl), Option.bind_some, if_neg (show ¬ (((0 : Int), ((0 : Int), N1).snd).snd 1 4, ((0 : Int), ((0 : Int), N1).snd).snd).fst = 59 from fun z => hc (h4.symm.trans z)), show p_T_fault F 1 (((0 : Int), ((0 : Int), N1).snd).snd 1 4, ((0 : Int), ((0 : Int), N1).snd).snd).snd = some (-1000 * 1 - p, N1) from e_T_fault h3 (by decide) hp0, Option.bind_some]
theorem lm_no {F : Nat} {M : oM} : p_M_law_L46 F (0, M) = some (.inr (0, M)) := by
  unfold p_M_law_L46
  simp only []
  rw [if_pos trivial]
theorem lm_end {F : Nat} {p n : Int} {M : oM} (h8 : M 57 8 = p) (h9 : M 57 9 = n) (hp : ¬ p < n) : p_M_law_L46 F (1, M) = some (.inr (1, M)) := by
  unfold p_M_law_L46
  simp only []
  rw [if_neg n10, h8, h9, if_neg hp]
theorem lm_bad {F : Nat} {p n : Int} {M M2 : oM} (h8 : M 57 8 = p) (h9 : M 57 9 = n) (hp : p < n) (e : p_M_takes F 59 M = some (0, M2)) : p_M_law_L46 F (1, M) = some (.inl (0, M2)) := by
  unfold p_M_law_L46 p_M_law_B81_46 p_M_law_B82_46
  simp only []
  rw [if_neg n10, h8, h9, if_pos hp, e, Option.bind_some, if_pos (show ((0 : Int), M2).fst = 0 from rfl)]
theorem lm_go {F : Nat} {p n : Int} {M M2 : oM} {z : Int × oM} (h8 : M 57 8 = p) (h9 : M 57 9 = n) (hp : p < n) (e : p_M_takes F 59 M = some (1, M2)) (ez : p_M_readsRule F M2 = some z) (hz : z.1 = 0 ∨ z.1 = 1) : p_M_law_L46 F (1, M) = some (.inl z) := by
  unfold p_M_law_L46 p_M_law_B81_46 p_M_law_B82_46
  simp only []
  rw [if_neg n10, h8, h9, if_pos hp, e, Option.bind_some, if_neg (show ¬ ((1 : Int), M2).fst = 0 from n10), show p_M_readsRule F ((1 : Int), M2).snd = some z from ez, Option.bind_some]
  rcases hz with w | w
  · rw [if_pos w, ← w]
  · rw [if_neg (by rw [w]; exact n10), ← w]
theorem laws_ok {F : Nat} {b : Int → Int} {n : Int} {N0 M0 : oM} (hF : 2000 < F) : ∀ (m f f' : Nat) (k p z : Int) (N M : oM), k + (m : Int) = 16 → m < f → m + 1 < f' → lwR b n N0 M0 p k z N M →
    okp (iter (p_LR_read_L18 F) f (k, N)) (fun q => okp ((p_M_readsRule F M).bind fun q9 => iter (p_M_law_L46 F) f' (q9.1, q9.2)) (fun q' => lawQ b n N0 M0 q q')) := by
  intro m
  induction m with
  | zero =>
    intro f f' k p z N M h16 hf hf' hR
    obtain ⟨f, rfl⟩ : ∃ g, f = g + 1 := ⟨f - 1, by omega⟩
    obtain ⟨f', rfl⟩ : ∃ g, f' = g + 1 := ⟨f' - 1, by omega⟩
    obtain ⟨q, e1, h1⟩ := okp_ex (rule_ok hF hR)
    obtain ⟨q', e2, h2⟩ := okp_ex h1
    rcases h2 with ⟨a1, a2, a3, a4, a5⟩ | ⟨a1, a2, p', z', a3, a4⟩
    · rw [iter_inr (ll_ft (by omega) e1 a1), e2, Option.bind_some, a2, iter_inr lm_no]
      exact .inl ⟨a1, rfl, a3, a4, a5⟩
    · have := a4.2.2.2.2.1.2.2.2
      omega
  | succ m ih =>
    intro f f' k p z N M h16 hf hf' hR
    obtain ⟨f, rfl⟩ : ∃ g, f = g + 1 := ⟨f - 1, by omega⟩
    obtain ⟨f', rfl⟩ : ∃ g, f' = g + 1 := ⟨f' - 1, by omega⟩
    have hk0 := hR.2.2.2.2.1.2.2.1
    obtain ⟨q, e1, h1⟩ := okp_ex (rule_ok hF hR)
    obtain ⟨q', e2, h2⟩ := okp_ex h1
    rw [e2, Option.bind_some]
    rcases h2 with ⟨a1, a2, a3, a4, a5⟩ | ⟨a1, a2, p1, z1, a3, hR1⟩
    · rw [iter_inr (ll_ft (by omega) e1 a1), a2, iter_inr lm_no]
      exact .inl ⟨a1, rfl, a3, a4, a5⟩
    · obtain ⟨x, N1⟩ := q
      obtain ⟨x', M1⟩ := q'
      simp only at a1 a2 hR1
      subst a1 a2
      obtain ⟨u1, u2, u3, u4, u5, u6, u7, u8, u9⟩ := id hR1
      have hch := rdC_ch u1
      have ht := e_takes (f := F) (k := 59) u2
      by_cases hpn : p1 < n
      · by_cases q59 : chT b n p1 = 59
        · rw [if_pos q59] at ht
          obtain ⟨N2, b1, b2, b3⟩ := e_T_step1 (f := F) u1 hpn
          have hR2 := lwR_step hR1 hpn b2 b3
          obtain ⟨q2, d1, d2⟩ := okp_ex (ih f f' (k + 1) (p1 + 1) z1 N2 (oU M1 57 8 (p1 + 1)) (by omega) (by omega) (by omega) hR2)
          obtain ⟨q2', d3, d4⟩ := okp_ex d2
          obtain ⟨y, y1, y2⟩ := okp_ex (rule_ok hF hR2)
          obtain ⟨w, w1, w2⟩ := okp_ex y2
          rw [w1, Option.bind_some] at d3
          have hz : w.1 = 0 ∨ w.1 = 1 := by
            rcases w2 with v | v
            · exact .inl v.2.1
            · exact .inr v.2.1
          rw [iter_inl (ll_go (by omega) hk0 e1 hch.2.1 hch.2.2.1 hpn (hch.1.trans q59) b1), d1]
          show okp (iter (p_M_law_L46 F) (f' + 1) (1, M1)) _
          rw [iter_inl (lm_go u2.2.2.2.1 u2.2.2.1 hpn ht w1 hz), d3]
          exact d4
        · rw [if_neg q59] at ht
          obtain ⟨g', rfl⟩ : ∃ g, f' = g + 1 := ⟨f' - 1, by omega⟩
          rw [iter_inr (ll_bad (by omega) e1 hch.2.1 hch.2.2.1 hpn hch.1 q59 hch.2.2.2.1)]
          show okp (iter (p_M_law_L46 F) (g' + 1 + 1) (1, M1)) _
          rw [iter_inl (lm_bad u2.2.2.2.1 u2.2.2.1 hpn ht), iter_inr lm_no]
          exact .inl ⟨by show -1000 * 1 - p1 < 0; have := hch.2.2.2.1; omega, rfl, by show oU M1 57 10 (-1000 - p1) 57 10 = -1000 * 1 - p1; rw [oU_at]; omega, u8, eqo_oU (.tail _ (.head _)) u9⟩
      · rw [iter_inr (ll_end (by omega) e1 hch.2.1 hch.2.2.1 hpn u5.1)]
        show okp (iter (p_M_law_L46 F) (f' + 1) (1, M1)) _
        rw [iter_inr (lm_end u2.2.2.2.1 u2.2.2.1 hpn)]
        exact .inr ⟨by show 0 < k + 1; omega, rfl, p1, z1, hR1⟩
