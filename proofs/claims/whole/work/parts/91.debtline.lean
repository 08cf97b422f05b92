/-! DEBTS: how many, a line, all lines -/
theorem at_snd {x : Int} {M : oM} {o : Nat} {i v : Int} : ((x, oU M o i v) : Int × oM).2 o i = v := oU_at
def lnP (T : Nat) (b : Int → Int) (n : Int) (N0 M0 : oM) (line : Int) (N M : oM) : Prop := line ≤ 30 ∧ ∃ p, dbR T b n N0 M0 p line N M
theorem many_end {f T : Nat} {b : Int → Int} {n p line a c start m : Int} {N0 M0 N M : oM} (hR : dbR T b n N0 M0 p line N M) (ha : 0 ≤ a ∧ a < 10) (hc : 0 ≤ c ∧ c < 10) (ht : tld T a ∧ tld T c ∧ a ≠ c) (hm : 0 ≤ m ∧ m ≤ 99) (hst : 0 ≤ start ∧ start ≤ 1000) (hl : 0 ≤ line ∧ line < 30) :
    ∃ q q', p_DR_readMany_B72_27 f (10 * a + c) start m N = some (.inr q) ∧ p_M_readsLine_B121_76 f a c start m M = some (.inr q') ∧ ftQ wdC wdM N0 M0 (lnP T b n N0 M0 (line + 1)) q q' := by
  obtain ⟨r1, r2, r3, r4, r5, r6, r7⟩ := hR
  unfold p_DR_readMany_B72_27 p_M_readsLine_B121_76
  by_cases q : m = 0
  · rw [if_pos q, if_pos q, e_T_faultAt (by decide) hst, Option.bind_some, e_wrongR (by decide) (by omega)]
    exact ⟨_, _, rfl, rfl, .inl ⟨by show -1000 * 3 - start ≠ 0; omega, rfl, at_snd, r6, eqo_oU (.tail _ (.head _)) r7⟩⟩
  · have hi : 0 ≤ 10 * a + c ∧ 10 * a + c < 100 := by omega
    have h4 := r4.1 _ hi.1 hi.2
    have wx : w32 (w32 (10 * a) + c) = 10 * a + c := by
      rw [w32_of (a := 10 * a) (by omega) (by omega), w32_of (by omega) (by omega)]
    have e1 : w32 (N 38 (10 * a + c) + m) = N 38 (10 * a + c) + m := w32_of (by omega) (by omega)
    have e2 : mn 99 (N 38 (10 * a + c) + m) = imin 99 (N 38 (10 * a + c) + m) := by
      unfold mn imin
      split <;> split <;> omega
    have hv : 0 ≤ imin 99 (N 38 (10 * a + c) + m) ∧ imin 99 (N 38 (10 * a + c) + m) ≤ 99 := by
      unfold imin
      split <;> omega
    rw [if_neg q, if_neg q, bnd_eq hi.1 hi.2, bnd_eq hi.1 hi.2, lt_eq, e1, wx, bnd_eq hi.1 hi.2, ← h4.1, e1, e_M_mn, Option.bind_some, bnd_eq hi.1 hi.2, lt_eq, e2]
    generalize imin 99 (N 38 (10 * a + c) + m) = v at *
    have el : (oU (v, M).snd 77 (10 * a + c) (v, M).fst) 57 31 = line := (oU_o (by decide)).trans r5
    rw [el, w32_of (by omega) (by omega), lt_eq]
    refine ⟨_, _, rfl, rfl, .inr ⟨rfl, rfl, by omega, p, rdC_o r1 (by decide) (by decide), rdM_57 (rdM_o r2 (by decide) (by decide)) (by decide) (by decide), r3, ?_, at_snd (x := 1), eqo_oUa (.tail _ (.tail _ (.head _))) r6, eqo_oU (.tail _ (.tail _ (.tail _ (.head _)))) (eqo_oUa (.tail _ (.tail _ (.tail _ (.tail _ (.head _))))) r7)⟩⟩
    have hp := dbT_put r4 ha hc hv ht
    refine ⟨fun i i0 i1 => ?_, fun x y x0 x1 y0 y1 => hp.2 x y x0 x1 y0 y1⟩
    have h := hp.1 i i0 i1
    refine ⟨?_, h.2⟩
    show oU N 38 (10 * a + c) v 38 i = oU (oU M 77 (10 * a + c) v) 57 31 (line + 1) 77 i
    rw [h.1]
    exact (oU_o (by decide)).symm
def mnyI (T : Nat) (b : Int → Int) (n : Int) (N0 M0 : oM) (start line : Int) (j : Nat) (s : Int × Int × oM) (s' : Int × oM) : Prop :=
  s.2.1 = (j : Int) ∧ s'.1 = s.1 ∧ dbR T b n N0 M0 (start + j) line s.2.2 s'.2 ∧ 0 ≤ s.1 ∧ (j = 0 → s.1 = 0 ∨ (s.1 = 1 ∧ ¬ (48 ≤ chT b n start ∧ chT b n start ≤ 57))) ∧ (j = 1 → s.1 ≤ 9) ∧ (j = 2 → s.1 ≤ 99)
theorem many_step {f T j : Nat} {b : Int → Int} {n line a c start : Int} {N0 M0 : oM} {s : Int × Int × oM} {s' : Int × oM} (hj : j < 2) (ha : 0 ≤ a ∧ a < 10) (hc : 0 ≤ c ∧ c < 10) (ht : tld T a ∧ tld T c ∧ a ≠ c) (hst : 0 ≤ start ∧ start ≤ 900) (hl : 0 ≤ line ∧ line < 30) (hI : mnyI T b n N0 M0 start line j s s') :
    okp (p_DR_readMany_L27 f (10 * a + c) start s) (fun y => okp (p_M_readsLine_L76 f a c start s') (fun y' => psum2 (mnyI T b n N0 M0 start line (j + 1)) (ftQ wdC wdM N0 M0 (lnP T b n N0 M0 (line + 1))) y y')) := by
  obtain ⟨m, k, N⟩ := s
  obtain ⟨m', M⟩ := s'
  obtain ⟨i1, i2, i3, i4, i5, i6, i7⟩ := hI
  simp only at i1 i2 i3 i4 i5 i6 i7
  subst i1 i2
  have hr := id i3
  obtain ⟨r1, r2, r3, r4, r5, r6, r7⟩ := i3
  have hch := rdC_ch r1
  have hbd := chT_bd r1
  have hh := e_M_here (f := f) r2
  have hj2 : (j : Int) < 2 := nat_lt hj
  unfold p_DR_readMany_L27 p_M_readsLine_L76
  simp only []
  rw [if_pos hj2, e_T_digit hch.1, Option.bind_some, e_M_digit hh, Option.bind_some]
  by_cases q : 48 ≤ chT b n (start + j) ∧ chT b n (start + j) ≤ 57
  · have hpn : start + j < n := chT_in (b := b) (p := start + j) (by omega)
    obtain ⟨N', e1, e2, e3⟩ := e_T_step1 (f := f) r1 hpn
    have hm9 : m' ≤ 9 := by
      by_cases z : j = 0
      · have h0 : (j : Int) = 0 := by omega
        rw [h0, Int.add_zero] at q
        rcases i5 z with y | y
        · omega
        · exact absurd q y.2
      · exact i6 (by omega)
    have hm0 : j = 0 → m' = 0 := by
      intro z
      have h0 : (j : Int) = 0 := by omega
      rw [h0, Int.add_zero] at q
      rcases i5 z with y | y
      · exact y
      · exact absurd q y.2
    rw [if_pos q, if_neg (show ¬ ((1 : Int), N).fst = 0 from fun z => absurd (show (1 : Int) = 0 from z) (by decide)), if_neg (show ¬ ((1 : Int), M).fst = 0 from fun z => absurd (show (1 : Int) = 0 from z) (by decide))]
    unfold p_T_next
    rw [Option.bind_some, show ((1 : Int), N).snd 1 4 = chT b n (start + j) from hch.1, show ((1 : Int), M).snd 57 8 = start + j from r2.2.2.2.1, w32_of (a := start + 2) (by omega) (by omega), if_pos (show start + (j : Int) < start + 2 by omega), show p_M_here f ((1 : Int), M).snd = some (chT b n (start + j), M) from hh, Option.bind_some]
    generalize hcv : chT b n (start + j) = v at *
    have w1 : w32 (w32 (w32 (m' * 10) + v) - 48) = 10 * m' + v - 48 := by
      rw [w32_of (a := m' * 10) (by omega) (by omega), w32_of (a := m' * 10 + v) (by omega) (by omega), w32_of (by omega) (by omega)]; omega
    have w2 : w32 (w32 (w32 (10 * m') + v) - 48) = 10 * m' + v - 48 := by
      rw [w32_of (a := 10 * m') (by omega) (by omega), w32_of (a := 10 * m' + v) (by omega) (by omega), w32_of (by omega) (by omega)]
    rw [show (v, ((1 : Int), N).snd).fst = v from rfl, w1, lt_eq, show p_T_step f (v, ((1 : Int), N).snd).snd = some (0, N') from e1, Option.bind_some, lt_eq, show w32 ((j : Int) + 1) = ((j + 1 : Nat) : Int) from w32nat (Nat.lt_trans hj (by decide)), w2, lt_eq, show (v, M).snd 57 8 = start + j from r2.2.2.2.1, w32_of (a := start + (j : Int) + 1) (by omega) (by omega), lt_eq]
    refine ⟨rfl, rfl, ?_, ?_, ?_, ?_, ?_⟩
    · show dbR T b n N0 M0 (start + ((j + 1 : Nat) : Int)) line N' (oU M 57 8 (start + (j : Int) + 1))
      rw [show start + ((j + 1 : Nat) : Int) = start + (j : Int) + 1 from by omega]
      refine ⟨e2, rdM_next r2 (by omega), by omega, ⟨fun i i0 i1 => ?_, fun x y x0 x1 y0 y1 hp => ?_⟩, (oU_i (by decide)).trans r5, eqo_tr (subw_cons (.head _) (subw_cons (.tail _ (.head _)) subw_nil)) r6 e3, eqo_oU (.head _) r7⟩
      · rw [eqo_a e3 38 rfl, oU_o (by decide)]; exact r4.1 i i0 i1
      · rw [eqo_a e3 38 rfl] at hp; exact r4.2 x y x0 x1 y0 y1 hp
    · show 0 ≤ 10 * m' + v - 48; omega
    · intro z; exact absurd z (Nat.succ_ne_zero j)
    · intro z
      have := hm0 (by omega)
      show 10 * m' + v - 48 ≤ 9
      omega
    · intro z
      show 10 * m' + v - 48 ≤ 99
      omega
  · rw [if_neg q, if_pos (show ((0 : Int), N).fst = 0 from rfl), if_pos (show ((0 : Int), M).fst = 0 from rfl)]
    have hm : 0 ≤ m' ∧ m' ≤ 99 := by
      by_cases z : j = 0
      · rcases i5 z with y | y
        · omega
        · omega
      · have := i6 (by omega); omega
    obtain ⟨y, y', k1, k2, k3⟩ := many_end (f := f) (start := start) hr ha hc ht hm (by omega) hl
    rw [k1, k2]
    exact k3
theorem many_last {f T : Nat} {b : Int → Int} {n line a c start : Int} {N0 M0 : oM} {s : Int × Int × oM} {s' : Int × oM} (ha : 0 ≤ a ∧ a < 10) (hc : 0 ≤ c ∧ c < 10) (ht : tld T a ∧ tld T c ∧ a ≠ c) (hst : 0 ≤ start ∧ start ≤ 900) (hl : 0 ≤ line ∧ line < 30) (hI : mnyI T b n N0 M0 start line 2 s s') :
    okp (p_DR_readMany_L27 f (10 * a + c) start s) (fun y => okp (p_M_readsLine_L76 f a c start s') (fun y' => psum2 (fun _ _ => False) (ftQ wdC wdM N0 M0 (lnP T b n N0 M0 (line + 1))) y y')) := by
  obtain ⟨m, k, N⟩ := s
  obtain ⟨m', M⟩ := s'
  obtain ⟨i1, i2, i3, i4, i5, i6, i7⟩ := hI
  simp only at i1 i2 i3 i4 i5 i6 i7
  subst i1 i2
  have hr := id i3
  obtain ⟨r1, r2, r3, r4, r5, r6, r7⟩ := i3
  have hh := e_M_here (f := f) r2
  obtain ⟨y, y', k1, k2, k3⟩ := many_end (f := f) (start := start) hr ha hc ht ⟨i4, i7 trivial⟩ (by omega) hl
  unfold p_DR_readMany_L27 p_M_readsLine_L76
  simp only []
  rw [if_neg (show ¬ (((2 : Nat) : Int) < 2) by decide), k1, e_M_digit hh, Option.bind_some]
  by_cases q : 48 ≤ chT b n (start + ((2 : Nat) : Int)) ∧ chT b n (start + ((2 : Nat) : Int)) ≤ 57
  · rw [if_pos q, if_neg (show ¬ ((1 : Int), M).fst = 0 from fun z => absurd (show (1 : Int) = 0 from z) (by decide)), show ((1 : Int), M).snd 57 8 = start + ((2 : Nat) : Int) from r2.2.2.2.1, w32_of (a := start + 2) (by omega) (by omega), if_neg (show ¬ start + ((2 : Nat) : Int) < start + 2 by omega), show p_M_readsLine_B121_76 f a c start m' ((1 : Int), M).snd = some (.inr y') from k2]
    exact k3
  · rw [if_neg q, if_pos (show ((0 : Int), M).fst = 0 from rfl), show p_M_readsLine_B121_76 f a c start m' ((0 : Int), M).snd = some (.inr y') from k2]
    exact k3
theorem many_ok {f T : Nat} {b : Int → Int} {n line a c start m : Int} {N0 M0 N M : oM} (hf : 2000 < f) (ha : 0 ≤ a ∧ a < 10) (hc : 0 ≤ c ∧ c < 10) (ht : tld T a ∧ tld T c ∧ a ≠ c) (hl : 0 ≤ line ∧ line < 30) (hR : dbR T b n N0 M0 start line N M) (hm : m = if 48 ≤ chT b n start ∧ chT b n start ≤ 57 then 0 else 1) :
    okp (p_DR_readMany_B23 f (10 * a + c) start m N) (fun y => okp (p_M_readsLine_B74 f a c start m M) (fun y' => ftQ wdC wdM N0 M0 (lnP T b n N0 M0 (line + 1)) y y')) := by
  have hch := rdC_ch hR.1
  have hst : 0 ≤ start ∧ start ≤ 900 := ⟨hch.2.2.2.1.1, by have := hR.2.2.1; have := hch.2.2.2.2.2; omega⟩
  unfold p_DR_readMany_B23 p_M_readsLine_B74
  refine for2_ok 2 (mnyI T b n N0 M0 start line) (fun j s s' hj hI => many_step hj ha hc ht hst hl hI) (fun s s' hI => many_last ha hc ht hst hl hI) f f (Nat.lt_trans (by decide) hf) (Nat.lt_trans (by decide) hf) ⟨rfl, rfl, ?_, ?_, fun _ => ?_, fun z => absurd z (by decide), fun z => absurd z (by decide)⟩
  · show dbR T b n N0 M0 (start + ((0 : Nat) : Int)) line N M
    rw [show start + ((0 : Nat) : Int) = start from Int.add_zero start]
    exact hR
  · show 0 ≤ m
    rw [hm]; split <;> decide
  · show m = 0 ∨ (m = 1 ∧ _)
    by_cases q : 48 ≤ chT b n start ∧ chT b n start ≤ 57
    · rw [if_pos q] at hm; exact .inl hm
    · rw [if_neg q] at hm; exact .inr ⟨hm, q⟩
