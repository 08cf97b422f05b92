/-! THE LAW: a condition by both -/
theorem ldN_29' {N : oM} {x z i : Int} (h : x ≠ -1 → i ≠ x) : (ldN N x z) 29 i = N 29 i := by
  by_cases q : x = -1
  · unfold ldN; rw [if_pos q]
  · exact ldN_29 (h q)
theorem ldM_64' {M : oM} {x z w c i : Int} (h : x ≠ -1 → i ≠ x) : (ldM M x z w c) 64 i = M 64 i := by
  by_cases q : x = -1
  · unfold ldM; rw [if_pos q]
  · exact ldM_64 (h q)
theorem ldN_z {N : oM} {x z : Int} : (ldN N x z) 27 9 = N 27 9 := by
  unfold ldN
  by_cases q : x = -1
  · rw [if_pos q]
  · rw [if_neg q, oU_o (by decide)]
theorem e_B69and {f : Nat} {rec : Int → oM → Option (Int × oM)} {op la lo k z : Int} {N N' : oM} (hs : p_T_step f N = some (0, N')) (hz : N' 27 9 = z) (hzb : 0 ≤ z ∧ z < 240) (hla : la ≠ -1 → 0 ≤ la ∧ la < z ∧ la < 240) (hk : 0 ≤ k ∧ k < 240) : p_LR_readCondition_B69_7 f rec op la lo k 38 N = some (.inl (z, lo, k + 1, putN (ldN N' la z) z 38 z)) := by
  have h1 : (ldN N' la z) 27 9 = z := ldN_z.trans hz
  unfold p_LR_readCondition_B69_7 p_LR_readCondition_B147_7
  rw [hs, Option.bind_some, show p_L_landHere f la ((0 : Int), N').snd = _ from e_landHere hz hla, Option.bind_some, if_pos rfl, show ((0 : Int), ldN N' la z).snd 27 9 = z from h1, show p_L_put f 38 z ((0 : Int), ldN N' la z).snd = _ from e_put h1 hzb, Option.bind_some, w32_of (a := k + 1) (by omega) (by omega), lt_eq]
theorem e_B69or {f : Nat} {rec : Int → oM → Option (Int × oM)} {op la lo k z c : Int} {N N' : oM} (hs : p_T_step f N = some (0, N')) (hz : N' 27 9 = z) (hzb : 0 ≤ z ∧ z < 240) (hla : la ≠ -1 → 0 ≤ la ∧ la < z ∧ la < 240) (hlo : lo ≠ -1 → 0 ≤ lo ∧ lo < z ∧ lo < 240) (hk : 0 ≤ k ∧ k < 240) (hc : c = 124) : p_LR_readCondition_B69_7 f rec op la lo k c N = some (.inl (-1, z, k + 1, putN (ldN (ldN N' la z) lo z) z 124 z)) := by
  have h1 : (ldN N' la z) 27 9 = z := ldN_z.trans hz
  have h2 : (ldN (ldN N' la z) lo z) 27 9 = z := ldN_z.trans h1
  unfold p_LR_readCondition_B69_7 p_LR_readCondition_B147_7
  rw [hs, Option.bind_some, show p_L_landHere f la ((0 : Int), N').snd = _ from e_landHere hz hla, Option.bind_some, if_neg (by omega), show p_L_landHere f lo ((0 : Int), ldN N' la z).snd = _ from e_landHere h1 hlo, Option.bind_some, if_neg (by omega), show ((0 : Int), ldN (ldN N' la z) lo z).snd 27 9 = z from h2, show p_L_put f 124 z ((0 : Int), ldN (ldN N' la z) lo z).snd = _ from e_put h2 hzb, Option.bind_some, w32_of (a := k + 1) (by omega) (by omega), lt_eq]
theorem e_B69end {f : Nat} {rec : Int → oM → Option (Int × oM)} {op la lo k z c : Int} {N N' : oM} (hs : p_T_step f N = some (0, N')) (hz : N' 27 9 = z) (hla : la ≠ -1 → 0 ≤ la ∧ la < z ∧ la < 240) (hlo : lo ≠ -1 → 0 ≤ lo ∧ lo < z ∧ lo < 240) (hc : c = 41) : p_LR_readCondition_B69_7 f rec op la lo k c N = some (.inr (0, ldN (ldN N' la z) lo z)) := by
  have h1 : (ldN N' la z) 27 9 = z := ldN_z.trans hz
  unfold p_LR_readCondition_B69_7
  rw [hs, Option.bind_some, show p_L_landHere f la ((0 : Int), N').snd = _ from e_landHere hz hla, Option.bind_some, if_neg (by omega), show p_L_landHere f lo ((0 : Int), ldN N' la z).snd = _ from e_landHere h1 hlo, Option.bind_some, if_pos hc]
theorem e_cdL7 {f : Nat} {rec : Int → oM → Option (Int × oM)} {b : Int → Int} {n p op la lo k c : Int} {N : oM} (h : rdC b n N p) (hcc : chT b n p = c) (hc : c = 38 ∨ c = 124 ∨ c = 41) : ((p_T_next f N).bind fun q9 =>
  if q9.1 = 38 then (p_LR_readCondition_B69_7 f rec op la lo k q9.1 q9.2)
  else (if q9.1 = 124 then (p_LR_readCondition_B69_7 f rec op la lo k q9.1 q9.2)
  else (if q9.1 = 41 then (p_LR_readCondition_B69_7 f rec op la lo k q9.1 q9.2)
  else ((p_T_fault f 1 q9.2).bind fun q10 => some (.inr (q10.1, q10.2)))))) = p_LR_readCondition_B69_7 f rec op la lo k c N := by
  rw [e_next h, Option.bind_some, hcc]
  by_cases q1 : c = 38
  · rw [if_pos (show (c, N).fst = 38 from q1)]
  · rw [if_neg (show ¬ (c, N).fst = 38 from q1)]
    by_cases q2 : c = 124
    · rw [if_pos (show (c, N).fst = 124 from q2)]
    · rw [if_neg (show ¬ (c, N).fst = 124 from q2), if_pos (show (c, N).fst = 41 from by show c = 41; omega)]
def cdI (f : Nat) (b : Int → Int) (n : Int) (N0 M0 : oM) (p0 z0 e w0 op : Int) (Ns Ms : oM) (k : Nat) (s : Int × Int × Int × oM) : Prop := s.2.2.1 = (k : Int) ∧ ∃ p z M, p0 + 2 * (k : Int) ≤ p ∧ nuR b n N0 M0 p z e (w0 + cn s.2.1 + cn s.1) op s.2.2.2 M ∧ J z0 z s.2.1 s.1 s.2.2.2 M ∧ oldE z0 Ns Ms s.2.2.2 M ∧ wtE w0 Ms M ∧ wts M w0 s.2.1 s.1 ∧ ∀ R, TT f (300 - p) M R → TT f (300 - p0) Ms R
theorem wts_top {M : oM} {w0 lo la : Int} (h : wts M w0 lo la) (hw : 1 ≤ w0) (hlo : lo ≠ -1 → 0 ≤ lo ∧ lo < 240) (hla : la ≠ -1 → 0 ≤ la ∧ la < 240) : ∃ t, topIs M (w0 + cn lo + cn la) t ∧ 10 < t := by
  have b1 := cn_bd lo
  by_cases q : la = -1
  · have e1 : cn la = 0 := if_pos q
    rw [e1, Int.add_zero]
    by_cases q2 : lo = -1
    · have e2 : cn lo = 0 := if_pos q2
      rw [e2, Int.add_zero]
      exact ⟨13, topIs_at hw (by decide) h.1, by decide⟩
    · have e2 : cn lo = 1 := if_neg q2
      have := hlo q2
      rw [e2]
      exact ⟨12, .inr ⟨by omega, by decide, lo, by omega, by rw [show w0 + 1 - 1 = w0 from by omega]; exact h.2.1 q2⟩, by decide⟩
  · have e1 : cn la = 1 := if_neg q
    have := hla q
    rw [e1]
    exact ⟨11, .inr ⟨by omega, by decide, la, by omega, by rw [show w0 + cn lo + 1 - 1 = w0 + cn lo from by omega]; exact h.2.2 q⟩, by decide⟩
theorem wts_wt {M M1 : oM} {w0 lo la : Int} (h : wts M w0 lo la) (hw : wtE (w0 + cn lo + cn la) M M1) : wts M1 w0 lo la := by
  have b1 := cn_bd lo
  have b2 := cn_bd la
  refine ⟨(hw _ (by omega)).trans h.1, fun q => ?_, fun q => ?_⟩
  · have e : cn lo = 1 := if_neg q
    exact (hw _ (by omega)).trans (h.2.1 q)
  · have e : cn la = 1 := if_neg q
    exact (hw _ (by omega)).trans (h.2.2 q)
theorem cd_bd {z0 z lo la : Int} {N M : oM} (hJ : J z0 z lo la N M) (h0 : 0 ≤ z0) (hz : z ≤ 240) : (lo ≠ -1 → z0 ≤ lo ∧ 0 ≤ lo ∧ lo < z ∧ lo < 240) ∧ (la ≠ -1 → z0 ≤ la ∧ 0 ≤ la ∧ la < z ∧ la < 240 ∧ la ≠ lo) := by
  obtain ⟨j1, j2, j3, j4, j5⟩ := hJ
  have hA := stA_le j2
  refine ⟨fun q => ?_, fun q => ?_⟩
  · have := j2 q
    omega
  · have h4 := j4 q
    by_cases ql : lo = -1
    · omega
    · have := hA.2 ql
      omega
theorem cd_step {f k : Nat} {b : Int → Int} {n p0 z0 e w0 op : Int} {N0 M0 Ns Ms : oM} {rec : Int → oM → Option (Int × oM)} {s : Int × Int × Int × oM} (hf : 2000 < f) (hp0 : 0 ≤ p0) (he : 0 ≤ e) (hz0 : 0 ≤ z0) (hw0 : 1 ≤ w0) (hop : 1 ≤ op ∧ op ≤ 6) (hrec : chQ f b n N0 M0 op rec) (hI : cdI f b n N0 M0 p0 z0 e w0 op Ns Ms k s) :
    okp (p_LR_readCondition_L7 f rec op s) (psum (cdI f b n N0 M0 p0 z0 e w0 op Ns Ms (k + 1)) (cndQ f b n N0 M0 p0 z0 e w0 op Ns Ms)) := by
  obtain ⟨i1, p, z, M, i2, i3, i4, i5, i6, i7, i8⟩ := hI
  obtain ⟨la, lo, k', N⟩ := s
  simp only at i1 i3 i4 i5 i7
  rw [i1]
  have hn240 := i3.2.2.1
  have hz240 := i3.2.2.2.1
  have hwb := i3.2.2.2.2.1
  have b1 := cn_bd lo
  have b2 := cn_bd la
  have hbd := cd_bd i4 hz0 (by omega)
  have hk : (k : Int) < 240 := by omega
  unfold p_LR_readCondition_L7
  simp only []
  rw [if_pos hk]
  obtain ⟨t, ht, ht2⟩ := wts_top i7 hw0 (fun q => by have := hbd.1 q; omega) (fun q => by have := hbd.2 q; omega)
  refine okp_bind' (okp_mono (tst_ok (rec := rec) hf i3 (by omega) ht ht2 hrec) fun q hq => ?_)
  rcases hq with ⟨g1, g2, M'', g3, g4, g5⟩ | ⟨g1, p1, z1, M1, g2, g3, g4, g5, g6⟩
  · rw [if_neg (Int.ne_of_lt g1)]
    exact Or.inl ⟨g1, g2, M'', i8 _ g3, g4, g5⟩
  · rw [if_pos g1]
    have c1 := g3.1
    have c2 := g3.2.1
    have c3 := g3.2.2.1
    have c4 := g3.2.2.2.1
    have c5 := g3.2.2.2.2.1
    have c6 := g3.2.2.2.2.2.1
    have c8 := g3.2.2.2.2.2.2.2
    have hz1 := g4.1
    have hwt1 := wts_wt i7 g5
    have hla : la ≠ -1 → 0 ≤ la ∧ la < 240 ∧ M1 64 la = 1048576 * 11 := fun q => by
      have h := hbd.2 q
      refine ⟨h.2.1, h.2.2.2.1, ?_⟩
      rw [(g4.2.1 la h.2.2.1).2.2]
      exact (i4.2.2.2.1 q).2.2.2.1
    have hlo : lo ≠ -1 → 0 ≤ lo ∧ lo < 240 ∧ M1 64 lo = 1048576 * 12 := fun q => by
      have h := hbd.1 q
      refine ⟨h.2.1, h.2.2.2, ?_⟩
      rw [(g4.2.1 lo h.2.2.1).2.2]
      exact (i4.2.1 q).2.2.2.1
    have hla' : la ≠ -1 → 0 ≤ la ∧ la < z1 ∧ la < 240 := fun q => by have := hbd.2 q; omega
    have hlo' : lo ≠ -1 → 0 ≤ lo ∧ lo < z1 ∧ lo < 240 := fun q => by have := hbd.1 q; omega
    have hne : la ≠ -1 → la ≠ lo := fun q => (hbd.2 q).2.2.2.2
    have hL0 := lands0 (f := f) hf c5.1 c4.2.1 (by omega) (by omega) hwt1 (fun q => by have := hlo q; omega) hla
    have hL1 := lands1 (f := f) hf c5.1 c4.2.1 (by omega) (by omega) hwt1 hlo hla hne
    have ew1 : w0 + cn lo + cn la - cn la = w0 + cn lo := by omega
    have ew2 : w0 + cn lo - cn lo = w0 := by omega
    by_cases qs : chT b n p1 = 38 ∨ chT b n p1 = 124 ∨ chT b n p1 = 41
    · have hpn : p1 < n := chT_in (b := b) (p := p1) (by omega)
      rw [e_cdL7 c1 rfl qs]
      by_cases q38 : chT b n p1 = 38
      · obtain ⟨N2, s1, s2, s3, s4⟩ := nx_step (f := f) (e' := e + 1) g3 hpn (by omega)
        have hJ2 := J_landA (w := w0 + cn lo + cn la) i4 (ext_right g4 s3 s4 rfl) hz0 (by omega)
        have x2 := nx_land (c := 11) (x := la) s2 (fun q => by have e1 : cn la = 1 := if_neg q; omega)
        rw [ew1] at x2
        have x3 := nx_jump (x := 38) (y := z1) (c := 11) x2 he (by omega)
        rw [q38, e_B69and s1 s2.2.2.2.1.1 (by omega) hla' (by omega)]
        have ez : cn z1 = 1 := if_neg (by omega)
        obtain ⟨jm1, jm2, jm3, jm4⟩ := jpM_at (M := ldM M1 la z1 (w0 + cn lo + cn la) 11) (z := z1) (c := 11) (w := w0 + cn lo) (p := p1)
        obtain ⟨pn1, pn2, pn3⟩ := putN_at (N := ldN N2 la z1) (z := z1) (x := 38) (y := z1)
        refine ⟨by show (k : Int) + 1 = ((k + 1 : Nat) : Int); omega, p1 + 1, z1 + 1, _, by omega, ?_, J_and hJ2 hz0 hJ2.2.2.1.1, fun i hi => ?_, fun j hj => ?_, ⟨?_, fun q => ?_, fun q => jm3⟩, fun R hS => i8 R (g6 R ?_)⟩
        · show nuR b n N0 M0 (p1 + 1) (z1 + 1) e (w0 + cn lo + cn z1) op _ _
          rw [ez]; exact x3
        · have e1 := i5 i hi
          have e2 := g4.2.1 i (by have := i4.1; omega)
          have e3 := pn3 i (by have := i4.1; omega)
          refine ⟨?_, ?_, ?_⟩
          · show putN (ldN N2 la z1) z1 38 z1 28 i = _
            rw [e3.1, ldN_28, s3, e2.1, e1.1]
          · show putN (ldN N2 la z1) z1 38 z1 29 i = _
            rw [e3.2, ldN_29' (fun q => by have := hbd.2 q; omega), s4, e2.2.1, e1.2.1]
          · rw [jm2 i (by have := i4.1; omega), ldM_64' (fun q => by have := hbd.2 q; omega), e2.2.2, e1.2.2]
        · rw [jm4 j (by omega), ldM_65, g5 j (by omega), i6 j hj]
        · rw [jm4 _ (by omega), ldM_65]; exact hwt1.1
        · have e1 : cn lo = 1 := if_neg q
          rw [jm4 _ (by omega), ldM_65]; exact hwt1.2.1 q
        · exact TB_and c2 q38 hL0 x2.2.1 (e_jumps x2.2.2.2.2.1.1 x2.2.2.2.1.2.1 x2.2.1.2.2.2.1 (by omega) (by omega) (by omega) (by decide)) (by omega) hS
      · by_cases q124 : chT b n p1 = 124
        · obtain ⟨N2, s1, s2, s3, s4⟩ := nx_step (f := f) (e' := e + 1) g3 hpn (by omega)
          have hJ2 := J_landA (w := w0 + cn lo + cn la) i4 (ext_right g4 s3 s4 rfl) hz0 (by omega)
          have hJ3 := J_landO (w := w0 + cn lo) hJ2 hz0 (by omega)
          have x2 := nx_land (c := 11) (x := la) s2 (fun q => by have e1 : cn la = 1 := if_neg q; omega)
          rw [ew1] at x2
          have x2b := nx_land (c := 12) (x := lo) x2 (fun q => by have e1 : cn lo = 1 := if_neg q; omega)
          rw [ew2] at x2b
          have x3 := nx_jump (x := 124) (y := z1) (c := 12) x2b he (by omega)
          rw [e_B69or s1 s2.2.2.2.1.1 (by omega) hla' hlo' (by omega) q124]
          have ez : cn z1 = 1 := if_neg (by omega)
          obtain ⟨jm1, jm2, jm3, jm4⟩ := jpM_at (M := ldM (ldM M1 la z1 (w0 + cn lo + cn la) 11) lo z1 (w0 + cn lo) 12) (z := z1) (c := 12) (w := w0) (p := p1)
          obtain ⟨pn1, pn2, pn3⟩ := putN_at (N := ldN (ldN N2 la z1) lo z1) (z := z1) (x := 124) (y := z1)
          refine ⟨by show (k : Int) + 1 = ((k + 1 : Nat) : Int); omega, p1 + 1, z1 + 1, _, by omega, ?_, J_or hJ3.1 hJ3.2 hz0 (by have := i4.1; omega), fun i hi => ?_, fun j hj => ?_, ⟨?_, fun q => jm3, fun q => absurd rfl q⟩, fun R hS => i8 R (g6 R ?_)⟩
          · show nuR b n N0 M0 (p1 + 1) (z1 + 1) e (w0 + cn z1 + 0) op _ _
            rw [ez, Int.add_zero]; exact x3
          · have e1 := i5 i hi
            have e2 := g4.2.1 i (by have := i4.1; omega)
            have e3 := pn3 i (by have := i4.1; omega)
            refine ⟨?_, ?_, ?_⟩
            · show putN (ldN (ldN N2 la z1) lo z1) z1 124 z1 28 i = _
              rw [e3.1, ldN_28, ldN_28, s3, e2.1, e1.1]
            · show putN (ldN (ldN N2 la z1) lo z1) z1 124 z1 29 i = _
              rw [e3.2, ldN_29' (fun q => by have := hbd.1 q; omega), ldN_29' (fun q => by have := hbd.2 q; omega), s4, e2.2.1, e1.2.1]
            · rw [jm2 i (by have := i4.1; omega), ldM_64' (fun q => by have := hbd.1 q; omega), ldM_64' (fun q => by have := hbd.2 q; omega), e2.2.2, e1.2.2]
          · rw [jm4 j (by omega), ldM_65, ldM_65, g5 j (by omega), i6 j hj]
          · rw [jm4 _ (by omega), ldM_65, ldM_65]; exact hwt1.1
          · exact TB_or c2 q124 hL1 x2b.2.1 (e_jumps x2b.2.2.2.2.1.1 x2b.2.2.2.1.2.1 x2b.2.1.2.2.2.1 (by omega) (by omega) (by omega) (by decide)) (by omega) hS
        · have q41 : chT b n p1 = 41 := by omega
          obtain ⟨N2, s1, s2, s3, s4⟩ := nx_step (f := f) (e' := e) g3 hpn (by omega)
          have hJ2 := J_landA (w := w0 + cn lo + cn la) i4 (ext_right g4 s3 s4 rfl) hz0 (by omega)
          have hJ3 := J_landO (w := w0 + cn lo) hJ2 hz0 (by omega)
          have x2 := nx_land (c := 11) (x := la) s2 (fun q => by have e1 : cn la = 1 := if_neg q; omega)
          rw [ew1] at x2
          have x2b := nx_land (c := 12) (x := lo) x2 (fun q => by have e1 : cn lo = 1 := if_neg q; omega)
          rw [ew2] at x2b
          have x3 := nx_close x2b hw0 hop.1
          have hLc := L92_close c2 q41 hL1 x2b.2.2.2.2.1.1 x2b.2.2.2.2.2.1.1 x2b.2.1.2.2.2.1 (by omega)
          rw [e_B69end s1 s2.2.2.2.1.1 hla' hlo' q41]
          obtain ⟨M3, hM3⟩ : ∃ M3, M3 = ldM (ldM M1 la z1 (w0 + cn lo + cn la) 11) lo z1 (w0 + cn lo) 12 := ⟨_, rfl⟩
          rw [← hM3] at hLc x3 hJ3
          have e64 : clM M3 w0 op p1 64 = M3 64 := by unfold clM; rw [oU_row (by decide), oU_row (by decide), oU_row (by decide)]
          have e65 : clM M3 w0 op p1 65 = M3 65 := by unfold clM; rw [oU_row (by decide), oU_row (by decide), oU_row (by decide)]
          refine Or.inr ⟨rfl, p1 + 1, z1, clM M3 w0 op p1, by omega, x3, ⟨by have := i4.1; omega, fun i hi => ?_, ?_, hJ3.2⟩, fun j hj => ?_, fun h1 => ?_, fun h1 M5 R h2 h3 => ?_⟩
          · have e1 := i5 i hi
            have e2 := g4.2.1 i (by have := i4.1; omega)
            refine ⟨?_, ?_, ?_⟩
            · show ldN (ldN N2 la z1) lo z1 28 i = _
              rw [ldN_28, ldN_28, s3, e2.1, e1.1]
            · show ldN (ldN N2 la z1) lo z1 29 i = _
              rw [ldN_29' (fun q => by have := hbd.1 q; omega), ldN_29' (fun q => by have := hbd.2 q; omega), s4, e2.2.1, e1.2.1]
            · rw [e64, hM3, ldM_64' (fun q => by have := hbd.1 q; omega), ldM_64' (fun q => by have := hbd.2 q; omega), e2.2.2, e1.2.2]
          · unfold cdR
            rw [e64]
            exact hJ3.1
          · rw [e65, hM3, ldM_65, ldM_65, g5 j (by omega), i6 j (by omega)]
          · rw [if_pos h1] at hLc
            exact i8 _ (g6 _ (TB_close1 hLc (by omega)))
          · rw [if_neg h1, h2, Option.bind_some] at hLc
            exact i8 _ (g6 _ (TB_close2 hLc (by omega) h3))
    · have hch := rdC_ch c1
      rw [e_next c1, Option.bind_some, if_neg (show ¬ (chT b n p1, q.2).fst = 38 from by show ¬ chT b n p1 = 38; omega), if_neg (show ¬ (chT b n p1, q.2).fst = 124 from by show ¬ chT b n p1 = 124; omega), if_neg (show ¬ (chT b n p1, q.2).fst = 41 from by show ¬ chT b n p1 = 41; omega), show p_T_fault f 1 (chT b n p1, q.2).snd = _ from e_T_fault hch.2.1 (by decide) hch.2.2.2.1, Option.bind_some]
      exact Or.inl ⟨by show -1000 * 1 - p1 < 0; omega, nu_fl g3, oU M1 57 10 (-1000 * 1 - p1), i8 _ (g6 _ (TB_bad c2 (by omega) (by omega))), oU_at, wrongM (N0 := N0) c8⟩
