/-! the clock: a day begins, one sets out, an hour goes -/
theorem grow_all {f o T : Nat} {h : Int} {P : Prop} {Mc Mr : oM} (hf : 1000 < f) (ho : o ≤ 14 ∧ 6 ≤ o) (hR : tkR T h o Mc Mr) (hc : cnt P Mc Mr) :
    okp (iter (p_C_beginDay_L46 f o) f (0, Mc)) (fun q => okp (iter (p_M_dayBegins_L78 f) f (0, Mr)) (fun q' => tkR T h o q.2 q'.2 ∧ cnt P q.2 q'.2)) := by
  have inner : ∀ (a : Nat) (N M' : oM), a < 10 → stN (p_C_beginDay_L46 f o) (10 * a) (0, Mc) = some (10 * (a : Int), N) → tkR T h o N M' → cnt P N M' →
      okp (iter (p_M_dayBegins_L86 f a) f (0, M')) (fun M2 => ∃ N2, stN (p_C_beginDay_L46 f o) (10 * a + 10) (0, Mc) = some (10 * (a : Int) + 10, N2) ∧ tkR T h o N2 M2 ∧ cnt P N2 M2) := by
    intro a N M' ha hs hR' hc'
    refine for_ok 10 (fun b s => s.1 = (b : Int) ∧ ∃ N2, stN (p_C_beginDay_L46 f o) (10 * a + b) (0, Mc) = some (10 * (a : Int) + b, N2) ∧ tkR T h o N2 s.2 ∧ cnt P N2 s.2) ?_ ?_ f (by omega) ⟨rfl, N, by rw [Nat.add_zero, show (10 * (a : Int) + ((0 : Nat) : Int)) = 10 * (a : Int) from by omega]; exact hs, hR', hc'⟩
    · intro b ⟨x, M1⟩ hb hI
      have hI' : x = (b : Int) ∧ ∃ N2, stN (p_C_beginDay_L46 f o) (10 * a + b) (0, Mc) = some (10 * (a : Int) + b, N2) ∧ tkR T h o N2 M1 ∧ cnt P N2 M1 := hI
      obtain ⟨hx, N2, h1, h2, h3⟩ := hI'
      subst hx
      obtain ⟨N3, M3, e1, e2, h4, h5⟩ := grow_one (f := f) (a := a) (b := b) hf ho h2 h3 ⟨by omega, by omega⟩ ⟨by omega, by omega⟩
      rw [e2]
      refine ⟨by show (b : Int) + 1 = ((b + 1 : Nat) : Int); omega, N3, ?_, h4, h5⟩
      have := stN_succ h1 e1
      rw [show 10 * a + (b + 1) = 10 * a + b + 1 from by omega, show (10 * (a : Int) + ((b + 1 : Nat) : Int)) = 10 * (a : Int) + b + 1 from by omega]
      exact this
    · intro ⟨x, M1⟩ hI
      have hx : x = ((10 : Nat) : Int) := hI.1
      unfold p_M_dayBegins_L86
      simp only []
      rw [if_neg (by omega)]
      exact hI.2
  have outer : okp (iter (p_M_dayBegins_L78 f) f (0, Mr)) (fun q' => ∃ N, stN (p_C_beginDay_L46 f o) 100 (0, Mc) = some (100, N) ∧ tkR T h o N q'.2 ∧ cnt P N q'.2) := by
    refine for_ok 10 (fun a s => s.1 = (a : Int) ∧ ∃ N2, stN (p_C_beginDay_L46 f o) (10 * a) (0, Mc) = some (10 * (a : Int), N2) ∧ tkR T h o N2 s.2 ∧ cnt P N2 s.2) ?_ ?_ f (by omega) ⟨rfl, Mc, rfl, hR, hc⟩
    · intro a ⟨x, M1⟩ ha hI
      have hI' : x = (a : Int) ∧ ∃ N2, stN (p_C_beginDay_L46 f o) (10 * a) (0, Mc) = some (10 * (a : Int), N2) ∧ tkR T h o N2 M1 ∧ cnt P N2 M1 := hI
      obtain ⟨hx, N2, h1, h2, h3⟩ := hI'
      subst hx
      unfold p_M_dayBegins_L78
      simp only []
      rw [if_pos (by omega)]
      refine okp_bind' (okp_mono (inner a N2 M1 ha h1 h2 h3) ?_)
      intro M2 ⟨N3, g1, g2, g3⟩
      unfold p_M_dayBegins_X86
      rw [lt_eq, w32_of (by omega) (by omega)]
      refine ⟨by show (a : Int) + 1 = ((a + 1 : Nat) : Int); omega, N3, ?_, g2, g3⟩
      rw [show 10 * (a + 1) = 10 * a + 10 from by omega, show (10 * ((a + 1 : Nat) : Int)) = 10 * (a : Int) + 10 from by omega]
      exact g1
    · intro ⟨x, M1⟩ hI
      have hx : x = ((10 : Nat) : Int) := hI.1
      unfold p_M_dayBegins_L78
      simp only []
      rw [if_neg (by omega)]
      obtain ⟨N2, h1, h2, h3⟩ := hI.2
      exact ⟨N2, h1, h2, h3⟩
  obtain ⟨q', eq', N, h1, h2, h3⟩ := okp_ex outer
  have hfin : iter (p_C_beginDay_L46 f o) f (0, Mc) = some (0, N) := by
    rw [show f = f - 101 + 1 + 100 from by omega]
    rw [show f - 101 + 1 + 100 = f from by omega]
    have : iter (p_C_beginDay_L46 f o) (f - 101 + 1 + 100) (0, Mc) = some (0, N) := by
      rw [stN_iter h1]
      refine iter_inr ?_
      unfold p_C_beginDay_L46
      simp only []
      rw [if_neg (by omega)]
    rw [show f - 101 + 1 + 100 = f from by omega] at this
    exact this
  rw [hfin]
  show okp (iter (p_M_dayBegins_L78 f) f (0, Mr)) _
  rw [eq']
  exact ⟨h2, h3⟩
theorem rOk_lot {T : Nat} {h : Int} {D : Int → Int} (hd : rOk T h D) : 0 ≤ D 158 ∧ D 158 ≤ 65535 := by
  obtain ⟨h1, h2, h3, h4, h5, h6, h7, h8, h9, h10, h11, h12, h13⟩ := hd
  exact h13
theorem lot_and {v : Int} (h0 : 0 ≤ v) (h1 : v < 2147483648) : iand v 65535 = Int.tmod v 65536 := by
  obtain ⟨n, rfl⟩ : ∃ n : Nat, v = n := ⟨v.toNat, by omega⟩
  have := iand_nat (a := n) (b := 65535) (by omega)
  rw [show ((65535 : Nat) : Int) = 65535 from rfl] at this
  rw [this, Int.tmod_eq_emod_of_nonneg (by omega), show (65535 : Nat) = 2 ^ 16 - 1 from rfl, Nat.and_two_pow_sub_one_eq_mod]
  rfl
def wK : List (Nat × Int) := [(25, (-1)), (26, (-1)), (41, (-1))]
/-- the relation after one field of the duchy is set on both sides -/
theorem tk_field {T : Nat} {h' : Int} {o : Nat} {Mc Mr N M : oM} {w : List (Nat × Int)} (hp : pplR T Mc Mr) (hl : lawR Mc Mr) (ho : o ≤ 14 ∧ 6 ≤ o) (e1 : eqo ((o, (-1)) :: (o + 1, (-1)) :: (o + 2, (-1)) :: (o + 3, (-1)) :: wK) Mc N) (e2 : eqo w Mr M) (k : (outw w 57 5 && (outa w 61 && (outa w 62 && (outw w 57 16 && (outa w 70 && (outa w 71 && (outa w 72 && (outa w 73 && outa w 74)))))))) = true) (hd : dR T h' o N M) : tkR T h' o N M := by
  simp only [Bool.and_eq_true] at k
  obtain ⟨k1, k2, k3, k4, k5, k6, k7, k8, k9⟩ := k
  refine ⟨pplR_eqo hp e1 e2 ?_, lawR_eqo hl e1 e2 ?_, hd⟩
  · rw [k1, k2, k3]
    simp (disch := omega) only [outa_cons, outw_cons, wK, outa_nil, outw_nil, Bool.true_and]
  · rw [k4, k5, k6, k7, k8, k9]
    simp (disch := omega) only [outa_cons, outw_cons, wK, outa_nil, outw_nil, Bool.true_and]
theorem begin_day {f o T : Nat} {h : Int} {P : Prop} {Mc Mr : oM} (hf : 2000 < f) (ho : o ≤ 14 ∧ 6 ≤ o) (hR : tkR T h o Mc Mr) (hc : cnt P Mc Mr) :
    okp (p_C_beginDay f o Mc) (fun q => okp (p_M_dayBegins f Mr) (fun q' => tkR T h o q.2 q'.2 ∧ cnt P q.2 q'.2)) := by
  obtain ⟨hp, hl, hd⟩ := id hR
  have hx := rOk_lot hd.2
  have c11 := hd.1.2.2.2.2.2.2.2.2.2.2.2
  have c9 := hd.1.2.2.2.2.2.2.2.2.2.1
  have w1 : w32 (w32 (25173 * Mr 58 158) + 13849) = 25173 * Mr 58 158 + 13849 := by
    rw [w32_of (a := 25173 * Mr 58 158) (by omega) (by omega), w32_of (by omega) (by omega)]
  have hlot : iand (25173 * Mr 58 158 + 13849) 65535 = Int.tmod (25173 * Mr 58 158 + 13849) 65536 := lot_and (by omega) (by omega)
  have hlb : 0 ≤ Int.tmod (25173 * Mr 58 158 + 13849) 65536 ∧ Int.tmod (25173 * Mr 58 158 + 13849) 65536 ≤ 65535 := by
    rw [Int.tmod_eq_emod_of_nonneg (by omega)]; omega
  generalize hX : Int.tmod (25173 * Mr 58 158 + 13849) 65536 = X at *
  -- the draw
  have d1 : p_D_draw f o Mc = some (Int.tmod X 10, oU Mc o 11 X) := by
    unfold p_D_draw
    rw [c11, w1, hlot, lt_eq, nz_eq (by omega), oU_at]
  have hR1 : tkR T h o (oU Mc o 11 X) (oU Mr 58 158 X) := by
    refine tk_field (w := [(58, (-1))]) hp hl ho (eqo_oUa (.head _) (eqo_rfl _ _)) (eqo_oUa (.head _) (eqo_rfl _ _)) rfl ⟨?_, ?_⟩
    · obtain ⟨g1, g2, g3, g4, g5, g6, g7, g8, g9, g10, g11, g12⟩ := hd.1
      have hb := hd.2.2.2.2.1
      unfold dC
      rw [oU_sD]
      simp (disch := omega) only [sD_ne, sD_at, oU_o, oU_at, oU_i]
      refine ⟨fun i i0 i1 => ?_, fun i i0 i1 => ?_, fun i i0 i1 => ?_, g4, g5, g6, g7, g8, g9, g10, g11, trivial⟩
      · rw [sD_ne (by omega)]; exact g1 i i0 i1
      · rw [sD_ne (by omega)]; exact g2 i i0 i1
      · rw [sD_ne (by omega)]; exact g3 i i0 i1
    · obtain ⟨h1, h2, h3, h4, h5, h6, h7, h8, h9, h10, h11, h12, h13⟩ := hd.2
      rw [oU_sD]
      unfold rOk
      simp (disch := omega) only [sD_ne, sD_at]
      refine ⟨fun i i0 i1 => ?_, fun a b a0 a1 b0 b1 => ?_, fun i i0 i1 => ?_, h4, fun i i0 i1 => ?_, h6, h7, h8, h9, h10, h11, h12, hlb⟩
      · rw [sD_ne (by omega)]; exact h1 i i0 i1
      · rw [sD_ne (by omega)]; exact h2 a b a0 a1 b0 b1
      · rw [sD_ne (by omega)]; exact h3 i i0 i1
      · rw [sD_ne (by omega)]; exact h5 i i0 i1
  have hc1 : cnt P (oU Mc o 11 X) (oU Mr 58 158 X) := by
    intro hP
    simp (disch := omega) only [oU_o]
    exact hc hP
  generalize oU Mc o 11 X = N1 at *
  generalize hM1 : oU Mr 58 158 X = M1 at *
  have x158 : M1 58 158 = X := by rw [← hM1, oU_at]
  obtain ⟨hp1, hl1, hd1⟩ := id hR1
  obtain ⟨q, eq, hq⟩ := okp_ex (rain_by (f := f) (day := N1 o 9) hf hl1 hd1.1.2.2.2.2.2.2.2.2.2.1.symm)
  obtain ⟨q', eq', hq1, hq2⟩ := okp_ex hq
  have f1 := fr_L_rain (eqo_rfl _ _) _ eq
  have f2 := fr_M_rainBy (eqo_rfl _ _) _ eq'
  unfold p_C_beginDay
  rw [d1]
  simp only [Option.bind_some]
  rw [eq]
  simp only [Option.bind_some]
  have key : ∀ v : Int, (v = 0 ∨ v = 1) → okp (p_C_beginDay_B24 f o v q.2) (fun r => okp (p_M_dayBegins_B58 f 157 v q'.2) (fun r' => tkR T h o r.2 r'.2 ∧ cnt P r.2 r'.2)) := by
    intro v hv
    have e58 : ∀ i, q'.2 58 i = M1 58 i := fun i => f2 58 i rfl
    have e58' : q'.2 58 = M1 58 := funext e58
    have hd2 : dR T h o q.2 q'.2 := by
      refine ⟨?_, by rw [e58']; exact hd1.2⟩
      rw [e58']
      exact dC_of hd1.1 (eqo_a f1 o (grow_o (by omega))) (eqo_a f1 (o + 1) (grow_o (by omega))) (eqo_a f1 (o + 2) (grow_o (by omega))) (eqo_a f1 (o + 3) (grow_o (by omega)))
    have hc2 : cnt P q.2 q'.2 := by
      intro hP
      rw [f1 41 2 rfl, f1 41 3 rfl, f1 41 4 rfl, f2 57 32 rfl, f2 57 33 rfl, f2 57 34 rfl]
      exact hc1 hP
    have hp2 : pplR T q.2 q'.2 := pplR_eqo hp1 f1 f2 rfl
    have hl2 : lawR q.2 q'.2 := lawR_eqo hl1 f1 f2 rfl
    have hd3 : dR T h o (oU q.2 o 10 v) (oU q'.2 58 157 v) := by
      refine ⟨?_, ?_⟩
      · obtain ⟨g1, g2, g3, g4, g5, g6, g7, g8, g9, g10, g11, g12⟩ := hd2.1
        have hb := hd2.2.2.2.2.1
        unfold dC
        rw [oU_sD]
        simp (disch := omega) only [sD_ne, sD_at, oU_o, oU_at, oU_i]
        refine ⟨fun i i0 i1 => ?_, fun i i0 i1 => ?_, fun i i0 i1 => ?_, g4, g5, g6, g7, g8, g9, g10, trivial, g12⟩
        · rw [sD_ne (by omega)]; exact g1 i i0 i1
        · rw [sD_ne (by omega)]; exact g2 i i0 i1
        · rw [sD_ne (by omega)]; exact g3 i i0 i1
      · obtain ⟨h1, h2, h3, h4, h5, h6, h7, h8, h9, h10, h11, h12, h13⟩ := hd2.2
        rw [oU_sD]
        unfold rOk
        simp (disch := omega) only [sD_ne, sD_at]
        refine ⟨fun i i0 i1 => ?_, fun a b a0 a1 b0 b1 => ?_, fun i i0 i1 => ?_, h4, fun i i0 i1 => ?_, h6, h7, h8, h9, h10, h11, hv, h13⟩
        · rw [sD_ne (by omega)]; exact h1 i i0 i1
        · rw [sD_ne (by omega)]; exact h2 a b a0 a1 b0 b1
        · rw [sD_ne (by omega)]; exact h3 i i0 i1
        · rw [sD_ne (by omega)]; exact h5 i i0 i1
    unfold p_C_beginDay_B24 p_M_dayBegins_B58 p_C_beginDay_B44
    rw [bnd_eq (by omega) (by omega), lt_eq, oU_at]
    rcases hv with rfl | rfl
    · rw [if_pos rfl]
      have t1 : tkR T h o (oU q.2 o 10 0) (oU (oU q'.2 58 157 0) 57 33 (w32 (q'.2 57 33 + 0))) := tk_field (w := [(58, (-1)), (57, 33)]) hp2 hl2 ho (eqo_oUa (.head _) (eqo_rfl _ _)) (eqo_oU (.tail _ (.head _)) (eqo_oUa (.head _) (eqo_rfl _ _))) rfl ⟨by rw [oU_row (by omega)]; exact hd3.1, by rw [oU_row (by omega)]; exact hd3.2⟩
      have t2 : cnt P (oU q.2 o 10 0) (oU (oU q'.2 58 157 0) 57 33 (w32 (q'.2 57 33 + 0))) := by
        intro hP
        obtain ⟨y1, y2, y3, y4⟩ := hc2 hP
        simp (disch := omega) only [oU_o, oU_i, oU_at]
        have y5 : w32 (q'.2 57 33 + 0) = q'.2 57 33 := by rw [Int.add_zero]; exact w32_id y4
        rw [y5]
        exact ⟨y1, y2, y3, y4⟩
      refine okp_mono (grow_all (f := f) (by omega) ho t1 t2) ?_
      intro r hr
      rw [bnd_eq (by omega) (by omega), lt_eq, bnd_eq (by omega) (by omega), lt_eq, oU_at, oU_o (by omega)]
      exact hr
    · rw [if_neg (by omega), lt_eq]
      have t1 : tkR T h o (oU (oU q.2 o 10 1) 41 3 (w32 (oU q.2 o 10 1 41 3 + 1))) (oU (oU q'.2 58 157 1) 57 33 (w32 (q'.2 57 33 + 1))) := by
        refine tk_field (w := [(58, (-1)), (57, 33)]) hp2 hl2 ho (eqo_oUa (.tail _ (.tail _ (.tail _ (.tail _ (.tail _ (.tail _ (.head _))))))) (eqo_oUa (.head _) (eqo_rfl _ _))) (eqo_oU (.tail _ (.head _)) (eqo_oUa (.head _) (eqo_rfl _ _))) rfl ⟨?_, by rw [oU_row (by omega)]; exact hd3.2⟩
        rw [oU_row (by omega)]
        exact dC_of hd3.1 (oU_row (by omega)) (oU_row (by omega)) (oU_row (by omega)) (oU_row (by omega))
      have t2 : cnt P (oU (oU q.2 o 10 1) 41 3 (w32 (oU q.2 o 10 1 41 3 + 1))) (oU (oU q'.2 58 157 1) 57 33 (w32 (q'.2 57 33 + 1))) := by
        intro hP
        obtain ⟨y1, y2, y3, y4⟩ := hc2 hP
        simp (disch := omega) only [oU_o, oU_i, oU_at]
        exact ⟨y1, by rw [y2], y3, inR_w32 _⟩
      refine okp_mono (grow_all (f := f) (by omega) ho t1 t2) ?_
      intro r hr
      rw [bnd_eq (by omega) (by omega), lt_eq, bnd_eq (by omega) (by omega), lt_eq, oU_at, oU_o (by omega)]
      exact hr
  have hend : ∀ v : Int, (v = 0 ∨ v = 1) → (∀ K, okp (p_M_dayBegins_B58 f 157 v q'.2) K → okp (p_M_dayBegins f Mr) K) → okp (p_C_beginDay_B24 f o v q.2) (fun r => okp (p_M_dayBegins f Mr) (fun r' => tkR T h o r.2 r'.2 ∧ cnt P r.2 r'.2)) := fun v hv hK => okp_mono (key v hv) fun r hr => hK _ hr
  have href : p_M_dayBegins f Mr = if Int.tmod X 10 < q'.1 then p_M_dayBegins_B58 f 157 1 q'.2 else p_M_dayBegins_B58 f 157 0 q'.2 := by
    unfold p_M_dayBegins
    rw [bnd_eq (by omega) (by omega), nz_eq (by omega), bnd_eq (by omega) (by omega), w1, hX, lt_eq, hM1, bnd_eq (by omega) (by omega), nz_eq (by omega), eq']
    simp only [Option.bind_some]
    rw [x158]
  rw [hq1]
  by_cases z : Int.tmod X 10 < q'.1
  · rw [if_pos z]
    exact hend 1 (.inr rfl) (fun K hK => by rw [href, if_pos z]; exact hK)
  · rw [if_neg z]
    exact hend 0 (.inl rfl) (fun K hK => by rw [href, if_neg z]; exact hK)
