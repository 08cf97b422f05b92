/-! the tape: bytes by both; feed, check; the text that is read -/
theorem ofInt_toInt32 (x : Int32) : Int32.ofInt x.toInt = x := by
  apply Int32.toInt_inj.1
  rw [oc_toInt (inR_toInt x)]
theorem and255 (x : Int32) : 0 ≤ (x &&& 255).toInt ∧ (x &&& 255).toInt ≤ 255 := by
  have h : (x &&& 255).toBitVec.toNat ≤ 255 := by
    rw [Int32.toBitVec_and, BitVec.toNat_and]
    exact Nat.and_le_right
  have e : (x &&& 255).toInt = ((x &&& 255).toBitVec.toNat : Int) := by
    show (x &&& 255).toBitVec.toInt = _
    rw [BitVec.toInt_eq_toNat_of_lt (by omega)]
  rw [e]; omega
theorem iand255 (a : Int) : 0 ≤ iand a 255 ∧ iand a 255 ≤ 255 := and255 (Int32.ofInt a)
theorem byteB (x : BitVec 32) (s : Nat) (hs : s ≤ 24) : (((((x.sshiftRight s).signExtend 8).signExtend 32).signExtend 8).signExtend 32) &&& 255#32 = (x >>> s) &&& 255#32 := by
  apply BitVec.eq_of_getLsbD_eq
  intro i hi
  have h255 : (255#32).getLsbD i = decide (i < 8) := by
    rw [show (255#32 : BitVec 32) = BitVec.ofNat 32 (2 ^ 8 - 1) from rfl, BitVec.getLsbD_ofNat, Nat.testBit_two_pow_sub_one]
    simp [hi]
  rw [BitVec.getLsbD_and, BitVec.getLsbD_and, h255]
  by_cases h8 : i < 8
  · have h1 : s + i < 32 := by omega
    rw [BitVec.getLsbD_signExtend, if_pos h8, BitVec.getLsbD_signExtend, if_pos hi, BitVec.getLsbD_signExtend, if_pos h8, BitVec.getLsbD_signExtend, if_pos hi, BitVec.getLsbD_sshiftRight, BitVec.getLsbD_ushiftRight, if_pos h1]
    simp [h8, hi]
  · simp [h8]
theorem oc_us : ∀ p : Nat, p < 32 → ((((nI p).toUInt32 &&& Int32.toUInt32 31).toBitVec % 32).toNat = p) := by decide +kernel
theorem byte_eq (a : Int) (k : Nat) (hk : k < 4) : iand (i2b (i2b (ishr a ((8 * k : Nat) : Int)))) 255 = iand (iushr a ((8 * k : Nat) : Int)) 255 := by
  unfold iand i2b ishr iushr
  rw [ofInt_toInt32, ofInt_toInt32, ofInt_toInt32, ofInt_toInt32, ofInt_nI, (oc_sm (8 * k) (by omega)).2]
  congr 1
  apply Int32.toBitVec_inj.1
  generalize Int32.ofInt a = x
  have e1 : (x >>> nI (8 * k)).toBitVec = x.toBitVec.sshiftRight (8 * k) := by
    rw [Int32.toBitVec_shiftRight, BitVec.sshiftRight_eq', (oc_sm (8 * k) (by omega)).1]
  have e2 : (x.toUInt32 >>> ((nI (8 * k)).toUInt32 &&& Int32.toUInt32 31)).toBitVec = x.toBitVec >>> (8 * k) := by
    rw [UInt32.toBitVec_shiftRight, BitVec.ushiftRight_eq', oc_us (8 * k) (by omega)]
    rfl
  have h := byteB x.toBitVec (8 * k) (by omega)
  rw [← e1, ← e2] at h
  rw [Int32.toBitVec_and, Int32.toBitVec_and, show (Int32.ofInt 255).toBitVec = 255#32 from by decide]
  exact h
/-! feeding -/
theorem add_types {f : Nat} {w : Int} {Mc Mr : oM} (hf : 2000 < f) (h : tapR Mc Mr) (hs : Mc 1 1 ≤ 256) : okp (p_T_add f w Mc) (fun q => okp (p_M_types f w Mr) (fun q' => tapR q.2 q'.2 ∧ q.2 1 1 = Mc 1 1 + 4)) := by
  unfold p_T_add p_M_types
  refine for2_ok 4 (fun k s s' => s.1 = 24 - 8 * (k : Int) ∧ s'.1 = 3 - (k : Int) ∧ tapR s.2 s'.2 ∧ s.2 1 1 = Mc 1 1 + k) ?_ ?_ f f (by omega) (by omega) ⟨rfl, rfl, h, by show Mc 1 1 = Mc 1 1 + ((0 : Nat) : Int); omega⟩
  · intro k ⟨x, N⟩ ⟨x', M⟩ hk hI
    have hI' : x = 24 - 8 * (k : Int) ∧ x' = 3 - (k : Int) ∧ tapR N M ∧ N 1 1 = Mc 1 1 + k := hI
    obtain ⟨i1, i2, ⟨t1, t2, t3⟩, i4⟩ := hI'
    subst i1; subst i2
    unfold p_T_add_L3 p_M_types_L2
    simp only []
    rw [if_neg (c := 24 - 8 * (k : Int) < 0) (by omega), if_pos (c := N 1 1 < 260) (by omega), if_neg (c := 3 - (k : Int) < 0) (by omega), t2, bnd_eq (by omega) (by omega), lt_eq, lt_eq, lt_eq, bnd_eq (by omega) (by omega), lt_eq, lt_eq, lt_eq]
    simp (disch := omega) only [oU_o, t2, w32_of (a := 8 * (3 - (k : Int))), w32_of (a := N 1 1 + 1), w32_of (a := 24 - 8 * (k : Int) + (-8)), w32_of (a := 3 - (k : Int) + (-1))]
    have hb := byte_eq w (3 - k) (by omega)
    rw [show ((8 * (3 - k) : Nat) : Int) = 8 * (3 - (k : Int)) from by omega] at hb
    rw [show (24 - 8 * (k : Int)) = 8 * (3 - (k : Int)) from by omega, ← hb]
    have hb2 := iand255 (i2b (i2b (ishr w (8 * (3 - (k : Int))))))
    refine ⟨by show 8 * (3 - (k : Int)) + -8 = 24 - 8 * ((k + 1 : Nat) : Int); omega, by show 3 - (k : Int) + -1 = 3 - ((k + 1 : Nat) : Int); omega, ⟨?_, ?_, ?_⟩, ?_⟩
    · simp (disch := omega) only [oU_at]; omega
    · simp (disch := omega) only [oU_at]
    · intro i i0 i1
      simp (disch := omega) only [oU_at, oU_o] at i1 ⊢
      by_cases hi : i = N 1 1
      · subst hi
        simp (disch := omega) only [oU_at]
        exact ⟨hb2, trivial⟩
      · simp (disch := omega) only [oU_i]
        exact t3 i i0 (by omega)
    · simp (disch := omega) only [oU_at]; omega
  · intro ⟨x, N⟩ ⟨x', M⟩ hI
    obtain ⟨i1, i2, i3, i4⟩ := hI
    simp only at i1 i2 i3 i4
    unfold p_T_add_L3 p_M_types_L2
    simp only []
    rw [if_pos (by omega), if_pos (by omega)]
    exact ⟨i3, by omega⟩
theorem call_feed {f T : Nat} {c a b d e g : Int} {Mc Mr : oM} (hf : 2000 < f) (h : Rel T c Mc Mr) : Same f c (p_O_feed f a b d e g Mc) (p_M_feed f a b d e g Mr) := by
  obtain ⟨hp, hd, ho, hk, ht, hl, hz⟩ := id h
  obtain ⟨t1, t2, t3⟩ := id ht
  by_cases hs : Mc 1 1 ≤ 240
  · obtain ⟨x1, ex1, y1⟩ := okp_ex (add_types (f := f) (w := a) hf ht (by omega))
    obtain ⟨z1, ez1, u1, v1⟩ := okp_ex y1
    obtain ⟨x2, ex2, y2⟩ := okp_ex (add_types (f := f) (w := b) hf u1 (by omega))
    obtain ⟨z2, ez2, u2, v2⟩ := okp_ex y2
    obtain ⟨x3, ex3, y3⟩ := okp_ex (add_types (f := f) (w := d) hf u2 (by omega))
    obtain ⟨z3, ez3, u3, v3⟩ := okp_ex y3
    obtain ⟨x4, ex4, y4⟩ := okp_ex (add_types (f := f) (w := e) hf u3 (by omega))
    obtain ⟨z4, ez4, u4, v4⟩ := okp_ex y4
    obtain ⟨x5, ex5, y5⟩ := okp_ex (add_types (f := f) (w := g) hf u4 (by omega))
    obtain ⟨z5, ez5, u5, v5⟩ := okp_ex y5
    have e1 : p_O_feed f a b d e g Mc = some (x5.2 1 1, x5.2) := by
      unfold p_O_feed p_T_size
      simp only [Option.bind_some]
      rw [w32_of (by omega) (by omega), if_neg (by omega), ex1]
      simp only [Option.bind_some]
      rw [ex2]
      simp only [Option.bind_some]
      rw [ex3]
      simp only [Option.bind_some]
      rw [ex4]
      simp only [Option.bind_some]
      rw [ex5]
      simp only [Option.bind_some]
    have e2 : p_M_feed f a b d e g Mr = some (x5.2 1 1, z5.2) := by
      unfold p_M_feed
      rw [t2, w32_of (by omega) (by omega), if_neg (by omega), ez1]
      simp only [Option.bind_some]
      rw [ez2]
      simp only [Option.bind_some]
      rw [ez3]
      simp only [Option.bind_some]
      rw [ez4]
      simp only [Option.bind_some]
      rw [ez5]
      simp only [Option.bind_some]
      rw [u5.2.1]
    have g1 := fr_O_feed (eqo_rfl _ _) _ e1
    have g2 := fr_M_feed (eqo_rfl _ _) _ e2
    refine same_upd e1 e2 ⟨T, pplR_eqo hp g1 g2 rfl, dC_congr (dC_eqo hd g1 rfl) ho (fun i _ _ => g2 58 i rfl), rOk_mono (rOk_congr ho (fun i _ _ => g2 58 i rfl)) (by omega), keptR_mono (keptR_eqo hk g1 g2 rfl) (by omega), u5, lawR_eqo hl g1 g2 rfl, (g1 56 0 rfl).trans hz⟩
  · refine same_some (r := -1) h ?_ ?_
    · unfold p_O_feed p_T_size
      simp only [Option.bind_some]
      rw [w32_of (by omega) (by omega), if_pos (by omega)]
    · unfold p_M_feed
      rw [t2, w32_of (by omega) (by omega), if_pos (by omega)]
/-! the text that is read: n bytes, at place p -/
def chT (b : Int → Int) (n p : Int) : Int := if p < n then b p else -1
/-- the class's tape at place p of a text of n bytes b -/
def rdC (b : Int → Int) (n : Int) (M : oM) (p : Int) : Prop := (0 ≤ n ∧ n ≤ 260) ∧ (∀ i : Int, 0 ≤ i → i < n → M 2 i = b i ∧ 0 ≤ b i ∧ b i ≤ 255) ∧ M 1 2 = n ∧ M 1 3 = p ∧ M 1 4 = chT b n p ∧ 0 ≤ p ∧ p ≤ 1000
def rdM (b : Int → Int) (n : Int) (M : oM) (p : Int) : Prop := (0 ≤ n ∧ n ≤ 260) ∧ (∀ i : Int, 0 ≤ i → i < n → iand (M 63 i) 255 = b i ∧ 0 ≤ b i ∧ b i ≤ 255) ∧ M 57 9 = n ∧ M 57 8 = p ∧ 0 ≤ p ∧ p ≤ 1000
theorem chT_bd {b : Int → Int} {n p : Int} {M : oM} (h : rdC b n M p) : -1 ≤ chT b n p ∧ chT b n p ≤ 255 := by
  obtain ⟨h1, h2, h3, h4, h5, h6, h7⟩ := h
  unfold chT
  split
  · have := h2 p h6 (by assumption); omega
  · omega
theorem e_T_step {f : Nat} {b : Int → Int} {n p : Int} {M : oM} (h : rdC b n M p) (hp : p < 1000) : ∃ M', p_T_step f M = some (0, M') ∧ rdC b n M' (p + 1) ∧ eqo [(1, 3), (1, 4)] M M' := by
  obtain ⟨h1, h2, h3, h4, h5, h6, h7⟩ := h
  have w : w32 (p + 1) = p + 1 := w32_of (by omega) (by omega)
  unfold p_T_step
  rw [h4, w, lt_eq, oU_at, if_neg (by omega), oU_i (by omega), h3]
  by_cases q : p + 1 < n
  · rw [if_pos q, if_pos (by omega), bnd_eq (by omega) (by omega), lt_eq]
    refine ⟨_, rfl, ⟨h1, fun i i0 i1 => ?_, ?_, ?_, ?_, by omega, by omega⟩, eqo_oU (.tail _ (.head _)) (eqo_oU (.head _) (eqo_rfl _ _))⟩
    · simp (disch := omega) only [bnd_eq, nz_eq, lt_eq, if_pos, if_neg, w32_of, if_true, if_false, not_true_eq_false, not_false_eq_true, Option.bind_some, oU_at, oU_o, oU_i, b01_t, b01_f]
      exact h2 i i0 i1
    · simp (disch := omega) only [bnd_eq, nz_eq, lt_eq, if_pos, if_neg, w32_of, if_true, if_false, not_true_eq_false, not_false_eq_true, Option.bind_some, oU_at, oU_o, oU_i, b01_t, b01_f]
      exact h3
    · simp (disch := omega) only [bnd_eq, nz_eq, lt_eq, if_pos, if_neg, w32_of, if_true, if_false, not_true_eq_false, not_false_eq_true, Option.bind_some, oU_at, oU_o, oU_i, b01_t, b01_f]
    · simp (disch := omega) only [bnd_eq, nz_eq, lt_eq, if_pos, if_neg, w32_of, if_true, if_false, not_true_eq_false, not_false_eq_true, Option.bind_some, oU_at, oU_o, oU_i, b01_t, b01_f]
      unfold chT
      rw [if_pos q]; exact (h2 _ (by omega) q).1
  · rw [if_neg q, lt_eq]
    refine ⟨_, rfl, ⟨h1, fun i i0 i1 => ?_, ?_, ?_, ?_, by omega, by omega⟩, eqo_oU (.tail _ (.head _)) (eqo_oU (.head _) (eqo_rfl _ _))⟩
    · simp (disch := omega) only [bnd_eq, nz_eq, lt_eq, if_pos, if_neg, w32_of, if_true, if_false, not_true_eq_false, not_false_eq_true, Option.bind_some, oU_at, oU_o, oU_i, b01_t, b01_f]
      exact h2 i i0 i1
    · simp (disch := omega) only [bnd_eq, nz_eq, lt_eq, if_pos, if_neg, w32_of, if_true, if_false, not_true_eq_false, not_false_eq_true, Option.bind_some, oU_at, oU_o, oU_i, b01_t, b01_f]
      exact h3
    · simp (disch := omega) only [bnd_eq, nz_eq, lt_eq, if_pos, if_neg, w32_of, if_true, if_false, not_true_eq_false, not_false_eq_true, Option.bind_some, oU_at, oU_o, oU_i, b01_t, b01_f]
    · simp (disch := omega) only [bnd_eq, nz_eq, lt_eq, if_pos, if_neg, w32_of, if_true, if_false, not_true_eq_false, not_false_eq_true, Option.bind_some, oU_at, oU_o, oU_i, b01_t, b01_f]
      unfold chT
      rw [if_neg q]
theorem e_M_here {f : Nat} {b : Int → Int} {n p : Int} {M : oM} (h : rdM b n M p) : p_M_here f M = some (chT b n p, M) := by
  obtain ⟨h1, h2, h3, h4, h5, h6⟩ := h
  unfold p_M_here chT
  rw [h3, h4]
  by_cases q : p < n
  · rw [if_pos q, if_pos q, bnd_eq (by omega) (by omega), (h2 p h5 q).1]
  · rw [if_neg q, if_neg q]
theorem e_T_opens {f : Nat} {n lo hi : Int} {Mc Mr : oM} (ht : tapR Mc Mr) (hlo : 0 ≤ lo) (hn : lo ≤ n ∧ n ≤ hi ∧ n ≤ Mc 1 1) : ∃ M', p_T_opens f n lo hi Mc = some (1, M') ∧ rdC (Mc 2) n M' 0 ∧ eqo [(1, 2), (1, 3), (1, 4)] Mc M' := by
  obtain ⟨t1, t2, t3⟩ := ht
  unfold p_T_opens
  rw [if_neg (by omega), if_neg (by omega), if_neg (by omega), lt_eq, lt_eq]
  unfold p_T_step
  have e3 : oU (oU Mc 1 2 n) 1 3 (-1) 1 3 = -1 := oU_at
  rw [e3, show w32 (-1 + 1) = 0 from rfl, lt_eq, oU_at, if_neg (by omega)]
  have e2 : oU (oU (oU Mc 1 2 n) 1 3 (-1)) 1 3 0 1 2 = n := by
    simp (disch := omega) only [bnd_eq, nz_eq, lt_eq, if_pos, if_neg, w32_of, if_true, if_false, not_true_eq_false, not_false_eq_true, Option.bind_some, oU_at, oU_o, oU_i, b01_t, b01_f]
  rw [e2]
  have key : ∀ v : Int, v = chT (Mc 2) n 0 → rdC (Mc 2) n (oU (oU (oU (oU Mc 1 2 n) 1 3 (-1)) 1 3 0) 1 4 v) 0 ∧ eqo [(1, 2), (1, 3), (1, 4)] Mc (oU (oU (oU (oU Mc 1 2 n) 1 3 (-1)) 1 3 0) 1 4 v) := by
    intro v hv
    refine ⟨⟨⟨by omega, by omega⟩, fun i i0 i1 => ?_, ?_, ?_, ?_, by omega, by omega⟩, eqo_oU (.tail _ (.tail _ (.head _))) (eqo_oU (.tail _ (.head _)) (eqo_oU (.tail _ (.head _)) (eqo_oU (.head _) (eqo_rfl _ _))))⟩
    · simp (disch := omega) only [bnd_eq, nz_eq, lt_eq, if_pos, if_neg, w32_of, if_true, if_false, not_true_eq_false, not_false_eq_true, Option.bind_some, oU_at, oU_o, oU_i, b01_t, b01_f]
      exact ⟨trivial, (t3 i i0 (by omega)).1⟩
    · simp (disch := omega) only [bnd_eq, nz_eq, lt_eq, if_pos, if_neg, w32_of, if_true, if_false, not_true_eq_false, not_false_eq_true, Option.bind_some, oU_at, oU_o, oU_i, b01_t, b01_f]
    · simp (disch := omega) only [bnd_eq, nz_eq, lt_eq, if_pos, if_neg, w32_of, if_true, if_false, not_true_eq_false, not_false_eq_true, Option.bind_some, oU_at, oU_o, oU_i, b01_t, b01_f]
    · simp (disch := omega) only [bnd_eq, nz_eq, lt_eq, if_pos, if_neg, w32_of, if_true, if_false, not_true_eq_false, not_false_eq_true, Option.bind_some, oU_at, oU_o, oU_i, b01_t, b01_f]
      exact hv
  by_cases q : 0 < n
  · rw [if_pos q, if_pos (by omega), bnd_eq (by omega) (by omega), lt_eq]
    simp only [Option.bind_some]
    have e0 : oU (oU (oU Mc 1 2 n) 1 3 (-1)) 1 3 0 2 0 = Mc 2 0 := by
      simp (disch := omega) only [bnd_eq, nz_eq, lt_eq, if_pos, if_neg, w32_of, if_true, if_false, not_true_eq_false, not_false_eq_true, Option.bind_some, oU_at, oU_o, oU_i, b01_t, b01_f]
    obtain ⟨k1, k2⟩ := key (Mc 2 0) (by unfold chT; rw [if_pos q])
    rw [e0]
    exact ⟨_, rfl, k1, k2⟩
  · rw [if_neg q, lt_eq]
    simp only [Option.bind_some]
    obtain ⟨k1, k2⟩ := key (-1) (by unfold chT; rw [if_neg q])
    exact ⟨_, rfl, k1, k2⟩
theorem e_T_opens_no {f : Nat} {n lo hi : Int} {M : oM} (hn : ¬ (lo ≤ n ∧ n ≤ hi ∧ n ≤ M 1 1)) : p_T_opens f n lo hi M = some (0, M) := by
  unfold p_T_opens
  by_cases h1 : n < lo
  · rw [if_pos h1]
  · rw [if_neg h1]
    by_cases h2 : hi < n
    · rw [if_pos h2]
    · rw [if_neg h2, if_pos (by omega)]
