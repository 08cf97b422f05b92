/-! the way back: the class's rounds -/
def wE (d : Int → Int) (a b : Nat) : Prop := 0 < d (10 * (a : Int) + b)
def wW (q : Int) (X Y : Int → Int) (a b : Nat) : Int := if q = 0 then 1 else wayS X Y a b
def bef (h : Nat) (F : Nat → Int) (a : Nat) : Int := if a = h then 0 else F a
theorem natne {x y : Nat} (h : x ≠ y) : ¬ (x : Int) = (y : Int) := fun z => h (Int.ofNat.inj z)
theorem imin_l (a b : Int) : imin a b ≤ a := by unfold imin; split <;> omega
theorem imin_r (a b : Int) : imin a b ≤ b := by unfold imin; split <;> omega
theorem imin_or (a b : Int) : (imin a b = b ∧ b < a) ∨ imin a b = a := by
  unfold imin
  split
  · exact .inl ⟨rfl, by assumption⟩
  · exact .inr rfl
def bfI (E : Nat → Nat → Prop) (w : Nat → Nat → Int) (h : Nat) (Fk : Nat → Int) (i : Nat) (F : Nat → Int) : Prop :=
  (∀ v, v < 10 → 1 ≤ F v ∧ F v ≤ 1000000 ∧ F v ≤ Fk v ∧ (F v < 1000000 → ∃ n u, 1 ≤ n ∧ WF E u n h v ∧ wlen w u n = F v)) ∧
  ∀ c v, c < 10 → v < 10 → 10 * c + v < i → E c v → F v ≤ bef h Fk c + w c v
theorem bf_no {E : Nat → Nat → Prop} {w : Nat → Nat → Int} {h i a b : Nat} {Fk F : Nat → Int} (hI : bfI E w h Fk i F) (hi : i = 10 * a + b) (hb : b < 10) (hE : ¬ E a b) : bfI E w h Fk (i + 1) F := by
  refine ⟨hI.1, fun c v hc hv hl hcv => hI.2 c v hc hv ?_ hcv⟩
  by_cases q : 10 * c + v = i
  · have e1 : c = a := by omega
    have e2 : v = b := by omega
    rw [e1, e2] at hcv
    exact absurd hcv hE
  · omega
theorem one_WF {E : Nat → Nat → Prop} {a b : Nat} (ha : a < 10) (hb : b < 10) (hE : E a b) : WF E (fun i => if i = 0 then a else b) 1 a b := by
  refine ⟨rfl, rfl, fun i hi => ?_⟩
  have : i = 0 := by omega
  subst this
  exact ⟨ha, hb, hE⟩
theorem one_len {w : Nat → Nat → Int} {a b : Nat} : wlen w (fun i => if i = 0 then a else b) 1 = w a b := by
  show (0 : Int) + w a b = w a b
  rw [Int.zero_add]
theorem bf_yes {E : Nat → Nat → Prop} {w : Nat → Nat → Int} {h i a b : Nat} {Fk F F' : Nat → Int} (hw : ∀ a b, a < 10 → b < 10 → 1 ≤ w a b) (hI : bfI E w h Fk i F) (hi : i = 10 * a + b) (ha : a < 10) (hb : b < 10) (hE : E a b) (hF : ∀ v, v < 10 → v ≠ b → F' v = F v) (hFb : F' b = imin (F b) (bef h F a + w a b)) : bfI E w h Fk (i + 1) F' := by
  have hab := hw a b ha hb
  have hbe : 0 ≤ bef h F a ∧ bef h F a ≤ bef h Fk a := by
    unfold bef
    split
    · exact ⟨Int.le_refl _, Int.le_refl _⟩
    · have := hI.1 a ha
      exact ⟨by omega, this.2.2.1⟩
  have hl := imin_l (F b) (bef h F a + w a b)
  have hr := imin_r (F b) (bef h F a + w a b)
  rw [← hFb] at hl hr
  have hFbb := hI.1 b hb
  refine ⟨fun v hv => ?_, fun c v hc hv hlt hcv => ?_⟩
  · by_cases q : v = b
    · subst q
      refine ⟨?_, Int.le_trans hl hFbb.2.1, Int.le_trans hl hFbb.2.2.1, fun hx => ?_⟩
      · rw [hFb]; unfold imin; split <;> omega
      · rcases imin_or (F v) (bef h F a + w a v) with z | z
        · rw [hFb, z.1] at hx ⊢
          by_cases qa : a = h
          · refine ⟨1, _, Nat.le_refl _, qa ▸ one_WF ha hb hE, ?_⟩
            rw [one_len]
            unfold bef
            rw [if_pos qa, Int.zero_add, qa]
          · have e : bef h F a = F a := if_neg qa
            rw [e] at hx ⊢
            obtain ⟨n, u, g1, g2, g3⟩ := (hI.1 a ha).2.2.2 (by omega)
            refine ⟨n + 1, _, by omega, cat_WF g2 (one_WF ha hb hE), ?_⟩
            rw [cat_len (g2.2.1.trans rfl), g3, one_len]
        · rw [hFb, z] at hx ⊢
          exact hFbb.2.2.2 hx
    · rw [hF v hv q]; exact hI.1 v hv
  · by_cases q : v = b
    · subst q
      by_cases qi : 10 * c + v = i
      · have e1 : c = a := by omega
        subst e1
        exact Int.le_trans hr (Int.add_le_add_right hbe.2 _)
      · exact Int.le_trans hl (hI.2 c v hc hv (by omega) hcv)
    · rw [hF v hv q]
      exact hI.2 c v hc hv (by omega) hcv
def bfC (E : Nat → Nat → Prop) (w : Nat → Nat → Int) (h k : Nat) (F : Nat → Int) : Prop := ∀ n u v, 1 ≤ n → n ≤ k → WF E u n h v → F v ≤ wlen w u n
theorem bf_round {E : Nat → Nat → Prop} {w : Nat → Nat → Int} {h k : Nat} {Fk F : Nat → Int} (hw : ∀ a b, a < 10 → b < 10 → 1 ≤ w a b) (hI : bfI E w h Fk 100 F) (hC : bfC E w h k Fk) : bfC E w h (k + 1) F := by
  intro n u v h1 hn hW
  obtain ⟨m, rfl⟩ : ∃ m, n = m + 1 := ⟨n - 1, by omega⟩
  have hl := hW.2.2 m (Nat.lt_succ_self m)
  have hv : v < 10 := hW.2.1 ▸ hl.2.1
  have hE : E (u m) v := by have := hl.2.2; rw [hW.2.1] at this; exact this
  have e2 : wlen w u (m + 1) = wlen w u m + w (u m) v := by rw [← hW.2.1]; rfl
  have h3 := hI.2 (u m) v hl.1 hv (by omega) hE
  have h4 : bef h Fk (u m) ≤ wlen w u m := by
    unfold bef
    split
    · exact sumN_nn m fun j hj => by
        have := hW.2.2 j (by omega)
        have := hw _ _ this.1 this.2.1
        omega
    · rename_i hne
      have hm : 1 ≤ m := by
        by_cases q : m = 0
        · subst q; exact absurd hW.1 hne
        · omega
      exact hC m u (u m) hm (by omega) ⟨hW.1, rfl, fun i hi => hW.2.2 i (by omega)⟩
  rw [e2]
  exact Int.le_trans h3 (Int.add_le_add_right h4 _)
theorem wb_no {f : Nat} {h q k a b i : Int} {M : oM} (ha : 0 ≤ a ∧ a < 10) (hb : 0 ≤ b ∧ b < 10) (hi : i = 10 * a + b) (h7 : ¬ 0 < M 7 i) : p_R_wayBack_L22 f h q k (i, M) = some (.inl (i + 1, M)) := by
  unfold p_R_wayBack_L22 p_R_wayBack_B108_22
  simp only []
  rw [if_pos (by omega), nz_eq (by decide), lt_eq, nz_eq (by decide), lt_eq, bnd_eq (by omega) (by omega), if_neg h7, lt_eq, w32_of (by omega) (by omega)]
theorem wb_yes {f : Nat} {h q k a b i s u w : Int} {M : oM} (ha : 0 ≤ a ∧ a < 10) (hb : 0 ≤ b ∧ b < 10) (hi : i = 10 * a + b) (h7 : 0 < M 7 i) (hs : (if a = h then 0 else M 46 a) = s) (hu : M 46 b = u) (hw : (if q = 0 then 1 else wayS (M 4) (M 5) a b) = w) (hX : spotOk (M 4)) (hY : spotOk (M 5)) (b1 : 0 ≤ s ∧ s ≤ 1000000) (b2 : 1 ≤ w ∧ w ≤ 18) : p_R_wayBack_L22 f h q k (i, M) = some (.inl (i + 1, oU M 46 b (imin u (s + w)))) := by
  have B67 : p_R_wayBack_B67_22 f h q k i a b s M = some (.inl (i + 1, oU M 46 b (imin u (s + w)))) := by
    unfold p_R_wayBack_B67_22 p_R_wayBack_B103_22 p_R_wayBack_B108_22
    rw [bnd_eq hb.1 hb.2, hu]
    by_cases q0 : q = 0
    · rw [if_pos q0] at hw ⊢
      subst hw
      rw [bnd_eq hb.1 hb.2, lt_eq, lt_eq, w32_of (by omega) (by omega), w32_of (by omega) (by omega)]
    · rw [if_neg q0] at hw ⊢
      rw [e_P_way hX hY ha hb, Option.bind_some, bnd_eq hb.1 hb.2, lt_eq, lt_eq, hw, w32_of (by omega) (by omega), w32_of (by omega) (by omega)]
  have ht := tdiv10 ha hb
  rw [← hi] at ht
  unfold p_R_wayBack_L22
  simp only []
  rw [if_pos (by omega), nz_eq (by decide), lt_eq, nz_eq (by decide), lt_eq, bnd_eq (by omega) (by omega), if_pos h7, ht.1, ht.2]
  by_cases q1 : a = h
  · rw [if_pos q1] at hs ⊢
    rw [hs]; exact B67
  · rw [if_neg q1] at hs ⊢
    rw [bnd_eq ha.1 ha.2, hs]; exact B67
theorem wW_bd {q : Int} {X Y : Int → Int} (hX : spotOk X) (hY : spotOk Y) {a b : Nat} (ha : a < 10) (hb : b < 10) : 1 ≤ wW q X Y a b ∧ wW q X Y a b ≤ 18 := by
  unfold wW
  split
  · decide
  · exact wayS_bd hX hY (nat9 ha) (nat9 hb)
def farI (q : Int) (h : Nat) (M : oM) (Fk : Nat → Int) (i : Nat) (s : Int × oM) : Prop := s.1 = (i : Int) ∧ eqo [(46, (-1))] M s.2 ∧ bfI (wE (M 7)) (wW q (M 4) (M 5)) h Fk i (fun v => s.2 46 (v : Int))
theorem far_step {f h i : Nat} {q k : Int} {M : oM} {Fk : Nat → Int} {s : Int × oM} (hi : i < 100) (hX : spotOk (M 4)) (hY : spotOk (M 5)) (hI : farI q h M Fk i s) : okp (p_R_wayBack_L22 f h q k s) (psum (farI q h M Fk (i + 1)) (fun N => eqo [(46, (-1))] M N ∧ bfI (wE (M 7)) (wW q (M 4) (M 5)) h Fk 100 (fun v => N 46 (v : Int)))) := by
  obtain ⟨j, N⟩ := s
  obtain ⟨h1, h2, h3⟩ := hI
  simp only at h1 h2 h3
  have hd := dm10 hi
  generalize hA : i / 10 = a at hd
  generalize hB : i % 10 = b at hd
  have hij : i = 10 * a + b := by omega
  have e7 : N 7 = M 7 := eqo_a h2 7 rfl
  have e4 : N 4 = M 4 := eqo_a h2 4 rfl
  have e5 : N 5 = M 5 := eqo_a h2 5 rfl
  have hj : j = 10 * (a : Int) + (b : Int) := h1.trans hd.2.2
  have w1 : ((i : Int) + 1) = ((i + 1 : Nat) : Int) := rfl
  by_cases hE : wE (M 7) a b
  · have hw := wW_bd (q := q) hX hY hd.1 hd.2.1
    have hba : 0 ≤ bef h (fun v => N 46 (v : Int)) a ∧ bef h (fun v => N 46 (v : Int)) a ≤ 1000000 := by
      unfold bef
      split
      · decide
      · have := h3.1 a hd.1
        exact ⟨Int.le_trans (by decide) this.1, this.2.1⟩
    have e0 : (if (a : Int) = (h : Int) then 0 else N 46 (a : Int)) = bef h (fun v => N 46 (v : Int)) a := by
      unfold bef
      by_cases z : a = h
      · rw [if_pos z, if_pos (by rw [z])]
      · rw [if_neg z, if_neg (natne z)]
    rw [wb_yes (nat9 hd.1) (nat9 hd.2.1) hj (by rw [e7, hj]; exact hE) e0 rfl (show _ = wW q (M 4) (M 5) a b from by rw [e4, e5]; rfl) (e4 ▸ hX) (e5 ▸ hY) hba hw]
    refine ⟨by show j + 1 = _; rw [h1]; rfl, eqo_oUa (.head _) h2, ?_⟩
    refine bf_yes (fun a b ha hb => (wW_bd hX hY ha hb).1) h3 hij hd.1 hd.2.1 hE (fun v hv hne => ?_) ?_
    · show oU N 46 (b : Int) _ 46 (v : Int) = _
      rw [oU_i (natne hne)]
    · show oU N 46 (b : Int) _ 46 (b : Int) = _
      rw [oU_at]
  · rw [wb_no (nat9 hd.1) (nat9 hd.2.1) hj (by rw [e7, hj]; exact hE)]
    exact ⟨by show j + 1 = _; rw [h1]; rfl, h2, bf_no h3 hij hd.2.1 hE⟩
theorem far_round {f h : Nat} {q k : Int} {M : oM} {Fk : Nat → Int} (hf : 2000 < f) (hX : spotOk (M 4)) (hY : spotOk (M 5)) (h0 : bfI (wE (M 7)) (wW q (M 4) (M 5)) h Fk 0 (fun v => M 46 (v : Int))) : ∃ N, iter (p_R_wayBack_L22 f h q k) f (0, M) = some N ∧ eqo [(46, (-1))] M N ∧ bfI (wE (M 7)) (wW q (M 4) (M 5)) h Fk 100 (fun v => N 46 (v : Int)) := by
  refine okp_ex (for_ok 100 (farI q h M Fk) (fun i s hi hI => far_step hi hX hY hI) (fun s hI => ?_) f (Nat.lt_trans (by decide) hf) ⟨rfl, eqo_rfl _ _, h0⟩)
  obtain ⟨j, N⟩ := s
  obtain ⟨h1, h2, h3⟩ := hI
  simp only at h1 h2 h3
  subst h1
  unfold p_R_wayBack_L22
  simp only []
  rw [if_neg (show ¬ (((100 : Nat) : Int) < 100) by decide)]
  exact ⟨h2, h3⟩
theorem bf_restart {E : Nat → Nat → Prop} {w : Nat → Nat → Int} {h i : Nat} {Fk F : Nat → Int} (hI : bfI E w h Fk i F) : bfI E w h F 0 F := ⟨fun v hv => ⟨(hI.1 v hv).1, (hI.1 v hv).2.1, Int.le_refl _, (hI.1 v hv).2.2.2⟩, fun c v _ _ hl => absurd hl (Nat.not_lt_zero _)⟩
theorem e_wayBack {f h : Nat} {q : Int} {M : oM} (hf : 2000 < f) (hh : h < 10) (hX : spotOk (M 4)) (hY : spotOk (M 5)) : ∃ F : Int, ∃ N, p_R_wayBack f h q M = some (F, N) ∧ F ≤ 1000000 ∧ (F < 1000000 → ∃ n u, 1 ≤ n ∧ WF (wE (M 7)) u n h h ∧ wlen (wW q (M 4) (M 5)) u n = F) ∧ ∀ n u, 1 ≤ n → n ≤ 10 → WF (wE (M 7)) u n h h → F ≤ wlen (wW q (M 4) (M 5)) u n := by
  obtain ⟨q0, e0, h0⟩ := okp_ex (e_fill (f := f) (o := 46) (n := 10) (v := 1000000) (M := M) (by decide) hf)
  have f0 := fr_JA_fill (eqo_rfl _ _) _ e0
  have hr : okp (p_R_wayBack f h q M) (fun r => r.1 ≤ 1000000 ∧ (r.1 < 1000000 → ∃ n u, 1 ≤ n ∧ WF (wE (M 7)) u n h h ∧ wlen (wW q (M 4) (M 5)) u n = r.1) ∧ ∀ n u, 1 ≤ n → n ≤ 10 → WF (wE (M 7)) u n h h → r.1 ≤ wlen (wW q (M 4) (M 5)) u n) := by
    unfold p_R_wayBack
    rw [e0, Option.bind_some]
    refine for_ok 10 (fun (k : Nat) (s : Int × oM) => s.1 = (k : Int) ∧ eqo [(46, (-1))] M s.2 ∧ bfI (wE (M 7)) (wW q (M 4) (M 5)) h (fun v => s.2 46 (v : Int)) 0 (fun v => s.2 46 (v : Int)) ∧ bfC (wE (M 7)) (wW q (M 4) (M 5)) h k (fun v => s.2 46 (v : Int))) ?_ ?_ f (Nat.lt_trans (by decide) hf) ⟨rfl, f0, ?_, fun n u v h1 h2 => absurd (Nat.le_trans h1 h2) (by decide)⟩
    · intro k s hk hI
      obtain ⟨j, N⟩ := s
      obtain ⟨h1, h2, h3, h4⟩ := hI
      simp only at h1 h2 h3 h4
      subst h1
      have e7 : N 7 = M 7 := eqo_a h2 7 rfl
      have e4 : N 4 = M 4 := eqo_a h2 4 rfl
      have e5 : N 5 = M 5 := eqo_a h2 5 rfl
      obtain ⟨N', g1, g2, g3⟩ := far_round (f := f) (h := h) (q := q) (k := (k : Int)) (M := N) hf (e4 ▸ hX) (e5 ▸ hY) (by rw [e7, e4, e5]; exact h3)
      rw [e7, e4, e5] at g3
      unfold p_R_wayBack_L12
      simp only []
      rw [if_pos (nat9 hk).2, g1, Option.bind_some]
      unfold p_R_wayBack_X22
      rw [lt_eq, w32nat (Nat.lt_trans hk (by decide))]
      exact ⟨rfl, eqo_tt h2 g2, bf_restart g3, bf_round (fun a b ha hb => (wW_bd hX hY ha hb).1) g3 h4⟩
    · intro s hI
      obtain ⟨j, N⟩ := s
      obtain ⟨h1, h2, h3, h4⟩ := hI
      simp only at h1 h2 h3 h4
      subst h1
      unfold p_R_wayBack_L12
      simp only []
      rw [if_neg (show ¬ (((10 : Nat) : Int) < 10) by decide), bnd_eq (nat9 hh).1 (nat9 hh).2]
      have := h3.1 h hh
      exact ⟨this.2.1, this.2.2.2, fun n u a1 a2 a3 => h4 n u h a1 a2 a3⟩
    · refine ⟨fun v hv => ?_, fun c v _ _ hl => absurd hl (Nat.not_lt_zero _)⟩
      have e : q0.2 46 (v : Int) = 1000000 := h0 _ (nat9 hv).1 (nat9 hv).2
      show 1 ≤ q0.2 46 (v : Int) ∧ q0.2 46 (v : Int) ≤ 1000000 ∧ _
      refine ⟨by rw [e]; decide, by rw [e]; decide, Int.le_refl _, fun hx => ?_⟩
      have hx' : q0.2 46 (v : Int) < 1000000 := hx
      rw [e] at hx'
      exact absurd hx' (by decide)
  obtain ⟨r, er, hr⟩ := okp_ex hr
  exact ⟨r.1, r.2, er, hr⟩
