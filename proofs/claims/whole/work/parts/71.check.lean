/-! check -/
theorem oweS_untold {T : Nat} {h p : Int} {D : Int → Int} (hd : rOk T h D) (hp : 0 ≤ p ∧ p < 10) (ht : tldb T p = false) : oweS D p = 0 := by
  unfold oweS
  rw [sumN_congr 10 (g' := fun _ => 0) (fun k hk => ?_)]
  · rfl
  · have h1 := hd.1 (10 * p + (k : Int)) (by omega) (by omega)
    by_cases q : 0 < D (10 * p + (k : Int))
    · have := (hd.2.1 p k hp.1 hp.2 (by omega) (by omega) q).1
      unfold tld at this
      rw [ht] at this; cases this
    · omega
theorem Rel_tape0 {T : Nat} {c : Int} {Mc Mr Mc' Mr' : oM} {w1 w2 : List (Nat × Int)} (h : Rel T c Mc Mr) (e1 : eqo w1 Mc Mc') (e2 : eqo w2 Mr Mr')
    (k : ((outw w1 3 2 && (outa w1 4 && (outa w1 5 && (outw w2 57 5 && (outa w2 61 && outa w2 62))))) && ((outa w1 6 && (outa w1 (6 + 1) && (outa w1 (6 + 2) && outa w1 (6 + 3)))) && ((outw w1 0 13 && (outa w1 10 && (outa w1 11 && (outa w1 12 && (outa w1 13 && (outw w2 57 61 && outa w2 60)))))) && ((outw w1 18 10 && (outa w1 19 && (outa w1 20 && (outa w1 21 && (outa w1 22 && (outa w1 23 && (outa w1 24 && (outw w2 57 16 && (outa w2 70 && (outa w2 71 && (outa w2 72 && (outa w2 73 && outa w2 74)))))))))))) && outw w1 56 0)))) = true)
    (h58 : ∀ i : Int, 0 ≤ i → i < 159 → Mr' 58 i = Mr 58 i) (t1 : Mc' 1 1 = 0) (t2 : Mr' 57 7 = 0) : Rel T (c + 1) Mc' Mr' := by
  obtain ⟨k1, k⟩ := (Bool.and_eq_true _ _).mp k
  obtain ⟨k2, k⟩ := (Bool.and_eq_true _ _).mp k
  obtain ⟨k3, k⟩ := (Bool.and_eq_true _ _).mp k
  obtain ⟨k4, k5⟩ := (Bool.and_eq_true _ _).mp k
  obtain ⟨h1, h2, h3, h4, h5, h6, h7⟩ := h
  exact ⟨pplR_eqo h1 e1 e2 k1, dC_congr (dC_eqo h2 e1 k2) h3 h58, rOk_mono (rOk_congr h3 h58) (by omega), keptR_mono (keptR_eqo h4 e1 e2 k3) (by omega), ⟨by omega, by omega, fun i i0 i1 => by omega⟩, lawR_eqo h6 e1 e2 k4, by rw [e1 56 0 k5]; exact h7⟩
theorem call_check {f T : Nat} {c n : Int} {Mc Mr : oM} (hf : 2000 < f) (h : Rel T c Mc Mr) : Same f c (p_O_check f n Mc) (p_M_check f n Mr) := by
  obtain ⟨hp, hd, ho, hk, ht, hl, hz⟩ := id h
  obtain ⟨t1, t2, t3⟩ := id ht
  by_cases hn : 0 ≤ n ∧ n ≤ 10 ∧ n ≤ Mc 1 1
  · obtain ⟨M0, e0, r0, f0⟩ := e_T_opens (f := f) (n := n) (lo := 0) (hi := 10) ht (by omega) hn
    let v : Int → Int := fun p => if 255 < oweS (Mr 58) p then 255 else oweS (Mr 58) p
    have hloop : okp (iter (p_M_check_L28 f n) f (0, oU Mr 57 7 0)) (fun q' => okp (iter (p_O_check_L21 f n) f (-1, 0, M0)) (fun q => q.1 = q'.1 ∧ q.2 1 1 = 0 ∧ q'.2 57 7 = 0)) := by
      refine iter2x_ok (fun m s s' => ∃ k : Int, ∃ N : oM, s = (k, oU Mr 57 7 0) ∧ s' = (-1, k, N) ∧ (m : Int) = n - k ∧ 0 ≤ k ∧ rdC (Mc 2) n N k ∧ eqo [(1, 2), (1, 3), (1, 4)] Mc N) 3 ?_ n.toNat f f (by omega) (by omega) ⟨0, M0, rfl, rfl, by omega, by omega, r0, f0⟩
      intro m s s' ⟨k, N, hs, hs', i1, i2, i3, i4⟩
      subst hs; subst hs'
      have hdd : dOk (N (6 + 1)) := by rw [eqo_a i4 (6 + 1) rfl]; exact dC_dOk hd ho
      have hnx : N 1 4 = chT (Mc 2) n k := i3.2.2.2.2.1
      unfold p_M_check_L28
      simp only []
      by_cases hend : k < n
      · have kr : 0 ≤ k ∧ k < 10 := by omega
        rw [if_pos hend, bnd_eq (by omega) (by omega), e_M_isPerson (M := oU Mr 57 7 0) (T := T) (by rw [oU_i (by omega)]; exact hp.2.2.1) hp.1]
        simp only [Option.bind_some]
        have hrefv : ∀ {α : Type} (K : Int → Option α), (if b01 (tldb T k) = 0 then K 0 else ((p_M_owesAll f k (oU Mr 57 7 0)).bind fun q4 => (p_M_min f 255 q4.1 q4.2).bind fun q5 => K q5.1)) = K (v k) := by
          intro α K
          cases htl : tldb T k with
          | false =>
            rw [b01_f, if_pos rfl]
            show K 0 = K (if 255 < oweS (Mr 58) k then 255 else oweS (Mr 58) k)
            rw [oweS_untold ho kr htl, if_neg (by omega)]
          | true =>
            rw [b01_t, if_neg (by omega), e_M_owesAll (by omega) kr (by rw [oU_row (by omega)]; exact rOk_dOk ho)]
            simp only [Option.bind_some]
            rw [e_M_min, oU_row (by omega)]
            simp only [Option.bind_some]
            rfl
        have hmem : ∀ x : Int, (if b01 (tldb T k) = 0 then (p_M_check_B66_28 f n k x 0 (oU Mr 57 7 0)) else ((p_M_owesAll f k (oU Mr 57 7 0)).bind fun q4 => (p_M_min f 255 q4.1 q4.2).bind fun q5 => p_M_check_B66_28 f n k x q5.1 q5.2)) = p_M_check_B66_28 f n k x (v k) (oU Mr 57 7 0) := by
          intro x
          rw [← hrefv (fun y => p_M_check_B66_28 f n k x y (oU Mr 57 7 0))]
          cases htl : tldb T k with
          | false => rfl
          | true =>
            rw [b01_t, if_neg (by omega), if_neg (by omega), e_M_owesAll (by omega) kr (by rw [oU_row (by omega)]; exact rOk_dOk ho)]
            simp only [Option.bind_some]
            rw [e_M_min]
            simp only [Option.bind_some]
        rw [hmem]
        unfold p_M_check_B66_28
        have hb : iand (oU Mr 57 7 0 63 k) 255 = Mc 2 k := by
          rw [oU_o (by omega)]; exact (t3 k i2 (by omega)).2
        rw [hb]
        have hch : chT (Mc 2) n k = Mc 2 k := by unfold chT; rw [if_pos hend]
        have hcls : ∀ w : Int, imin (oweS (N (6 + 1)) k) 255 = w → w = v k := by
          intro w hw
          rw [← hw, eqo_a i4 (6 + 1) rfl, oweS_congr (d := Mc (6 + 1)) kr hd.1]
          rfl
        obtain ⟨N2, e2, r2, f2⟩ := e_T_step (f := f) i3 (by omega)
        have c1 : p_O_check_L21 f n (-1, k, N) = if Mc 2 k = v k then some (.inl (-1, k + 1, N2)) else some (.inl (k, k + 1, N2)) := by
          unfold p_O_check_L21 p_T_next p_O_check_B57_21
          simp only []
          rw [if_pos hend, if_pos trivial]
          simp only [Option.bind_some]
          rw [e_D_owedBy' (by omega) kr hdd]
          simp only [Option.bind_some]
          rw [hnx, hch, hcls _ rfl, e2]
          simp only [Option.bind_some]
          rw [lt_eq, lt_eq, w32_of (by omega) (by omega)]
        have f02 : eqo [(1, 2), (1, 3), (1, 4)] Mc N2 := eqo_tr (subw_cons (.tail _ (.head _)) (subw_cons (.tail _ (.tail _ (.head _))) subw_nil)) i4 f2
        by_cases z : Mc 2 k = v k
        · rw [if_pos z, lt_eq, w32_of (by omega) (by omega)]
          rw [if_pos z] at c1
          exact okp_eq c1 ⟨_, rfl, m - 1, by omega, k + 1, N2, rfl, rfl, by omega, by omega, r2, f02⟩
        · rw [if_neg z]
          rw [if_neg z] at c1
          intro f' hf'
          have c2 : p_O_check_L21 f n (k, k + 1, N2) = some (.inr (k, oU N2 1 1 0)) := by
            unfold p_O_check_L21 p_O_check_B70_21 p_T_clear
            simp only [lt_eq, Option.bind_some]
            rw [if_neg (c := k = -1) (by omega), ite_self]
          rw [show f' = f' - 2 + 1 + 1 from by omega, iter_inl c1, iter_inr c2]
          exact ⟨rfl, (show oU N2 1 1 0 1 1 = 0 from oU_at), (show oU Mr 57 7 0 57 7 = 0 from oU_at)⟩
      · rw [if_neg hend]
        intro f' hf'
        have c2 : p_O_check_L21 f n (-1, k, N) = some (.inr (-1, oU N 1 1 0)) := by
          unfold p_O_check_L21 p_O_check_B70_21 p_T_clear
          simp only [lt_eq, Option.bind_some]
          rw [if_neg hend]
        rw [show f' = f' - 1 + 1 from by omega, iter_inr c2]
        exact ⟨rfl, (show oU N 1 1 0 1 1 = 0 from oU_at), (show oU Mr 57 7 0 57 7 = 0 from oU_at)⟩
    obtain ⟨q, eq, hq⟩ := okp_ex (okp_swap hloop)
    obtain ⟨q', eq', h1, h2, h3⟩ := okp_ex hq
    have e1 : p_O_check f n Mc = some (q.1, q.2) := by
      unfold p_O_check
      rw [e0]
      simp only [Option.bind_some]
      rw [if_neg (by omega)]
      exact eq
    have e2 : p_M_check f n Mr = some (q.1, q'.2) := by
      unfold p_M_check
      rw [e_M_in, in_t ⟨hn.1, hn.2.1⟩]
      simp only [Option.bind_some]
      rw [b01_t, if_neg (by omega), t2, if_neg (by omega), lt_eq, h1]
      exact eq'
    have g1 := fr_O_check (eqo_rfl _ _) _ e1
    have g2 := fr_M_check (eqo_rfl _ _) _ e2
    exact same_upd e1 e2 ⟨T, Rel_tape0 h g1 g2 rfl (fun i _ _ => g2 58 i rfl) h2 h3⟩
  · refine same_some (r := -2) h ?_ ?_
    · unfold p_O_check
      rw [e_T_opens_no hn]
      simp (disch := omega) only [bnd_eq, nz_eq, lt_eq, if_pos, if_neg, w32_of, if_true, if_false, not_true_eq_false, not_false_eq_true, Option.bind_some, oU_at, oU_o, oU_i, b01_t, b01_f]
    · unfold p_M_check
      rw [e_M_in]
      simp only [Option.bind_some]
      by_cases z : 0 ≤ n ∧ n ≤ 10
      · rw [in_t z, b01_t, if_neg (by omega), t2, if_pos (by omega)]
      · rw [in_f z, b01_f, if_pos rfl]
