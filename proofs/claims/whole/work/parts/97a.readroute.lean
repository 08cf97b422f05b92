/-! ROUTE: the text, by both -/
theorem read_ok {f T : Nat} {c n : Int} {Mc Mr : oM} (hf : 2000 < f) (h : Rel T c Mc Mr) (hn : 1 ≤ n ∧ n ≤ 60 ∧ n ≤ Mc 1 1) : ∃ x N0 N1 M1, p_T_opens f n 1 60 Mc = some (1, N0) ∧ p_RR_read f N0 = some (x, N1) ∧ p_M_readsRoute f n Mr = some (x, M1) ∧ M1 57 7 = 0 ∧ eqo ((1, 2) :: wrC) Mc N1 ∧ eqo ((57, 9) :: (57, 7) :: wrM) Mr M1 ∧ (x = 0 → ∃ len, rwE N1 M1 len) := by
  obtain ⟨hp, hd, ho, hk, ht, hlaw, h56⟩ := id h
  obtain ⟨N0, a1, a2, a3⟩ := e_T_opens (f := f) (hi := 60) ht (by decide) hn
  generalize hNa : oU N0 39 2 0 = Na
  generalize hM6 : oU (oU (oU (oU Mr 57 8 0) 57 9 n) 57 40 0) 57 41 0 = M6
  have rC : rdC (Mc 2) n Na 0 := by rw [← hNa]; exact rdC_o a2 (by decide) (by decide)
  have rM : rdM (Mc 2) n M6 0 := by
    have e63 : M6 63 = Mr 63 := by rw [← hM6, oU_row (by decide), oU_row (by decide), oU_row (by decide), oU_row (by decide)]
    refine ⟨⟨by omega, by omega⟩, fun i i0 i1 => ?_, ?_, ?_, by decide, by decide⟩
    · rw [e63]
      have := ht.2.2 i i0 (by omega)
      exact ⟨this.2, this.1⟩
    · rw [← hM6, oU_i (by decide), oU_i (by decide), oU_at]
    · rw [← hM6, oU_i (by decide), oU_i (by decide), oU_i (by decide), oU_at]
  have hR : rtR (Mc 2) n Na M6 0 0 0 Na M6 := ⟨rC, rM, by omega, ⟨by rw [← hNa, oU_at], by rw [← hM6, oU_i (by decide), oU_at], by decide, fun i i0 i1 => by omega⟩, by rw [← hM6, oU_at], eqo_rfl _ _, eqo_rfl _ _⟩
  have fNa : eqo ((1, 2) :: wrC) Mc Na := by
    rw [← hNa]
    exact eqo_oU (.tail _ (.tail _ (.tail _ (.head _)))) (eqo_tr (subw_cons (.head _) (subw_cons (.tail _ (.head _)) (subw_cons (.tail _ (.tail _ (.head _))) subw_nil))) (eqo_rfl _ _) a3)
  have fM6 : eqo ((57, 9) :: (57, 7) :: wrM) Mr M6 := by
    rw [← hM6]
    exact eqo_oU (.tail _ (.tail _ (.tail _ (.tail _ (.tail _ (.head _)))))) (eqo_oU (.tail _ (.tail _ (.tail _ (.tail _ (.head _))))) (eqo_oU (.head _) (eqo_oU (.tail _ (.tail _ (.head _))) (eqo_rfl _ _))))
  obtain ⟨q, e1, hq⟩ := okp_ex (list_ok (F := f) hf hn.2.1 2 5 0 0 0 Na M6 (by decide) (by decide) (Int.le_refl 0) (.inl ⟨rfl, Int.le_refl 0, by omega⟩) hR)
  have eC : p_RR_read f N0 = some (q.1, q.2) := by
    unfold p_RR_read
    rw [lt_eq, hNa, e1, Option.bind_some]
  have eM : ∀ R, RT f (100 - 0) M6 R → p_M_readsRoute f n Mr = some R := by
    intro R hRT
    have hrt : ∀ M1, p_M_readsTimes f M6 = some (0, M1) → 0 ≤ M1 57 41 := by
      intro M1 hM1
      obtain ⟨p2, t2, N2, M2, -, j2, j3, -⟩ := times_ok (F := f) (rec := fun _ _ => none) hn.2.1 hR
      rw [hM1] at j2
      have e2 : M1 = M2 := (Prod.mk.inj (Option.some.inj j2)).2
      rw [e2, j3.2.2.2.2.1]; decide
    obtain ⟨y, y1, y2⟩ := item_of_RT hf hrt hRT
    unfold p_M_readsRoute
    rw [lt_eq, lt_eq, lt_eq, lt_eq, hM6, y1, Option.bind_some]
    exact y2 f (by omega)
  have wkC : ∀ {N1 : oM}, eqo wrC Na N1 → eqo ((1, 2) :: wrC) Mc N1 := fun k => eqo_tr subw_tl fNa k
  have wkM : ∀ {M1 : oM}, eqo ((57, 7) :: wrM) M6 M1 → eqo ((57, 9) :: (57, 7) :: wrM) Mr M1 := fun k => eqo_tr subw_tl fM6 k
  rcases hq with ⟨x1, x2, M'', x3, x4, x5⟩ | ⟨x1, p', len', M', x2, x3, x4, x5, x6, x7, x8⟩
  · exact ⟨q.1, N0, q.2, M'', a1, eC, eM _ x3, x4, wkC x2, wkM x5, fun z => absurd z x1⟩
  · obtain ⟨y1, y2, y3, y4, y5, y6, y7⟩ := x3
    have hend := RC_end (F := f) (K := 101 - p') (by omega) y2 y5 (x6 rfl)
    refine ⟨q.1, N0, q.2, oU M' 57 7 0, a1, eC, by rw [x1]; exact eM _ (x8 _ hend), oU_at, wkC y6, wkM (eqo_oU (.head _) (eqo_wk y7)), fun _ => ⟨len', y4.1, (oU_i (by decide)).trans y4.2.1, y4.2.2.1, fun i i0 i1 => by rw [oU_o (by decide)]; exact y4.2.2.2 i i0 i1⟩⟩
/-! walking, by both -/
def pvw (H : Int) (row : Nat → Int) : Nat → Int
  | 0 => H
  | k + 1 => row k
def hhw (X Y : Int → Int) (H : Int) (row : Nat → Int) (k : Nat) : Int := sumN (fun j => wayS X Y (pvw H row j) (row j)) k
theorem pay_holder {f o : Nat} {a b : Int} {N : oM} (ho : o = 6 ∨ o = 14) : par (p_D_pay f o a b N) (fun q => q.2 o 4 = b) := by
  have hB : ∀ M : oM, par (p_D_pay_B24 f o b M) (fun q => q.2 o 4 = b) := by
    intro M
    unfold p_D_pay_B24 p_D_giveTo
    simp only [lt_eq, Option.bind_some]
    refine par_bind (fr_D_write (eqo_rfl _ _)) fun q2 h2 => par_some ?_
    show q2.2 o 4 = b
    have h4 : q2.2 o 4 = (oU (oU (oU (oU M o 4 b) o 5 (-1)) o 6 (-1)) o 7 0) o 4 := by
      rcases ho with rfl | rfl
      · exact h2 6 4 rfl
      · exact h2 14 4 rfl
    rw [h4, oU_i (by decide), oU_i (by decide), oU_i (by decide), oU_at]
  unfold p_D_pay
  refine par_bind (fr_D_debtOf (eqo_rfl [] N)) fun q3 _ => ?_
  refine par_ite ?_ (hB _)
  refine par_bnd fun i4 => par_bnd fun i5 => ?_
  exact hB _
