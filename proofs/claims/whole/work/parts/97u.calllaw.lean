/-! LAW: the call -/
def lfC : List (Nat × Int) := [(1, 1), (1, 2), (1, 3), (1, 4), (27, 9), (27, 10), (28, (-1)), (29, (-1)), (30, (-1)), (31, (-1)), (32, (-1)), (33, (-1))]
def lfM : List (Nat × Int) := [(57, 7), (57, 8), (57, 9), (57, 10), (57, 11), (57, 12), (57, 13), (57, 14), (57, 15), (64, (-1)), (65, (-1)), (66, (-1)), (67, (-1)), (68, (-1)), (69, (-1))]
def lcC : List (Nat × Int) := [(18, 9), (18, 10), (19, (-1)), (20, (-1)), (21, (-1)), (22, (-1)), (23, (-1)), (24, (-1)), (1, 1), (1, 2), (1, 3), (1, 4), (27, 9), (27, 10), (28, (-1)), (29, (-1)), (30, (-1)), (31, (-1)), (32, (-1)), (33, (-1))]
def lcM : List (Nat × Int) := [(57, 16), (70, (-1)), (71, (-1)), (72, (-1)), (73, (-1)), (74, (-1)), (57, 7), (57, 8), (57, 9), (57, 10), (57, 11), (57, 12), (57, 13), (57, 14), (57, 15), (64, (-1)), (65, (-1)), (66, (-1)), (67, (-1)), (68, (-1)), (69, (-1))]
theorem sub_lfC : subw lwC lfC := by
  unfold lwC lfC
  repeat' first | exact subw_nil | refine subw_cons (by decide) ?_
theorem sub_lfM : subw lwM lfM := by
  unfold lwM lfM
  repeat' first | exact subw_nil | refine subw_cons (by decide) ?_
theorem sub_lcC : subw lfC lcC := by
  unfold lfC lcC
  repeat' first | exact subw_nil | refine subw_cons (by decide) ?_
theorem sub_lcM : subw lfM lcM := by
  unfold lfM lcM
  repeat' first | exact subw_nil | refine subw_cons (by decide) ?_
theorem copy70 {f : Nat} {z : Int} {M : oM} (hf : 2000 < f) (hz : M 57 13 = z) (hb : 0 ≤ z ∧ z ≤ 240) : ∃ N : oM, iter (p_M_law_L110 f) f (0, M) = some N ∧ (∀ i : Int, 0 ≤ i → i < z → N 70 i = M 64 i) ∧ eqo [(70, (-1))] M N := by
  obtain ⟨m, hm⟩ : ∃ m : Nat, (m : Int) = z := ⟨z.toNat, Int.toNat_of_nonneg hb.1⟩
  have h : okp (iter (p_M_law_L110 f) f (0, M)) (fun N => (∀ i : Int, 0 ≤ i → i < z → N 70 i = M 64 i) ∧ eqo [(70, (-1))] M N) := by
    refine for_ok m (fun (k : Nat) (s : Int × oM) => s.1 = (k : Int) ∧ eqo [(70, (-1))] M s.2 ∧ ∀ i : Int, 0 ≤ i → i < (k : Int) → s.2 70 i = M 64 i) (fun k s hk hI => ?_) (fun s hI => ?_) f (by omega) ⟨rfl, eqo_rfl _ _, fun i i0 i1 => by omega⟩
    · obtain ⟨j, M'⟩ := s
      obtain ⟨i1, i2, i3⟩ := hI
      simp only at i1 i2 i3
      have hkm : (k : Int) < m := nat_lt hk
      unfold p_M_law_L110
      simp only []
      rw [i1, show M' 57 13 = z from (eqo_f i2 57 13 rfl).trans hz, if_pos (by omega), bnd_eq (by omega) (by omega), bnd_eq (by omega) (by omega), lt_eq, w32_of (a := (k : Int) + 1) (by omega) (by omega), lt_eq]
      refine ⟨rfl, eqo_oUa (.head _) i2, fun i i0 i1 => ?_⟩
      show oU M' 70 k (M' 64 k) 70 i = _
      by_cases q : i = k
      · rw [q, oU_at, eqo_a i2 64 rfl]
      · rw [oU_i q]; exact i3 i i0 (by omega)
    · obtain ⟨j, M'⟩ := s
      obtain ⟨i1, i2, i3⟩ := hI
      simp only at i1 i2 i3
      unfold p_M_law_L110
      simp only []
      rw [i1, show M' 57 13 = z from (eqo_f i2 57 13 rfl).trans hz, if_neg (by omega)]
      exact ⟨fun i i0 i1 => i3 i i0 (by omega), i2⟩
  obtain ⟨N, eN, h1⟩ := okp_ex h
  exact ⟨N, eN, h1⟩
def cp4 (k : Int) (M N : oM) : Prop := ∀ i : Int, 0 ≤ i → i < k → N 71 i = M 66 i ∧ N 72 i = M 67 i ∧ N 73 i = M 68 i ∧ N 74 i = M 69 i
theorem copy71 {f : Nat} {z : Int} {M : oM} (hf : 2000 < f) (hz : M 57 15 = z) (hb : 0 ≤ z ∧ z ≤ 16) : ∃ N : oM, iter (p_M_law_L138 f) f (0, M) = some (z, N) ∧ cp4 z M N ∧ eqo [(71, (-1)), (72, (-1)), (73, (-1)), (74, (-1))] M N := by
  obtain ⟨m, hm⟩ : ∃ m : Nat, (m : Int) = z := ⟨z.toNat, Int.toNat_of_nonneg hb.1⟩
  have h : okp (iter (p_M_law_L138 f) f (0, M)) (fun q => q.1 = z ∧ cp4 z M q.2 ∧ eqo [(71, (-1)), (72, (-1)), (73, (-1)), (74, (-1))] M q.2) := by
    refine for_ok m (fun (k : Nat) (s : Int × oM) => s.1 = (k : Int) ∧ eqo [(71, (-1)), (72, (-1)), (73, (-1)), (74, (-1))] M s.2 ∧ cp4 k M s.2) (fun k s hk hI => ?_) (fun s hI => ?_) f (by omega) ⟨rfl, eqo_rfl _ _, fun i i0 i1 => by omega⟩
    · obtain ⟨j, M'⟩ := s
      obtain ⟨i1, i2, i3⟩ := hI
      simp only at i1 i2 i3
      have hkm : (k : Int) < m := nat_lt hk
      unfold p_M_law_L138
      simp only []
      rw [i1, show M' 57 15 = z from (eqo_f i2 57 15 rfl).trans hz, if_pos (by omega)]
      simp only [bnd_eq (n := 16) (i := (k : Int)) (by omega) (by omega), lt_eq]
      rw [w32_of (a := (k : Int) + 1) (by omega) (by omega)]
      have e66 := eqo_a i2 66 rfl
      have e67 := eqo_a i2 67 rfl
      have e68 := eqo_a i2 68 rfl
      have e69 := eqo_a i2 69 rfl
      have key : ∀ a b c d : Int, a = M 66 k → b = M 67 k → c = M 68 k → d = M 69 k → cp4 ((k + 1 : Nat) : Int) M (oU (oU (oU (oU M' 71 k a) 72 k b) 73 k c) 74 k d) := by
        intro a b c d ha hb hc hd i i0 i1
        by_cases q : i = k
        · rw [q]
          refine ⟨?_, ?_, ?_, ?_⟩
          · rw [oU_o (by decide), oU_o (by decide), oU_o (by decide), oU_at]; exact ha
          · rw [oU_o (by decide), oU_o (by decide), oU_at]; exact hb
          · rw [oU_o (by decide), oU_at]; exact hc
          · rw [oU_at]; exact hd
        · obtain ⟨k1, k2, k3, k4⟩ := i3 i i0 (by omega)
          refine ⟨?_, ?_, ?_, ?_⟩
          · rw [oU_o (by decide), oU_o (by decide), oU_o (by decide), oU_i q]; exact k1
          · rw [oU_o (by decide), oU_o (by decide), oU_i q, oU_o (by decide)]; exact k2
          · rw [oU_o (by decide), oU_i q, oU_o (by decide), oU_o (by decide)]; exact k3
          · rw [oU_i q, oU_o (by decide), oU_o (by decide), oU_o (by decide)]; exact k4
      refine ⟨rfl, eqo_oUa (.tail _ (.tail _ (.tail _ (.head _)))) (eqo_oUa (.tail _ (.tail _ (.head _))) (eqo_oUa (.tail _ (.head _)) (eqo_oUa (.head _) i2))), key _ _ _ _ ?_ ?_ ?_ ?_⟩
      · rw [e66]
      · rw [oU_o (by decide), e67]
      · rw [oU_o (by decide), oU_o (by decide), e68]
      · rw [oU_o (by decide), oU_o (by decide), oU_o (by decide), e69]
    · obtain ⟨j, M'⟩ := s
      obtain ⟨i1, i2, i3⟩ := hI
      simp only at i1 i2 i3
      unfold p_M_law_L138
      simp only []
      rw [i1, show M' 57 15 = z from (eqo_f i2 57 15 rfl).trans hz, if_neg (by omega)]
      exact ⟨rfl, fun i i0 i1 => i3 i i0 (by omega), i2⟩
  obtain ⟨q, eq, h1, h2⟩ := okp_ex h
  exact ⟨q.2, by rw [eq, ← h1], h2⟩
def tkN (N : oM) : oM := oU (oU (acopy (acopy (acopy (acopy (acopy (acopy N 28 0 19 0 240) 29 0 20 0 240) 30 0 21 0 16) 31 0 22 0 16) 32 0 23 0 16) 33 0 24 0 16) 18 9 (N 27 9)) 18 10 (N 27 10)
theorem e_takeFrom {f : Nat} {N : oM} : p_L_takeFrom f N = some (0, tkN N) := by
  unfold p_L_takeFrom
  simp only [cpg_eq (α := Int × oM) (n0 := 240) (n1 := 240) (sp := 0) (dp := 0) (n := 240) (by decide), cpg_eq (α := Int × oM) (n0 := 16) (n1 := 16) (sp := 0) (dp := 0) (n := 16) (by decide), lt_eq]
  rfl
theorem acopy_row {M : oM} {s d o : Nat} {sp dp n : Int} (h : o ≠ d) : acopy M s sp d dp n o = M o := funext fun i => acopy_o h
theorem tkN_rows {N : oM} : (∀ i : Int, 0 ≤ i → i < 240 → tkN N 19 i = N 28 i ∧ tkN N 20 i = N 29 i) ∧ (∀ i : Int, 0 ≤ i → i < 16 → tkN N 21 i = N 30 i ∧ tkN N 22 i = N 31 i ∧ tkN N 23 i = N 32 i ∧ tkN N 24 i = N 33 i) ∧ tkN N 18 10 = N 27 10 := by
  have z0 : ∀ i : Int, (0 : Int) + (i - 0) = i := fun i => by omega
  unfold tkN
  refine ⟨fun i i0 i1 => ⟨?_, ?_⟩, fun i i0 i1 => ⟨?_, ?_, ?_, ?_⟩, oU_at⟩
  · rw [oU_o (by decide), oU_o (by decide), acopy_o (by decide), acopy_o (by decide), acopy_o (by decide), acopy_o (by decide), acopy_o (by decide), acopy_in i0 (by omega), z0]
  · rw [oU_o (by decide), oU_o (by decide), acopy_o (by decide), acopy_o (by decide), acopy_o (by decide), acopy_o (by decide), acopy_in i0 (by omega), z0, acopy_o (by decide)]
  · rw [oU_o (by decide), oU_o (by decide), acopy_o (by decide), acopy_o (by decide), acopy_o (by decide), acopy_in i0 (by omega), z0, acopy_o (by decide), acopy_o (by decide)]
  · rw [oU_o (by decide), oU_o (by decide), acopy_o (by decide), acopy_o (by decide), acopy_in i0 (by omega), z0, acopy_o (by decide), acopy_o (by decide), acopy_o (by decide)]
  · rw [oU_o (by decide), oU_o (by decide), acopy_o (by decide), acopy_in i0 (by omega), z0, acopy_o (by decide), acopy_o (by decide), acopy_o (by decide), acopy_o (by decide)]
  · rw [oU_o (by decide), oU_o (by decide), acopy_in i0 (by omega), z0, acopy_o (by decide), acopy_o (by decide), acopy_o (by decide), acopy_o (by decide), acopy_o (by decide)]
theorem tkN_fr {B N : oM} (h : eqo lcC B N) : eqo lcC B (tkN N) := by
  unfold tkN
  exact eqo_oU (by decide) (eqo_oU (by decide) (eqo_ac (by decide) (eqo_ac (by decide) (eqo_ac (by decide) (eqo_ac (by decide) (eqo_ac (by decide) (eqo_ac (by decide) h)))))))
def relKl (w1 w2 : List (Nat × Int)) : Bool :=
  (outw w1 3 2 && (outa w1 4 && (outa w1 5 && (outw w2 57 5 && (outa w2 61 && outa w2 62))))) &&
  ((outw w1 0 13 && (outa w1 10 && (outa w1 11 && (outa w1 12 && (outa w1 13 && (outw w2 57 61 && outa w2 60)))))) && outw w1 56 0)
theorem Rel_law {T : Nat} {c : Int} {Mc Mr Mc' Mr' : oM} {w1 w2 : List (Nat × Int)} (h : Rel T c Mc Mr) (e1 : eqo w1 Mc Mc') (e2 : eqo w2 Mr Mr') (k : relKl w1 w2 = true) (hd : dC Mc' 6 (Mr' 58)) (ho : rOk T (240 * (c + 1)) (Mr' 58)) (t1 : Mc' 1 1 = 0) (t2 : Mr' 57 7 = 0) (hl : lawR Mc' Mr') : Rel T (c + 1) Mc' Mr' := by
  unfold relKl at k
  obtain ⟨k1, k⟩ := (Bool.and_eq_true _ _).mp k
  obtain ⟨k3, k6⟩ := (Bool.and_eq_true _ _).mp k
  obtain ⟨h1, h2, h3, h4, h5, h6, h7⟩ := h
  exact ⟨pplR_eqo h1 e1 e2 k1, hd, ho, keptR_mono (keptR_eqo h4 e1 e2 k3) (by omega), ⟨by omega, by omega, fun i i0 i1 => by omega⟩, hl, by rw [e1 56 0 k6]; exact h7⟩
