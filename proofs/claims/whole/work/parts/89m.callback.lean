/-! the way back: the call -/
theorem wE_congr {d d' : Int → Int} (h : ∀ i : Int, 0 ≤ i → i < 100 → d i = d' i) {a b : Nat} (ha : a < 10) (hb : b < 10) : wE d a b ↔ wE d' a b := by
  unfold wE
  rw [h _ (nat100 ha hb).1 (nat100 ha hb).2]
theorem back_eq {f p : Nat} {q : Int} {M B : oM} {F : Int} (hp : p < 10) (hX : spotOk (M 4)) (hY : spotOk (M 5)) (hd : ∀ i : Int, 0 ≤ i → i < 100 → M 7 i = B 58 i) (hXY : ∀ i : Int, 0 ≤ i → i < 10 → M 4 i = B 61 i ∧ M 5 i = B 62 i) {D : Nat → Nat → Int} (hD : D = if q = 0 then iD1 (B 58) else iD2 (B 58) (B 61) (B 62)) (hO : flOk D)
    (f1 : F ≤ 1000000) (f2 : F < 1000000 → ∃ n u, 1 ≤ n ∧ WF (wE (M 7)) u n p p ∧ wlen (wW q (M 4) (M 5)) u n = F) (f3 : ∀ n u, 1 ≤ n → n ≤ 10 → WF (wE (M 7)) u n p p → F ≤ wlen (wW q (M 4) (M 5)) u n) : ∀ m, m = 10 → F = flR D m p p := by
  intro m hm
  have hv : ∀ x y, x < 10 → y < 10 → wE (M 7) x y → D x y = wW q (M 4) (M 5) x y := by
    intro x y hx hy hE
    have hE' : 0 < B 58 (10 * (x : Int) + y) := (wE_congr hd hx hy).1 hE
    rw [hD]
    unfold wW iD1 iD2
    by_cases q0 : q = 0
    · rw [if_pos q0, if_pos q0, if_pos hE']
    · rw [if_neg q0, if_neg q0, if_pos hE']
      exact wayS_congr (nat9 hx) (nat9 hy) (fun i i0 i1 => ⟨(hXY i i0 i1).1.symm, (hXY i i0 i1).2.symm⟩)
  refine back_math (E := wE (M 7)) (w := wW q (M 4) (M 5)) hm (fun a b ha hb => Int.le_trans (by decide) (wW_bd hX hY ha hb).1) hO (fun x y hx hy hl => ?_) hv hp f1 f2 f3
  have hE : wE (M 7) x y := by
    rw [wE_congr hd hx hy]
    unfold wE
    by_cases z : 0 < B 58 (10 * (x : Int) + y)
    · exact z
    · rw [hD] at hl
      unfold iD1 iD2 at hl
      by_cases q0 : q = 0
      · rw [if_pos q0, if_neg z] at hl; exact absurd hl (by decide)
      · rw [if_neg q0, if_neg z] at hl; exact absurd hl (by decide)
  exact ⟨hE, (hv x y hx hy hE).symm⟩
theorem w11 {p : Nat} (hp : p < 10) : w32 (11 * (p : Int)) = 10 * (p : Int) + p := by
  rw [w32_of (by omega) (by omega)]; omega
theorem back_B {f T : Nat} {c p what : Int} {Mc Mr : oM} (hf : 2000 < f) (h : Rel T c Mc Mr) (hw : what = 0 ∨ what = 1) : ∃ r N M, p_O_back f p what Mc = some (r, N) ∧ p_M_back f p what Mr = some (r, M) := by
  obtain ⟨hp, hd, ho, -⟩ := id h
  have hsp := pplR_spotR hp
  unfold p_O_back p_M_back
  rw [e_P_has hp.2.1 hp.1, e_M_isPerson hp.2.2.1 hp.1, Option.bind_some, Option.bind_some]
  cases ht : tldb T p
  · rw [b01_f, if_pos rfl, if_pos rfl]
    exact ⟨_, _, _, rfl, rfl⟩
  have n10 : ¬ (1 : Int) = 0 := by decide
  rw [b01_t, if_neg n10, if_neg n10, e_M_in, in_t (show 0 ≤ what ∧ what ≤ 1 by omega), Option.bind_some, b01_t, if_neg n10]
  have hp10 := tldb_rng ht
  obtain ⟨k, hk⟩ : ∃ k : Nat, p = k := ⟨p.toNat, (Int.toNat_of_nonneg hp10.1).symm⟩
  subst hk
  have hk10 : k < 10 := Int.ofNat_lt.mp hp10.2
  have n1 := nat100 hk10 hk10
  obtain ⟨N, e1, e2, e3⟩ := e_M_laysBack (f := f) (B := Mr) hf hsp.1 hsp.2
  obtain ⟨F, N', c1, c2, c3, c4⟩ := e_wayBack (f := f) (h := k) (q := what) (M := Mc) hf hk10 hp.2.2.2.1 hp.2.2.2.2.1
  have hXY : ∀ i : Int, 0 ≤ i → i < 10 → Mc 4 i = Mr 61 i ∧ Mc 5 i = Mr 62 i := fun i i0 i1 => ⟨(hp.2.2.2.2.2 i i0 i1).1.symm, (hp.2.2.2.2.2 i i0 i1).2.symm⟩
  have n0 := w11 hk10
  have hF : N (if what = 0 then 87 else 88) (10 * (k : Int) + k) = F := by
    rcases hw with q | q
    · rw [if_pos q, (e2 10 rfl).1 k k hk10 hk10]
      exact (back_eq (f := f) hk10 hp.2.2.2.1 hp.2.2.2.2.1 hd.1 hXY (show iD1 (Mr 58) = if what = 0 then iD1 (Mr 58) else iD2 (Mr 58) (Mr 61) (Mr 62) from (if_pos q).symm) iD1_ok c2 c3 c4 10 rfl).symm
    · have q' : ¬ what = 0 := by omega
      rw [if_neg q', (e2 10 rfl).2 k k hk10 hk10]
      exact (back_eq (f := f) hk10 hp.2.2.2.1 hp.2.2.2.2.1 hd.1 hXY (show iD2 (Mr 58) (Mr 61) (Mr 62) = if what = 0 then iD1 (Mr 58) else iD2 (Mr 58) (Mr 61) (Mr 62) from (if_neg q').symm) (iD2_ok hsp.1 hsp.2) c2 c3 c4 10 rfl).symm
  have eO : (if what = 0 then (p_O_back_B22 f k what Mc) else (if what = 1 then (p_O_back_B22 f k what Mc) else (some ((-1), Mc)))) = if F < 1000000 then some (F, N') else some (-2, N') := by
    have e22 : p_O_back_B22 f k what Mc = if F < 1000000 then some (F, N') else some (-2, N') := by
      unfold p_O_back_B22 p_O_back_B44
      rcases hw with q | q
      · rw [q] at c1 ⊢
        rw [if_neg (show ¬ (0 : Int) = 1 by decide), c1, Option.bind_some]
      · rw [q] at c1 ⊢
        rw [if_pos rfl, c1, Option.bind_some]
    rcases hw with q | q
    · rw [if_pos q, e22]
    · rw [if_neg (show ¬ what = 0 by omega), if_pos q, e22]
  have eM : (if what = 0 then (bnd 100 (w32 (11 * (k : Int))) fun i5 => p_M_back_B48 f (N 87 i5) N) else (bnd 100 (w32 (11 * (k : Int))) fun i4 => p_M_back_B48 f (N 88 i4) N)) = if F < 1000000 then some (F, N) else some (-2, N) := by
    unfold p_M_back_B48
    rw [n0, bnd_eq n1.1 n1.2, bnd_eq n1.1 n1.2]
    rcases hw with q | q
    · rw [if_pos q] at hF ⊢
      rw [hF]
    · rw [if_neg (show ¬ what = 0 by omega)] at hF ⊢
      rw [hF]
  rw [e1, Option.bind_some]
  refine ⟨if F < 1000000 then F else -2, N', N, eO.trans ?_, eM.trans ?_⟩
  · split <;> rfl
  · split <;> rfl
theorem call_back {f T : Nat} {c p what : Int} {Mc Mr : oM} (hf : 2000 < f) (h : Rel T c Mc Mr) : Same f c (p_O_back f p what Mc) (p_M_back f p what Mr) := by
  by_cases hw : what = 0 ∨ what = 1
  · obtain ⟨r, N, M, e1, e2⟩ := back_B (p := p) hf h hw
    have x1 := fr_O_back (eqo_rfl _ _) _ e1
    have x2 := fr_M_back (eqo_rfl _ _) _ e2
    exact same_upd e1 e2 ⟨T, Rel_try h x1 x2 rfl (fun i _ _ => x2 58 i rfl)⟩
  · obtain ⟨hp, -⟩ := id h
    have n10 : ¬ (1 : Int) = 0 := by decide
    refine same_some (r := -1) h ?_ ?_
    · unfold p_O_back
      rw [e_P_has hp.2.1 hp.1, Option.bind_some]
      cases tldb T p
      · rw [b01_f, if_pos rfl]
      · rw [b01_t, if_neg n10, if_neg (fun z => hw (.inl z)), if_neg (fun z => hw (.inr z))]
    · unfold p_M_back
      rw [e_M_isPerson hp.2.2.1 hp.1, Option.bind_some]
      cases tldb T p
      · rw [b01_f, if_pos rfl]
      · rw [b01_t, if_neg n10, e_M_in, in_f (by omega), Option.bind_some, b01_f, if_pos rfl]
