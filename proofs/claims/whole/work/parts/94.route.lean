/-! ROUTE: loops with room to spare; the reference's phases -/
def Lm {S R : Type} (step : S → Option (S ⊕ R)) (K : Int) (s : S) (r : R) : Prop := ∀ g : Nat, K < (g : Int) → iter step g s = some r
theorem Lm_inl {S R : Type} {step : S → Option (S ⊕ R)} {K : Int} {s s' : S} {r : R} (h : step s = some (.inl s')) (hl : Lm step K s' r) (h0 : 0 ≤ K + 1) : Lm step (K + 1) s r := by
  intro g hg
  obtain ⟨g, rfl⟩ : ∃ k, g = k + 1 := ⟨g - 1, by omega⟩
  rw [iter_inl h]
  exact hl g (by omega)
theorem Lm_inr {S R : Type} {step : S → Option (S ⊕ R)} {K : Int} {s : S} {r : R} (h : step s = some (.inr r)) (h0 : 0 ≤ K) : Lm step K s r := by
  intro g hg
  obtain ⟨g, rfl⟩ : ∃ k, g = k + 1 := ⟨g - 1, by omega⟩
  rw [iter_inr h]
theorem Lm_mono {S R : Type} {step : S → Option (S ⊕ R)} {K K' : Int} {s : S} {r : R} (hl : Lm step K s r) (h : K ≤ K') : Lm step K' s r := fun g hg => hl g (by omega)
def RM (F : Nat) (K : Int) (q R : Int × oM) : Prop := Lm (p_M_readsRoute_L25 F) K q R
def RC (F : Nat) (K : Int) (M : oM) (R : Int × oM) : Prop := ∃ q, Lm (p_M_readsItem_L203 F) (M 57 41 + 1) M q ∧ RM F K q R
def RA (F : Nat) (K : Int) (M : oM) (R : Int × oM) : Prop := ∃ u, Lm (p_M_readsItem_L4 F) (3 - M 57 41) M u ∧ ∃ q, p_M_readsItem_X4 F u = some q ∧ RM F K q R
def RT (F : Nat) (K : Int) (M : oM) (R : Int × oM) : Prop := ∃ M1, p_M_readsTimes F M = some (0, M1) ∧ RA F K M1 R
theorem RC_mono {F : Nat} {K K' : Int} {M : oM} {R : Int × oM} (h : RC F K M R) (hk : K ≤ K') : RC F K' M R := by
  obtain ⟨q, h1, h2⟩ := h
  exact ⟨q, h1, Lm_mono h2 hk⟩
theorem RT_mono {F : Nat} {K K' : Int} {M : oM} {R : Int × oM} (h : RT F K M R) (hk : K ≤ K') : RT F K' M R := by
  obtain ⟨M1, h1, u, h2, q, h3, h4⟩ := h
  exact ⟨M1, h1, u, h2, q, h3, Lm_mono h4 hk⟩
/-- a FAULT at the reference's main loop -/
theorem RM_no {F : Nat} {K : Int} {M : oM} (hK : 0 ≤ K) : RM F K (0, M) ((oU M 57 7 0) 57 10, oU M 57 7 0) := by
  refine Lm_inr ?_ hK
  unfold p_M_readsRoute_L25 p_M_readsRoute_B55_25
  simp only []
  rw [if_pos trivial, lt_eq, if_pos trivial]
theorem item_of_RT {F : Nat} {K : Int} {M : oM} {R : Int × oM} (hF : 2000 < F) (hr : ∀ M1, p_M_readsTimes F M = some (0, M1) → 0 ≤ M1 57 41) (h : RT F K M R) : ∃ q, p_M_readsItem F M = some q ∧ RM F K q R := by
  obtain ⟨M1, h1, u, h2, q, h3, h4⟩ := h
  have h0 := hr M1 h1
  refine ⟨q, ?_, h4⟩
  unfold p_M_readsItem
  rw [h1, Option.bind_some, show iter (p_M_readsItem_L4 F) F ((0 : Int), M1).snd = some u from h2 F (by omega), Option.bind_some, h3]
theorem RC_next {F : Nat} {b : Int → Int} {K n p r : Int} {M : oM} {R : Int × oM} (hF : 2000 < F) (hK : 0 ≤ K + 1) (h : rdM b n M p) (h41 : M 57 41 = r) (hr : 0 ≤ r) (hc : ¬ (chT b n p = 41 ∧ 0 < r)) (hg : p < n ∨ 0 < r) (hrt : ∀ M1, p_M_readsTimes F M = some (0, M1) → 0 ≤ M1 57 41) (hT : RT F K M R) : RC F (K + 1) M R := by
  have hh := e_M_here (f := F) h
  obtain ⟨q, e1, e2⟩ := item_of_RT hF hrt hT
  refine ⟨(1, M), Lm_inr ?_ (by omega), Lm_inl ?_ e2 hK⟩
  · unfold p_M_readsItem_L203
    simp only []
    rw [hh, Option.bind_some]
    by_cases q1 : chT b n p = 41
    · rw [if_pos (show (chT b n p, M).fst = 41 from q1), if_neg (show ¬ 0 < (chT b n p, M).snd 57 41 from by show ¬ 0 < M 57 41; rw [h41]; exact fun z => hc ⟨q1, z⟩)]
    · rw [if_neg (show ¬ (chT b n p, M).fst = 41 from q1)]
  · have hB : p_M_readsRoute_B47_25 F M = some (.inl q) := by
      unfold p_M_readsRoute_B47_25
      rw [e1, Option.bind_some]
    unfold p_M_readsRoute_L25
    simp only []
    rw [if_neg n10, h.2.2.2.1, h.2.2.1]
    by_cases q1 : p < n
    · rw [if_pos q1]; exact hB
    · rw [if_neg q1, h41, if_pos (hg.resolve_left q1)]; exact hB
theorem RC_end {F : Nat} {b : Int → Int} {K n p : Int} {M : oM} (hK : 0 ≤ K) (h : rdM b n M p) (h41 : M 57 41 = 0) (hg : ¬ p < n) : RC F K M (0, oU M 57 7 0) := by
  have hh := e_M_here (f := F) h
  refine ⟨(1, M), Lm_inr ?_ (by omega), Lm_inr ?_ hK⟩
  · unfold p_M_readsItem_L203
    simp only []
    rw [hh, Option.bind_some]
    by_cases q1 : chT b n p = 41
    · rw [if_pos (show (chT b n p, M).fst = 41 from q1), if_neg (show ¬ 0 < (chT b n p, M).snd 57 41 from by show ¬ 0 < M 57 41; omega)]
    · rw [if_neg (show ¬ (chT b n p, M).fst = 41 from q1)]
  · unfold p_M_readsRoute_L25 p_M_readsRoute_B55_25
    simp only []
    rw [if_neg n10, h.2.2.2.1, h.2.2.1, if_neg hg, h41, if_neg (Int.lt_irrefl 0), lt_eq, if_neg n10]
theorem RC_close {F : Nat} {b : Int → Int} {n p r x y z : Int} {M : oM} (h : rdM b n M p) (h41 : M 57 41 = r) (hr : 1 ≤ r ∧ r ≤ 2) (hc : chT b n p = 41) (hx : M 80 (r - 1) = x) (hy : M 81 (r - 1) = y) (hz : M 79 (r - 1) = z) {M3 : oM} (h3 : M3 = oU (oU M 57 8 (p + 1)) 57 41 (r - 1)) :
    p_M_readsItem_L203 F M = (p_M_repeats F x y z M3).bind fun q7 => if q7.1 = 0 then (some (.inr (0, q7.2))) else (some (.inl q7.2)) := by
  have hh := e_M_here (f := F) h
  have hp := h.2.2.2
  have e8 : M 57 8 = p := hp.1
  have e41 : (oU M 57 8 (p + 1)) 57 41 = r := (oU_i (by decide)).trans h41
  have w1 : w32 (p + 1) = p + 1 := w32_of (by omega) (by omega)
  have w2 : w32 (r - 1) = r - 1 := w32_of (by omega) (by omega)
  have b2 : 0 ≤ r - 1 ∧ r - 1 < 2 := by omega
  have k41 : M3 57 41 = r - 1 := by rw [h3, oU_at]
  have k80 : M3 80 (r - 1) = x := by rw [h3, oU_o (by decide), oU_o (by decide)]; exact hx
  have k81 : M3 81 (r - 1) = y := by rw [h3, oU_o (by decide), oU_o (by decide)]; exact hy
  have k79 : M3 79 (r - 1) = z := by rw [h3, oU_o (by decide), oU_o (by decide)]; exact hz
  unfold p_M_readsItem_L203
  simp only []
  rw [hh, Option.bind_some, if_pos (show (chT b n p, M).fst = 41 from hc), if_pos (show 0 < (chT b n p, M).snd 57 41 from by show 0 < M 57 41; omega), show (chT b n p, M).snd 57 8 = p from e8, w1, lt_eq, show oU (chT b n p, M).snd 57 8 (p + 1) 57 41 = r from e41, w2, lt_eq, show oU (oU (chT b n p, M).snd 57 8 (p + 1)) 57 41 (r - 1) = M3 from h3.symm, k41, bnd_eq b2.1 b2.2, bnd_eq b2.1 b2.2, bnd_eq b2.1 b2.2, k80, k81, k79]
/-! repeating, by both -/
def rwE (N M : oM) (len : Int) : Prop := N 39 2 = len ∧ M 57 40 = len ∧ (0 ≤ len ∧ len ≤ 60) ∧ ∀ i : Int, 0 ≤ i → i < len → N 40 i = M 78 i ∧ 0 ≤ N 40 i ∧ N 40 i < 10
def rpI (N0 M0 : oM) (len part fr : Int) (j : Nat) (s s' : Int × oM) : Prop := s.1 = len + (j : Int) ∧ s'.1 = part + (j : Int) ∧ (∀ i : Int, 0 ≤ i → i < len + (j : Int) → s.2 40 i = s'.2 78 i ∧ 0 ≤ s.2 40 i ∧ s.2 40 i < 10) ∧ eqo [(39, 2), (40, (-1))] N0 s.2 ∧ eqo [(57, 40), (78, (-1))] M0 s'.2
theorem rp_step {f j : Nat} {len part fr times L : Int} {N0 M0 : oM} {s s' : Int × oM} (hp : 0 ≤ fr ∧ 1 ≤ part ∧ fr + part = len) (hL : L = fr + part * times ∧ L ≤ 60) (hPT : 0 ≤ part * times ∧ part * times ≤ 60) (hj : len + (j : Int) < L) (hI : rpI N0 M0 len part fr j s s') :
    okp (p_RR_repeat_L33 f part L s) (fun y => okp (p_M_repeats_L31 f fr times part s') (fun y' => psum2 (rpI N0 M0 len part fr (j + 1)) (fun _ _ => False) y y')) := by
  obtain ⟨k, N⟩ := s
  obtain ⟨k', M⟩ := s'
  obtain ⟨i1, i2, i3, i4, i5⟩ := hI
  simp only at i1 i2 i3 i4 i5
  subst i1 i2
  generalize hT : part * times = PT at *
  have wPT : w32 (part * times) = PT := by rw [hT]; exact w32_of (by omega) (by omega)
  unfold p_RR_repeat_L33 p_M_repeats_L31
  simp only []
  have e1 : fr + (part + (j : Int)) = len + j := by omega
  rw [if_pos hj, w32_of (a := len + (j : Int) - part) (by omega) (by omega), bnd_eq (by omega) (by omega), bnd_eq (by omega) (by omega), lt_eq, lt_eq, w32_of (a := len + (j : Int) + 1) (by omega) (by omega), wPT, if_pos (show part + (j : Int) < PT by omega), w32_of (a := fr + (part + (j : Int))) (by omega) (by omega), w32_of (a := fr + (part + (j : Int)) - part) (by omega) (by omega), bnd_eq (by omega) (by omega), bnd_eq (by omega) (by omega), lt_eq, lt_eq, w32_of (a := part + (j : Int) + 1) (by omega) (by omega), e1]
  have h3 := i3 (len + (j : Int) - part) (by omega) (by omega)
  refine ⟨by show len + (j : Int) + 1 = _; omega, by show part + (j : Int) + 1 = _; omega, fun i i0 i1 => ?_, eqo_oUa (.tail _ (.head _)) i4, eqo_oUa (.tail _ (.head _)) i5⟩
  show oU N 40 (len + (j : Int)) (N 40 (len + (j : Int) - part)) 40 i = oU M 78 (len + (j : Int)) (M 78 (len + (j : Int) - part)) 78 i ∧ 0 ≤ oU N 40 (len + (j : Int)) (N 40 (len + (j : Int) - part)) 40 i ∧ oU N 40 (len + (j : Int)) (N 40 (len + (j : Int) - part)) 40 i < 10
  by_cases z : i = len + (j : Int)
  · rw [z, oU_at, oU_at]; exact h3
  · rw [oU_i z, oU_i z]; exact i3 i i0 (by omega)
theorem rep_ok {f : Nat} {len fr times place : Int} {N M : oM} (hf : 2000 < f) (hE : rwE N M len) (hfr : 0 ≤ fr ∧ fr < len) (ht : 1 ≤ times ∧ times ≤ 9) (hpl : 0 ≤ place ∧ place ≤ 1000) :
    (p_RR_repeat f fr times N = some (0, N) ∧ p_M_repeats f fr times place M = some (0, oU M 57 10 (-1000 * 6 - place)) ∧ 60 < fr + (len - fr) * times) ∨
    ∃ N' M' L, L = fr + (len - fr) * times ∧ p_RR_repeat f fr times N = some (1, N') ∧ p_M_repeats f fr times place M = some (1, M') ∧ rwE N' M' L ∧ len ≤ L ∧ eqo [(39, 2), (40, (-1))] N N' ∧ eqo [(57, 40), (78, (-1))] M M' := by
  obtain ⟨h1, h2, h3, h4⟩ := hE
  have hPT1 : (len - fr) * 1 ≤ (len - fr) * times := Int.mul_le_mul_of_nonneg_left ht.1 (by omega)
  have hPT2 : (len - fr) * times ≤ (len - fr) * 9 := Int.mul_le_mul_of_nonneg_left ht.2 (by omega)
  have w1 : w32 (len - fr) = len - fr := w32_of (by omega) (by omega)
  unfold p_RR_repeat p_M_repeats
  rw [h1, h2, w1]
  simp only [lt_eq]
  generalize hpart : len - fr = part at *
  generalize hPT : part * times = PT at *
  rw [w32_of (a := PT) (by omega) (by omega), w32_of (a := fr + PT) (by omega) (by omega)]
  by_cases q : 60 < fr + PT
  · left
    rw [if_pos q, if_pos q, e_wrongB (by decide) (by omega)]
    exact ⟨rfl, rfl, q⟩
  · right
    rw [if_neg q, if_neg q, if_neg (show ¬ part < 0 by omega)]
    obtain ⟨m, hm⟩ : ∃ m : Nat, (m : Int) = fr + PT - len := ⟨(fr + PT - len).toNat, by omega⟩
    have loop := for2_ok (step := p_RR_repeat_L33 f part (fr + PT)) (step' := p_M_repeats_L31 f fr times part) (Q := fun r r' => r.1 = 1 ∧ r'.1 = 1 ∧ rwE r.2 r'.2 (fr + PT) ∧ eqo [(39, 2), (40, (-1))] N r.2 ∧ eqo [(57, 40), (78, (-1))] M r'.2) m (rpI N M len part fr)
      (fun j s s' hj hI => okp_mono (rp_step (f := f) (times := times) (by omega) ⟨by rw [hPT], by omega⟩ (by rw [hPT]; omega) (by omega) hI) fun y hy => okp_mono hy fun y' hy' => by
        cases y with
        | inl a => cases y' with
          | inl a' => exact hy'
          | inr a' => exact hy'.elim
        | inr a => cases y' with
          | inl a' => exact hy'.elim
          | inr a' => exact hy'.elim)
      (fun s s' hI => by
        obtain ⟨k, N1⟩ := s
        obtain ⟨k', M1⟩ := s'
        obtain ⟨i1, i2, i3, i4, i5⟩ := hI
        simp only at i1 i2 i3 i4 i5
        subst i1 i2
        unfold p_RR_repeat_L33 p_M_repeats_L31
        simp only []
        rw [if_neg (show ¬ len + (m : Int) < fr + PT by omega), lt_eq, hPT, w32_of (a := PT) (by omega) (by omega), if_neg (show ¬ part + (m : Int) < PT by omega), w32_of (a := fr + PT) (by omega) (by omega), lt_eq]
        refine ⟨rfl, rfl, ⟨at_snd (x := 0), at_snd (x := 0), by omega, fun i i0 i1 => ?_⟩, eqo_oU (.head _) i4, eqo_oU (.head _) i5⟩
        have := i3 i i0 (by omega)
        show oU N1 39 2 (fr + PT) 40 i = oU M1 57 40 (fr + PT) 78 i ∧ 0 ≤ oU N1 39 2 (fr + PT) 40 i ∧ oU N1 39 2 (fr + PT) 40 i < 10
        rw [oU_o (by decide), oU_o (by decide)]
        exact this) f f (by omega) (by omega) (s := (len, N)) (s' := (part, M)) ⟨by show len = _; omega, by show part = _; omega, fun i i0 i1 => h4 i i0 (by omega), eqo_rfl _ _, eqo_rfl _ _⟩
    obtain ⟨r, e1, g1⟩ := okp_ex loop
    obtain ⟨r', e2, k1, k2, k3, k4, k5⟩ := okp_ex g1
    exact ⟨r.2, r'.2, fr + PT, rfl, by rw [e1, ← k1], by rw [e2, ← k2], k3, by omega, k4, k5⟩
