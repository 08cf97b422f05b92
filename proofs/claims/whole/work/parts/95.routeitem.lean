/-! ROUTE: an item by both -/
def wrC : List (Nat × Int) := [(1, 3), (1, 4), (39, 2), (40, (-1))]
def wrM : List (Nat × Int) := [(57, 8), (57, 10), (57, 40), (57, 41), (57, 42), (57, 43), (78, (-1)), (79, (-1)), (80, (-1)), (81, (-1))]
def rtR (b : Int → Int) (n : Int) (N0 M0 : oM) (p op len : Int) (N M : oM) : Prop := rdC b n N p ∧ rdM b n M p ∧ p ≤ n ∧ rwE N M len ∧ M 57 41 = op ∧ eqo wrC N0 N ∧ eqo wrM M0 M
def stkE (op : Int) (M M' : oM) : Prop := ∀ j : Int, 0 ≤ j → j < op → M' 79 j = M 79 j ∧ M' 80 j = M 80 j ∧ M' 81 j = M 81 j
def ftR (F : Nat) (N0 M0 : oM) (K : Int) (P : oM → Int → Int × oM → Prop) (q : Int × oM) : Prop := q.1 ≠ 0 ∧ eqo wrC N0 q.2 ∧ ∃ M'', P M0 K (q.1, M'') ∧ M'' 57 7 = 0 ∧ eqo ((57, 7) :: wrM) M0 M''
/-- a FAULT, told by the reference from M on -/
def fltR (F : Nat) (N0 M0 M : oM) (K : Int) (q : Int × oM) : Prop := q.1 ≠ 0 ∧ eqo wrC N0 q.2 ∧ ∃ M'', RT F K M (q.1, M'') ∧ M'' 57 7 = 0 ∧ eqo ((57, 7) :: wrM) M0 M''
def fltA (F : Nat) (N0 M0 M : oM) (K : Int) (q : Int × oM) : Prop := q.1 ≠ 0 ∧ eqo wrC N0 q.2 ∧ ∃ M'', RA F K M (q.1, M'') ∧ M'' 57 7 = 0 ∧ eqo ((57, 7) :: wrM) M0 M''
theorem subw_tl {w : Nat × Int} {ws : List (Nat × Int)} : subw ws (w :: ws) := by
  intro o i h
  unfold outw at h ⊢
  rw [List.all_cons, Bool.and_eq_true] at h
  exact h.2
theorem eqo_wk {w : Nat × Int} {ws : List (Nat × Int)} {B M : oM} (h : eqo ws B M) : eqo (w :: ws) B M := fun o i k => h o i (subw_tl o i k)
/-- a FAULT that the main loop tells -/
theorem flt_end {F : Nat} {N0 M0 N M : oM} {K x : Int} {q : Int × oM} (hx : x ≠ 0) (hN : eqo wrC N0 N) (hM : eqo wrM M0 M) (hK : 0 ≤ K) (h10 : M 57 10 = x) : ∃ M'', RM F K (0, M) (x, M'') ∧ M'' 57 7 = 0 ∧ eqo ((57, 7) :: wrM) M0 M'' := by
  refine ⟨oU M 57 7 0, ?_, oU_at, eqo_oU (.head _) (eqo_wk hM)⟩
  have h := RM_no (F := F) (M := M) hK
  rw [oU_i (by decide), h10] at h
  exact h
theorem times_ok {F : Nat} {b : Int → Int} {n p op len : Int} {N0 M0 N M : oM} {rec : Int → oM → Option (Int × oM)} (hn : n ≤ 60) (hR : rtR b n N0 M0 p op len N M) :
    ∃ p1 times N1 M1, p_RR_readPaying_F F rec op N = p_RR_readPaying_B59 F rec op p len times N1 ∧ p_M_readsTimes F M = some (0, M1) ∧ rtR b n N0 M0 p1 op len N1 M1 ∧ p ≤ p1 ∧ (1 ≤ times ∧ times ≤ 9) ∧ M1 57 42 = p ∧ M1 57 43 = times ∧ (∀ j : Int, M1 79 j = M 79 j ∧ M1 80 j = M 80 j ∧ M1 81 j = M 81 j) := by
  obtain ⟨r1, r2, r3, r4, r5, r6, r7⟩ := id hR
  have hch := rdC_ch r1
  have hp := r2.2.2.2
  generalize hM2 : oU (oU M 57 42 p) 57 43 1 = M2
  have rM2 : rdM b n M2 p := by rw [← hM2]; exact rdM_57 (rdM_57 r2 (by decide) (by decide)) (by decide) (by decide)
  have hh := e_M_here (f := F) rM2
  have f2 : eqo wrM M0 M2 := by rw [← hM2]; exact eqo_oU (.tail _ (.tail _ (.tail _ (.tail _ (.tail _ (.head _)))))) (eqo_oU (.tail _ (.tail _ (.tail _ (.tail _ (.head _))))) r7)
  have e42 : M2 57 42 = p := by rw [← hM2, oU_i (by decide), oU_at]
  have e43 : M2 57 43 = 1 := by rw [← hM2, oU_at]
  have e41 : M2 57 41 = op := by rw [← hM2, oU_i (by decide), oU_i (by decide)]; exact r5
  have e40 : M2 57 40 = len := by rw [← hM2, oU_i (by decide), oU_i (by decide)]; exact r4.2.1
  have e8 : M2 57 8 = p := rM2.2.2.2.1
  have e78 : M2 78 = M 78 := by rw [← hM2, oU_row (by decide), oU_row (by decide)]
  have e79 : ∀ j : Int, M2 79 j = M 79 j ∧ M2 80 j = M 80 j ∧ M2 81 j = M 81 j := fun j => by
    rw [← hM2]
    refine ⟨?_, ?_, ?_⟩ <;> rw [oU_o (by decide), oU_o (by decide)]
  have hm2 : p_M_readsTimes F M = (p_M_in F (chT b n p) 50 57 M2).bind fun q4 => if q4.1 = 0 then (some (0, q4.2)) else ((p_M_here F q4.2).bind fun q5 => lt (oU q5.2 57 43 (w32 (q5.1 - 48))) fun M6 => lt (oU M6 57 8 (w32 ((M6 57 8) + 1))) fun M7 => some (0, M7)) := by
    unfold p_M_readsTimes
    rw [hp.1, lt_eq, lt_eq, hM2, hh, Option.bind_some]
  by_cases q : 50 ≤ chT b n p ∧ chT b n p ≤ 57
  · have hpn : p < n := chT_in (b := b) (p := p) (by omega)
    obtain ⟨N1, a1, a2, a3⟩ := e_T_step1 (f := F) r1 hpn
    have w1 : w32 (chT b n p - 48) = chT b n p - 48 := w32_of (by omega) (by omega)
    refine ⟨p + 1, chT b n p - 48, N1, oU (oU M2 57 43 (chT b n p - 48)) 57 8 (p + 1), ?_, ?_, ⟨a2, rdM_next (rdM_57 rM2 (by decide) (by decide)) (by omega), by omega, ?_, ?_, eqo_tr (subw_cons (.head _) (subw_cons (.tail _ (.head _)) subw_nil)) r6 a3, ?_⟩, by omega, by omega, ?_, ?_, fun j => ?_⟩
    · unfold p_RR_readPaying_F p_T_place p_T_next
      rw [Option.bind_some, show (N 1 3, N).snd 39 2 = len from r4.1, lt_eq, Option.bind_some, show (N 1 3, N).snd 1 4 = chT b n p from hch.1, if_neg (show ¬ (chT b n p, (N 1 3, N).snd).fst < 50 from by show ¬ chT b n p < 50; omega), Option.bind_some, show (chT b n p, (N 1 3, N).snd).snd 1 4 = chT b n p from hch.1, if_neg (show ¬ 57 < (chT b n p, (chT b n p, (N 1 3, N).snd).snd).fst from by show ¬ 57 < chT b n p; omega), Option.bind_some, show ((chT b n p, (chT b n p, (chT b n p, (N 1 3, N).snd).snd).snd).fst) = chT b n p from rfl, w1, lt_eq, show p_T_step F (chT b n p, (chT b n p, (chT b n p, (N 1 3, N).snd).snd).snd).snd = some (0, N1) from a1, Option.bind_some, show (N 1 3, N).fst = p from hch.2.1]
    · rw [hm2, e_M_in, in_t q, Option.bind_some, if_neg (show ¬ (b01 true, M2).fst = 0 from n10), show p_M_here F (b01 true, M2).snd = some (chT b n p, M2) from hh, Option.bind_some, show ((chT b n p, M2).fst) = chT b n p from rfl, w1, lt_eq, show oU (chT b n p, M2).snd 57 43 (chT b n p - 48) 57 8 = p from (oU_i (by decide)).trans e8, w32_of (a := p + 1) (by omega) (by omega), lt_eq]
    · refine ⟨(eqo_f a3 39 2 rfl).trans r4.1, ?_, r4.2.2.1, fun i i0 i1 => ?_⟩
      · rw [oU_i (by decide), oU_i (by decide)]; exact e40
      · rw [eqo_a a3 40 rfl, oU_o (by decide), oU_o (by decide), e78]; exact r4.2.2.2 i i0 i1
    · rw [oU_i (by decide), oU_i (by decide)]; exact e41
    · exact eqo_oU (.head _) (eqo_oU (.tail _ (.tail _ (.tail _ (.tail _ (.tail _ (.head _)))))) f2)
    · rw [oU_i (by decide), oU_i (by decide)]; exact e42
    · rw [oU_i (by decide), oU_at]
    · have := e79 j
      refine ⟨?_, ?_, ?_⟩ <;> rw [oU_o (by decide), oU_o (by decide)]
      · exact this.1
      · exact this.2.1
      · exact this.2.2
  · refine ⟨p, 1, N, M2, ?_, ?_, ⟨r1, rM2, r3, ⟨r4.1, e40, r4.2.2.1, fun i i0 i1 => by rw [e78]; exact r4.2.2.2 i i0 i1⟩, e41, r6, f2⟩, Int.le_refl _, by decide, e42, e43, e79⟩
    · unfold p_RR_readPaying_F p_T_place p_T_next
      rw [Option.bind_some, show (N 1 3, N).snd 39 2 = len from r4.1, lt_eq, Option.bind_some, show (N 1 3, N).snd 1 4 = chT b n p from hch.1, show (N 1 3, N).fst = p from hch.2.1]
      by_cases q2 : chT b n p < 50
      · rw [if_pos (show (chT b n p, (N 1 3, N).snd).fst < 50 from q2)]
      · rw [if_neg (show ¬ (chT b n p, (N 1 3, N).snd).fst < 50 from q2), Option.bind_some, show (chT b n p, (N 1 3, N).snd).snd 1 4 = chT b n p from hch.1, if_pos (show 57 < (chT b n p, (chT b n p, (N 1 3, N).snd).snd).fst from by show 57 < chT b n p; omega)]
    · rw [hm2, e_M_in, in_f q, Option.bind_some, if_pos (show (b01 false, M2).fst = 0 from rfl)]
