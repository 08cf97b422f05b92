/-! route, walk: the calls -/
def w1C : List (Nat × Int) := (1, 1) :: (1, 2) :: wrC
theorem readRoute_ok {f T : Nat} {c n : Int} {Mc Mr : oM} (hf : 2000 < f) (h : Rel T c Mc Mr) (hn : 1 ≤ n ∧ n ≤ 60 ∧ n ≤ Mc 1 1) : ∃ x N0 N2 M1, p_T_opens f n 1 60 Mc = some (1, N0) ∧ p_O_readRoute f N0 = some (if x = 0 then (if Mr 58 151 < 0 then -2 else 0) else x, N2) ∧ p_M_readsRoute f n Mr = some (x, M1) ∧ N2 1 1 = 0 ∧ M1 57 7 = 0 ∧ eqo w1C Mc N2 ∧ eqo ((57, 9) :: (57, 7) :: wrM) Mr M1 ∧ (x = 0 → ∃ len, rwE N2 M1 len) := by
  obtain ⟨x, N0, N1, M1, a1, a2, a3, a4, a5, a6, a7⟩ := read_ok hf h hn
  obtain ⟨hp, hd, ho, -⟩ := id h
  have f2 : eqo w1C Mc (oU N1 1 1 0) := eqo_oU (.head _) (eqo_wk a5)
  have e64 : (oU N1 1 1 0) 6 4 = p21 (Mr 58 151) := (eqo_f f2 6 4 rfl).trans hd.2.2.2.2.1
  refine ⟨x, N0, oU N1 1 1 0, M1, a1, ?_, a3, oU_at, a4, f2, a6, fun z => ?_⟩
  · unfold p_O_readRoute p_T_clear
    rw [a2, Option.bind_some, lt_eq, Option.bind_some]
    by_cases q : x = 0
    · rw [if_pos (show (x, N1).fst = 0 from q), if_pos q, show ((0 : Int), oU (x, N1).snd 1 1 0).snd 6 4 = p21 (Mr 58 151) from e64]
      rcases rOk_holder ho with z | z
      · rw [z, if_pos (by decide), if_pos (by decide)]
      · have hx : ¬ Mr 58 151 < 0 := by omega
        rw [show p21 (Mr 58 151) = Mr 58 151 from if_neg (by omega), if_neg hx, if_neg hx]
    · rw [if_neg (show ¬ (x, N1).fst = 0 from q), if_neg q]
  · obtain ⟨len, g1, g2, g3, g4⟩ := a7 z
    exact ⟨len, (oU_o (by decide)).trans g1, g2, g3, fun i i0 i1 => by rw [oU_o (by decide)]; exact g4 i i0 i1⟩
theorem Rel_text {T : Nat} {c : Int} {Mc Mr N M : oM} {w1 w2 : List (Nat × Int)} (h : Rel T c Mc Mr) (e1 : eqo w1 Mc N) (e2 : eqo w2 Mr M) (k : relKt w1 w2 = true) (k6 : (outa w1 6 && (outa w1 (6 + 1) && (outa w1 (6 + 2) && outa w1 (6 + 3)))) = true) (h58 : ∀ i : Int, 0 ≤ i → i < 159 → M 58 i = Mr 58 i) (t1 : N 1 1 = 0) (t2 : M 57 7 = 0) : Rel T (c + 1) N M :=
  Rel_tape0d h e1 e2 k (dC_congr (dC_eqo h.2.1 e1 k6) h.2.2.1 h58) (rOk_mono (rOk_congr h.2.2.1 h58) (by omega)) t1 t2
theorem call_walk {f T : Nat} {c n : Int} {Mc Mr : oM} (hf : 2000 < f) (h : Rel T c Mc Mr) : Same f c (p_O_walk f n Mc) (p_M_walk f n Mr) := by
  obtain ⟨hp, hd, ho, hk, ht, hlaw, h56⟩ := id h
  have hsp := pplR_spotR hp
  by_cases hn : 1 ≤ n ∧ n ≤ 60 ∧ n ≤ Mc 1 1
  · obtain ⟨x, N0, N2, M1, a1, a2, a3, a4, a5, a6, a7, a8⟩ := readRoute_ok (f := f) hf h hn
    have eC : p_O_walk f n Mc = ((some (if x = 0 then (if Mr 58 151 < 0 then (-2 : Int) else 0) else x, N2)).bind fun q2 => if q2.1 = 0 then ((p_RR_walkedBy f 6 q2.2).bind fun q3 => some (q3.1, q3.2)) else (some (q2.1, q2.2))) := by
      unfold p_O_walk
      rw [a1, Option.bind_some, if_neg (show ¬ ((1 : Int), N0).fst = 0 from n10), show p_O_readRoute f ((1 : Int), N0).snd = _ from a2]
    have eM : p_M_walk f n Mr = if x = 0 then (if M1 58 151 < 0 then (some ((-2), M1)) else ((p_M_walksRoute f M1).bind fun q4 => some (q4.2 57 44, q4.2))) else (some (x, M1)) := by
      unfold p_M_walk
      rw [e_M_in, in_t (show 1 ≤ n ∧ n ≤ 60 by omega), Option.bind_some, if_neg (show ¬ (b01 true, Mr).fst = 0 from n10), if_neg (show ¬ (b01 true, Mr).snd 57 7 < n from by show ¬ Mr 57 7 < n; have := ht.2.1; omega), show p_M_readsRoute f n (b01 true, Mr).snd = _ from a3, Option.bind_some]
      by_cases q : x = 0
      · rw [if_pos (show (x, M1).fst = 0 from q), if_pos q, bnd_eq (n := 159) (i := 151) (by decide) (by decide)]
      · rw [if_neg (show ¬ (x, M1).fst = 0 from q), if_neg q]
    have e151 : M1 58 151 = Mr 58 151 := eqo_f a7 58 151 rfl
    have e58 : M1 58 = Mr 58 := eqo_a a7 58 rfl
    rw [e151] at eM
    by_cases q : x = 0
    · rw [if_pos q] at eC eM
      by_cases q2 : Mr 58 151 < 0
      · rw [if_pos q2, Option.bind_some, if_neg (show ¬ ((-2 : Int), N2).fst = 0 from fun z => absurd (show (-2 : Int) = 0 from z) (by decide))] at eC
        rw [if_pos q2] at eM
        exact same_upd eC eM ⟨T, Rel_text h a6 a7 rfl rfl (fun i _ _ => congrFun e58 i) a4 a5⟩
      · have hH : 0 ≤ Mr 58 151 ∧ Mr 58 151 < 10 := by
          rcases rOk_holder ho with z | z
          · omega
          · exact z
        obtain ⟨len, hE⟩ := a8 q
        have hdR : dR T (240 * c) 6 N2 M1 := by
          unfold dR
          rw [e58]
          exact ⟨dC_eqo hd a6 rfl, ho⟩
        obtain ⟨k, N', M', b1, b2, b3, b4, ⟨row, -, b5, b6, b7⟩, b8, b9⟩ := walk_ok (f := f) hf (.inl rfl) hE hdR e151 hH (by rw [eqo_a a7 61 rfl]; exact hsp.1) (by rw [eqo_a a7 62 rfl]; exact hsp.2)
        rw [if_neg q2, Option.bind_some, if_pos (show ((0 : Int), N2).fst = 0 from rfl), show p_RR_walkedBy f 6 ((0 : Int), N2).snd = _ from b1, Option.bind_some] at eC
        rw [if_neg q2, b2, Option.bind_some, show ((0 : Int), M').snd 57 44 = (k : Int) from b6] at eM
        have eM : p_M_walk f n Mr = some ((k : Int), M') := eM
        have eC : p_O_walk f n Mc = some ((k : Int), N') := eC
        refine same_upd eC eM ⟨T, Rel_tape0d h (fr_O_walk (eqo_rfl _ _) _ eC) (fr_M_walk (eqo_rfl _ _) _ eM) rfl b4.1 (rOk_mono b4.2 (by omega)) ?_ ?_⟩
        · exact (eqo_f b8 1 1 rfl).trans a4
        · exact (eqo_f b9 57 7 rfl).trans a5
    · rw [if_neg q, Option.bind_some, if_neg (show ¬ (x, N2).fst = 0 from q)] at eC
      rw [if_neg q] at eM
      exact same_upd eC eM ⟨T, Rel_text h a6 a7 rfl rfl (fun i _ _ => congrFun e58 i) a4 a5⟩
  · refine same_some (r := -1) h ?_ ?_
    · unfold p_O_walk
      rw [e_T_opens_no hn, Option.bind_some, if_pos (show ((0 : Int), Mc).fst = 0 from rfl)]
    · unfold p_M_walk
      rw [e_M_in, Option.bind_some]
      by_cases z : 1 ≤ n ∧ n ≤ 60
      · have := ht.2.1
        rw [in_t z, if_neg (show ¬ (b01 true, Mr).fst = 0 from n10), if_pos (show (b01 true, Mr).snd 57 7 < n from by show Mr 57 7 < n; omega)]
      · rw [in_f z, if_pos (show (b01 false, Mr).fst = 0 from rfl)]
theorem sub14 : subw [((14 : Nat), (3 : Int)), (14, 4), (14, 5), (14, 6), (14, 7), (14, 8), (14, 9), (14, 10), (14, 11), (15, (-1)), (16, (-1)), (17, (-1))] [(14, (-1)), (15, (-1)), (16, (-1)), (17, (-1))] := subw_all (.head _) (subw_all (.head _) (subw_all (.head _) (subw_all (.head _) (subw_all (.head _) (subw_all (.head _) (subw_all (.head _) (subw_all (.head _) (subw_all (.head _) (subw_cons (.tail _ (.head _)) (subw_cons (.tail _ (.tail _ (.head _))) (subw_cons (.tail _ (.tail _ (.tail _ (.head _)))) subw_nil)))))))))))
theorem call_route {f T : Nat} {c n what : Int} {Mc Mr : oM} (hf : 2000 < f) (h : Rel T c Mc Mr) : Same f c (p_O_route f n what Mc) (p_M_route f n what Mr) := by
  obtain ⟨hp, hd, ho, hk, ht, hlaw, h56⟩ := id h
  have hsp := pplR_spotR hp
  have hXY : ∀ i : Int, 0 ≤ i → i < 10 → Mc 4 i = Mr 61 i ∧ Mc 5 i = Mr 62 i := fun i i0 i1 => ⟨(hp.2.2.2.2.2 i i0 i1).1.symm, (hp.2.2.2.2.2 i i0 i1).2.symm⟩
  by_cases hn : (0 ≤ what ∧ what ≤ 2) ∧ 1 ≤ n ∧ n ≤ 60 ∧ n ≤ Mc 1 1
  · obtain ⟨hw, hn⟩ := hn
    obtain ⟨x, N0, N2, M1, a1, a2, a3, a4, a5, a6, a7, a8⟩ := readRoute_ok (f := f) hf h hn
    have eC : p_O_route f n what Mc = ((some (if x = 0 then (if Mr 58 151 < 0 then (-2 : Int) else 0) else x, N2)).bind fun q2 => if q2.1 = 0 then ((p_D_takeFrom f 14 6 q2.2).bind fun q3 => (p_RR_walkedBy f 14 q3.2).bind fun q4 => if what = 0 then (some (q4.1, q4.2)) else (if what = 1 then ((p_P_hoursOf f q4.1 (q4.2 6 4) q4.2).bind fun q5 => some (q5.1, q5.2)) else (some (q4.2 14 4, q4.2)))) else (some (q2.1, q2.2))) := by
      unfold p_O_route
      rw [if_neg (by omega), if_neg (by omega), a1, Option.bind_some, if_neg (show ¬ ((1 : Int), N0).fst = 0 from n10), show p_O_readRoute f ((1 : Int), N0).snd = _ from a2]
    have eM : p_M_route f n what Mr = if x = 0 then (if M1 58 151 < 0 then (some ((-2), M1)) else ((p_M_copies f 58 59 M1).bind fun q5 => (p_M_walksRoute f q5.2).bind fun q6 => lt (q6.2 58 151) fun x8 => (p_M_copies f 59 58 q6.2).bind fun q9 => if what = 0 then (some (q9.2 57 44, q9.2)) else (if what = 1 then (some (q9.2 57 45, q9.2)) else (some (x8, q9.2))))) else (some (x, M1)) := by
      have b151 : ∀ k : Int → Option (Int × oM), bnd 159 151 k = k 151 := fun k => bnd_eq (by decide) (by decide)
      unfold p_M_route
      rw [e_M_in, in_t (show 1 ≤ n ∧ n ≤ 60 by omega), Option.bind_some, if_neg (show ¬ (b01 true, Mr).fst = 0 from n10), show p_M_in f what 0 2 (b01 true, Mr).snd = _ from e_M_in, in_t hw, Option.bind_some, if_neg (show ¬ (b01 true, (b01 true, Mr).snd).fst = 0 from n10), if_neg (show ¬ (b01 true, (b01 true, Mr).snd).snd 57 7 < n from by show ¬ Mr 57 7 < n; have := ht.2.1; omega), show p_M_readsRoute f n (b01 true, (b01 true, Mr).snd).snd = _ from a3, Option.bind_some]
      by_cases q : x = 0
      · rw [if_pos (show (x, M1).fst = 0 from q), if_pos q, b151]
        simp only [b151]
      · rw [if_neg (show ¬ (x, M1).fst = 0 from q), if_neg q]
    have e151 : M1 58 151 = Mr 58 151 := eqo_f a7 58 151 rfl
    have e58 : M1 58 = Mr 58 := eqo_a a7 58 rfl
    rw [e151] at eM
    by_cases q : x = 0
    · rw [if_pos q] at eC eM
      by_cases q2 : Mr 58 151 < 0
      · rw [if_pos q2, Option.bind_some, if_neg (show ¬ ((-2 : Int), N2).fst = 0 from fun z => absurd (show (-2 : Int) = 0 from z) (by decide))] at eC
        rw [if_pos q2] at eM
        exact same_upd eC eM ⟨T, Rel_text h a6 a7 rfl rfl (fun i _ _ => congrFun e58 i) a4 a5⟩
      · have hH : 0 ≤ Mr 58 151 ∧ Mr 58 151 < 10 := by
          rcases rOk_holder ho with z | z
          · omega
          · exact z
        obtain ⟨len, hE⟩ := a8 q
        have hdR : dR T (240 * c) 6 N2 M1 := by
          unfold dR
          rw [e58]
          exact ⟨dC_eqo hd a6 rfl, ho⟩
        obtain ⟨t, et, ht1, -⟩ := okp_ex (e_D_takeFrom (f := f) (o0 := 14) (o1 := 6) (by omega) hdR.1 hdR.2)
        obtain ⟨u, eu, hu⟩ := okp_ex (e_M_copies (f := f) (a := 58) (b := 59) (M := M1) (by omega) (by omega))
        have ft : eqo [(14, (-1)), (15, (-1)), (16, (-1)), (17, (-1))] N2 t.2 := eqo_tr sub14 (eqo_rfl _ _) (fr_D_takeFrom (eqo_rfl _ _) _ et)
        have fu : eqo [(59, (-1))] M1 u.2 := fr_M_copies (eqo_rfl _ _) _ eu
        have eu58 : u.2 58 = M1 58 := eqo_a fu 58 rfl
        have hdR2 : dR T (240 * c) 14 t.2 u.2 := by
          unfold dR
          rw [eu58]
          exact ⟨ht1, hdR.2⟩
        have hE2 : rwE t.2 u.2 len := by
          obtain ⟨g1, g2, g3, g4⟩ := hE
          exact ⟨(eqo_f ft 39 2 rfl).trans g1, (eqo_f fu 57 40 rfl).trans g2, g3, fun i i0 i1 => by rw [eqo_a ft 40 rfl, eqo_a fu 78 rfl]; exact g4 i i0 i1⟩
        have u61 : u.2 61 = Mr 61 := (eqo_a fu 61 rfl).trans (eqo_a a7 61 rfl)
        have u62 : u.2 62 = Mr 62 := (eqo_a fu 62 rfl).trans (eqo_a a7 62 rfl)
        obtain ⟨k, N', M', b1, b2, b3, b4, ⟨row, b10, b5, b6, b7⟩, b8, b9⟩ := walk_ok (f := f) (H := Mr 58 151) hf (.inr rfl) hE2 hdR2 (by rw [eu58]; exact e151) hH (by rw [u61]; exact hsp.1) (by rw [u62]; exact hsp.2)
        rw [u61, u62] at b7
        obtain ⟨v, ev, hv, fv⟩ := try_end (f := f) (M := Mr) (N := M') (by omega) (fun i i0 i1 => by rw [eqo_a b9 59 rfl, hu i i0 i1, e58])
        have n4 : N' 4 = Mc 4 := (eqo_a b8 4 rfl).trans ((eqo_a ft 4 rfl).trans (eqo_a a6 4 rfl))
        have n5 : N' 5 = Mc 5 := (eqo_a b8 5 rfl).trans ((eqo_a ft 5 rfl).trans (eqo_a a6 5 rfl))
        have n64 : N' 6 4 = Mr 58 151 := by
          rw [eqo_f b8 6 4 rfl, eqo_f ft 6 4 rfl, eqo_f a6 6 4 rfl, hd.2.2.2.2.1]
          unfold p21
          rw [if_neg (by omega)]
        have n40 : N' 40 = t.2 40 := eqo_a b8 40 rfl
        have hhr := e_P_hoursOf (f := f) (k := k) (H := Mr 58 151) (N := N') (X := Mr 61) (Y := Mr 62) (row := row) hf b3 hE2.2.2.1.2 (by rw [n4]; exact hp.2.2.2.1) (by rw [n5]; exact hp.2.2.2.2.1) (fun j hj => by rw [n40]; exact b10 j hj) hH (fun i i0 i1 => by rw [n4, n5]; exact hXY i i0 i1)
        have hpv : 0 ≤ M' 58 151 := by
          rw [b5]
          cases k with
          | zero => exact hH.1
          | succ k => exact (b10 k (by omega)).2.1
        have n144 : N' 14 4 = M' 58 151 := by
          have h4 := b4.1.2.2.2.2.1
          rw [h4]
          unfold p21
          rw [if_neg (by omega)]
        have v44 : v.2 57 44 = (k : Int) := (eqo_f fv 57 44 rfl).trans b6
        have v45 : v.2 57 45 = hhw (Mr 61) (Mr 62) (Mr 58 151) row k := (eqo_f fv 57 45 rfl).trans b7
        rw [if_neg q2, Option.bind_some, if_pos (show ((0 : Int), N2).fst = 0 from rfl), show p_D_takeFrom f 14 6 ((0 : Int), N2).snd = _ from et, Option.bind_some, b1, Option.bind_some] at eC
        rw [if_neg q2, eu, Option.bind_some, b2, Option.bind_some, lt_eq, show p_M_copies f 59 58 ((0 : Int), M').snd = _ from ev, Option.bind_some, v44, v45] at eM
        have fin : ∀ r : Int, p_O_route f n what Mc = some (r, N') → p_M_route f n what Mr = some (r, v.2) → Same f c (p_O_route f n what Mc) (p_M_route f n what Mr) := by
          intro r e1 e2
          refine same_upd e1 e2 ⟨T, Rel_text h (fr_O_route (eqo_rfl _ _) (r, N') e1) (fr_M_route (eqo_rfl _ _) (r, v.2) e2) rfl rfl hv ?_ ?_⟩
          · exact (eqo_f b8 1 1 rfl).trans ((eqo_f ft 1 1 rfl).trans a4)
          · exact (eqo_f fv 57 7 rfl).trans ((eqo_f b9 57 7 rfl).trans ((eqo_f fu 57 7 rfl).trans a5))
        by_cases w0 : what = 0
        · rw [if_pos w0] at eC eM
          exact fin _ eC eM
        · rw [if_neg w0] at eC eM
          by_cases w1 : what = 1
          · rw [if_pos w1] at eC eM
            rw [show p_P_hoursOf f ((k : Int), N').fst (((k : Int), N').snd 6 4) ((k : Int), N').snd = some (hhw (Mr 61) (Mr 62) (Mr 58 151) row k, N') from (by show p_P_hoursOf f k (N' 6 4) N' = _; rw [n64]; exact hhr), Option.bind_some] at eC
            exact fin _ eC eM
          · rw [if_neg w1] at eC eM
            rw [show ((k : Int), N').snd 14 4 = M' 58 151 from n144] at eC
            exact fin _ eC eM
    · rw [if_neg q, Option.bind_some, if_neg (show ¬ (x, N2).fst = 0 from q)] at eC
      rw [if_neg q] at eM
      exact same_upd eC eM ⟨T, Rel_text h a6 a7 rfl rfl (fun i _ _ => congrFun e58 i) a4 a5⟩
  · refine same_some (r := -1) h ?_ ?_
    · unfold p_O_route
      by_cases z : what < 0
      · rw [if_pos z]
      · rw [if_neg z]
        by_cases z2 : 2 < what
        · rw [if_pos z2]
        · rw [if_neg z2, e_T_opens_no (fun y => hn ⟨by omega, y⟩), Option.bind_some, if_pos (show ((0 : Int), Mc).fst = 0 from rfl)]
    · unfold p_M_route
      rw [e_M_in, Option.bind_some]
      by_cases z : 1 ≤ n ∧ n ≤ 60
      · rw [in_t z, if_neg (show ¬ (b01 true, Mr).fst = 0 from n10), show p_M_in f what 0 2 (b01 true, Mr).snd = _ from e_M_in, Option.bind_some]
        by_cases z2 : 0 ≤ what ∧ what ≤ 2
        · have := ht.2.1
          rw [in_t z2, if_neg (show ¬ (b01 true, (b01 true, Mr).snd).fst = 0 from n10), if_pos (show (b01 true, (b01 true, Mr).snd).snd 57 7 < n from by show Mr 57 7 < n; omega)]
        · rw [in_f z2, if_pos (show (b01 false, (b01 true, Mr).snd).fst = 0 from rfl)]
      · rw [in_f z, if_pos (show (b01 false, Mr).fst = 0 from rfl)]
