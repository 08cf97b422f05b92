/-! what each walked program writes: all else stays (by program, out of 16.pure and 17.pureM) -/
theorem fr_O_isOne {f : Nat} {l0 : Int} {M : oM} {B : oM} (h_M : eqo [] B M) : par (p_O_isOne f l0 M) (fun s => eqo [] B s.2) := by
  unfold p_O_isOne
  refine par_ite ?_ ?_
  · exact par_some h_M
  · refine par_ite ?_ ?_
    · exact par_some h_M
    · exact par_some h_M
theorem fr_P_settle {f : Nat} {l1 : Int} {l2 : Int} {l3 : Int} {M : oM} {B : oM} (h_M : eqo [(3, 2), (4, (-1)), (5, (-1))] B M) : par (p_P_settle f l1 l2 l3 M) (fun s => eqo [(3, 2), (4, (-1)), (5, (-1))] B s.2) := by
  unfold p_P_settle
  refine par_bnd fun i1 => ?_
  refine par_lt (eqo_oUa (.tail _ (.head _)) h_M) fun M2 h_M2 => ?_
  refine par_bnd fun i3 => ?_
  refine par_lt (eqo_oUa (.tail _ (.tail _ (.head _))) h_M2) fun M4 h_M4 => ?_
  refine par_lt (eqo_oU (.head _) h_M4) fun M5 h_M5 => ?_
  exact par_some h_M5
theorem fr_O_person {f : Nat} {l1 : Int} {l2 : Int} {l3 : Int} {M : oM} {B : oM} (h_M : eqo [(3, 2), (4, (-1)), (5, (-1))] B M) : par (p_O_person f l1 l2 l3 M) (fun s => eqo [(3, 2), (4, (-1)), (5, (-1))] B s.2) := by
  unfold p_O_person
  refine par_bind (fr_O_isOne (eqo_rfl _ _)) fun q1 g_q1 => ?_
  have h_q1 := eqo_tr subw_nil h_M g_q1
  refine par_ite ?_ ?_
  · exact par_some h_q1
  · refine par_ite ?_ ?_
    · exact par_some h_q1
    · refine par_ite ?_ ?_
      · refine par_ite ?_ ?_
        · exact par_some h_q1
        · refine par_ite ?_ ?_
          · refine par_bind (fr_P_settle (eqo_rfl _ _)) fun q2 g_q2 => ?_
            have h_q2 := eqo_tr (subw_cons (.head _) (subw_cons (.tail _ (.head _)) (subw_cons (.tail _ (.tail _ (.head _))) subw_nil))) h_q1 g_q2
            exact par_some h_q2
          · exact par_some h_q1
      · exact par_some h_q1
theorem fr_P_has {f : Nat} {l1 : Int} {M : oM} {B : oM} (h_M : eqo [] B M) : par (p_P_has f l1 M) (fun s => eqo [] B s.2) := by
  unfold p_P_has
  refine par_bind (fr_O_isOne (eqo_rfl _ _)) fun q1 g_q1 => ?_
  have h_q1 := eqo_tr subw_nil h_M g_q1
  refine par_ite ?_ ?_
  · exact par_some h_q1
  · refine par_ite ?_ ?_
    · exact par_some h_q1
    · exact par_some h_q1
theorem fr_P_hasBoth {f : Nat} {l1 : Int} {l2 : Int} {M : oM} {B : oM} (h_M : eqo [] B M) : par (p_P_hasBoth f l1 l2 M) (fun s => eqo [] B s.2) := by
  unfold p_P_hasBoth
  refine par_ite ?_ ?_
  · exact par_some h_M
  · refine par_bind (fr_P_has (eqo_rfl _ _)) fun q1 g_q1 => ?_
    have h_q1 := eqo_tr subw_nil h_M g_q1
    refine par_ite ?_ ?_
    · exact par_some h_q1
    · refine par_bind (fr_P_has (eqo_rfl _ _)) fun q2 g_q2 => ?_
      have h_q2 := eqo_tr subw_nil h_q1 g_q2
      refine par_ite ?_ ?_
      · exact par_some h_q2
      · exact par_some h_q2
theorem fr_O_debt {f : Nat} {l1 : Int} {l2 : Int} {l3 : Int} {M : oM} {B : oM} (h_M : eqo [(7, (-1))] B M) : par (p_O_debt f l1 l2 l3 M) (fun s => eqo [(7, (-1))] B s.2) := by
  unfold p_O_debt
  refine par_bind (fr_P_hasBoth (eqo_rfl _ _)) fun q1 g_q1 => ?_
  have h_q1 := eqo_tr subw_nil h_M g_q1
  refine par_ite ?_ ?_
  · exact par_some h_q1
  · refine par_ite ?_ ?_
    · exact par_some h_q1
    · refine par_ite ?_ ?_
      · exact par_some h_q1
      · refine par_bnd fun i2 => ?_
        refine par_lt (eqo_oUa (.head _) h_q1) fun M3 h_M3 => ?_
        exact par_some h_M3
theorem fr_D_giveTo {f : Nat} {o0 : Nat} {l1 : Int} {M : oM} {B : oM} (h_M : eqo [(o0, 4), (o0, 5), (o0, 6), (o0, 7)] B M) : par (p_D_giveTo f o0 l1 M) (fun s => eqo [(o0, 4), (o0, 5), (o0, 6), (o0, 7)] B s.2) := by
  unfold p_D_giveTo
  refine par_lt (eqo_oU (.head _) h_M) fun M1 h_M1 => ?_
  refine par_lt (eqo_oU (.tail _ (.head _)) h_M1) fun M2 h_M2 => ?_
  refine par_lt (eqo_oU (.tail _ (.tail _ (.head _))) h_M2) fun M3 h_M3 => ?_
  refine par_lt (eqo_oU (.tail _ (.tail _ (.tail _ (.head _)))) h_M3) fun M4 h_M4 => ?_
  exact par_some h_M4
theorem fr_O_coin {f : Nat} {l1 : Int} {M : oM} {B : oM} (h_M : eqo [(6, 4), (6, 5), (6, 6), (6, 7)] B M) : par (p_O_coin f l1 M) (fun s => eqo [(6, 4), (6, 5), (6, 6), (6, 7)] B s.2) := by
  unfold p_O_coin
  refine par_bind (fr_P_has (eqo_rfl _ _)) fun q1 g_q1 => ?_
  have h_q1 := eqo_tr subw_nil h_M g_q1
  refine par_ite ?_ ?_
  · exact par_some h_q1
  · refine par_bind (fr_D_giveTo (eqo_rfl _ _)) fun q2 g_q2 => ?_
    have h_q2 := eqo_tr (subw_cons (.head _) (subw_cons (.tail _ (.head _)) (subw_cons (.tail _ (.tail _ (.head _))) (subw_cons (.tail _ (.tail _ (.tail _ (.head _)))) subw_nil)))) h_q1 g_q2
    exact par_some h_q2
theorem fr_T_add_L3 {f : Nat} {l1 : Int} {B : oM} : ∀ (s : Int × oM), (fun s => eqo [(1, 1), (2, (-1))] B s.2) s → par (p_T_add_L3 f l1 s) (psum (fun s => eqo [(1, 1), (2, (-1))] B s.2) (fun s => eqo [(1, 1), (2, (-1))] B s.2)) := by
  intro s hs
  obtain ⟨l2, M⟩ := s
  have h_M : eqo [(1, 1), (2, (-1))] B M := hs
  unfold p_T_add_L3
  refine par_ite ?_ ?_
  · exact par_some h_M
  · refine par_ite ?_ ?_
    · refine par_bnd fun i1 => ?_
      refine par_lt (eqo_oUa (.tail _ (.head _)) h_M) fun M2 h_M2 => ?_
      refine par_lt (eqo_oU (.head _) h_M2) fun M3 h_M3 => ?_
      refine par_ltI fun x4 => ?_
      exact par_some h_M3
    · exact par_some h_M
theorem fr_T_add {f : Nat} {l1 : Int} {M : oM} {B : oM} (h_M : eqo [(1, 1), (2, (-1))] B M) : par (p_T_add f l1 M) (fun s => eqo [(1, 1), (2, (-1))] B s.2) := by
  unfold p_T_add
  exact par_iter (fun s hs => fr_T_add_L3 s hs) _ h_M
theorem fr_T_size {f : Nat} {M : oM} {B : oM} (h_M : eqo [] B M) : par (p_T_size f M) (fun s => eqo [] B s.2) := by
  unfold p_T_size
  exact par_some h_M
theorem fr_O_feed {f : Nat} {l1 : Int} {l2 : Int} {l3 : Int} {l4 : Int} {l5 : Int} {M : oM} {B : oM} (h_M : eqo [(1, 1), (2, (-1))] B M) : par (p_O_feed f l1 l2 l3 l4 l5 M) (fun s => eqo [(1, 1), (2, (-1))] B s.2) := by
  unfold p_O_feed
  refine par_bind (fr_T_size (eqo_rfl _ _)) fun q1 g_q1 => ?_
  have h_q1 := eqo_tr subw_nil h_M g_q1
  refine par_ite ?_ ?_
  · exact par_some h_q1
  · refine par_bind (fr_T_add (eqo_rfl _ _)) fun q2 g_q2 => ?_
    have h_q2 := eqo_tr (subw_cons (.head _) (subw_cons (.tail _ (.head _)) subw_nil)) h_q1 g_q2
    refine par_bind (fr_T_add (eqo_rfl _ _)) fun q3 g_q3 => ?_
    have h_q3 := eqo_tr (subw_cons (.head _) (subw_cons (.tail _ (.head _)) subw_nil)) h_q2 g_q3
    refine par_bind (fr_T_add (eqo_rfl _ _)) fun q4 g_q4 => ?_
    have h_q4 := eqo_tr (subw_cons (.head _) (subw_cons (.tail _ (.head _)) subw_nil)) h_q3 g_q4
    refine par_bind (fr_T_add (eqo_rfl _ _)) fun q5 g_q5 => ?_
    have h_q5 := eqo_tr (subw_cons (.head _) (subw_cons (.tail _ (.head _)) subw_nil)) h_q4 g_q5
    refine par_bind (fr_T_add (eqo_rfl _ _)) fun q6 g_q6 => ?_
    have h_q6 := eqo_tr (subw_cons (.head _) (subw_cons (.tail _ (.head _)) subw_nil)) h_q5 g_q6
    refine par_bind (fr_T_size (eqo_rfl _ _)) fun q7 g_q7 => ?_
    have h_q7 := eqo_tr subw_nil h_q6 g_q7
    exact par_some h_q7
theorem fr_L_takeFrom {f : Nat} {M : oM} {B : oM} (h_M : eqo [(18, 9), (18, 10), (19, (-1)), (20, (-1)), (21, (-1)), (22, (-1)), (23, (-1)), (24, (-1))] B M) : par (p_L_takeFrom f M) (fun s => eqo [(18, 9), (18, 10), (19, (-1)), (20, (-1)), (21, (-1)), (22, (-1)), (23, (-1)), (24, (-1))] B s.2) := by
  unfold p_L_takeFrom
  refine par_cpg ?_
  refine par_lt (eqo_ac (.tail _ (.tail _ (.head _))) h_M) fun M1 h_M1 => ?_
  refine par_cpg ?_
  refine par_lt (eqo_ac (.tail _ (.tail _ (.tail _ (.head _)))) h_M1) fun M2 h_M2 => ?_
  refine par_cpg ?_
  refine par_lt (eqo_ac (.tail _ (.tail _ (.tail _ (.tail _ (.head _))))) h_M2) fun M3 h_M3 => ?_
  refine par_cpg ?_
  refine par_lt (eqo_ac (.tail _ (.tail _ (.tail _ (.tail _ (.tail _ (.head _)))))) h_M3) fun M4 h_M4 => ?_
  refine par_cpg ?_
  refine par_lt (eqo_ac (.tail _ (.tail _ (.tail _ (.tail _ (.tail _ (.tail _ (.head _))))))) h_M4) fun M5 h_M5 => ?_
  refine par_cpg ?_
  refine par_lt (eqo_ac (.tail _ (.tail _ (.tail _ (.tail _ (.tail _ (.tail _ (.tail _ (.head _)))))))) h_M5) fun M6 h_M6 => ?_
  refine par_lt (eqo_oU (.head _) h_M6) fun M7 h_M7 => ?_
  refine par_lt (eqo_oU (.tail _ (.head _)) h_M7) fun M8 h_M8 => ?_
  exact par_some h_M8
theorem fr_L_landHere {f : Nat} {l1 : Int} {M : oM} {B : oM} (h_M : eqo [(29, (-1))] B M) : par (p_L_landHere f l1 M) (fun s => eqo [(29, (-1))] B s.2) := by
  unfold p_L_landHere
  refine par_ite ?_ ?_
  · exact par_some h_M
  · refine par_ite ?_ ?_
    · refine par_bnd fun i1 => ?_
      refine par_lt (eqo_oUa (.head _) h_M) fun M2 h_M2 => ?_
      exact par_some h_M2
    · exact par_some h_M
theorem fr_L_put {f : Nat} {l1 : Int} {l2 : Int} {M : oM} {B : oM} (h_M : eqo [(27, 9), (28, (-1)), (29, (-1))] B M) : par (p_L_put f l1 l2 M) (fun s => eqo [(27, 9), (28, (-1)), (29, (-1))] B s.2) := by
  unfold p_L_put
  refine par_ite ?_ ?_
  · refine par_bnd fun i1 => ?_
    refine par_lt (eqo_oUa (.tail _ (.head _)) h_M) fun M2 h_M2 => ?_
    refine par_bnd fun i3 => ?_
    refine par_lt (eqo_oUa (.tail _ (.tail _ (.head _))) h_M2) fun M4 h_M4 => ?_
    refine par_lt (eqo_oU (.head _) h_M4) fun M5 h_M5 => ?_
    exact par_some h_M5
  · exact par_some h_M
theorem fr_T_faultAt {f : Nat} {l1 : Int} {l2 : Int} {M : oM} {B : oM} (h_M : eqo [] B M) : par (p_T_faultAt f l1 l2 M) (fun s => eqo [] B s.2) := by
  unfold p_T_faultAt
  exact par_some h_M
theorem fr_T_fault {f : Nat} {l1 : Int} {M : oM} {B : oM} (h_M : eqo [] B M) : par (p_T_fault f l1 M) (fun s => eqo [] B s.2) := by
  unfold p_T_fault
  refine par_bind (fr_T_faultAt (eqo_rfl _ _)) fun q1 g_q1 => ?_
  have h_q1 := eqo_tr subw_nil h_M g_q1
  exact par_some h_q1
theorem fr_T_next {f : Nat} {M : oM} {B : oM} (h_M : eqo [] B M) : par (p_T_next f M) (fun s => eqo [] B s.2) := by
  unfold p_T_next
  exact par_some h_M
theorem fr_T_nextIsDigit {f : Nat} {M : oM} {B : oM} (h_M : eqo [] B M) : par (p_T_nextIsDigit f M) (fun s => eqo [] B s.2) := by
  unfold p_T_nextIsDigit
  refine par_ite ?_ ?_
  · exact par_some h_M
  · refine par_ite ?_ ?_
    · exact par_some h_M
    · exact par_some h_M
theorem fr_T_step {f : Nat} {M : oM} {B : oM} (h_M : eqo [(1, 3), (1, 4)] B M) : par (p_T_step f M) (fun s => eqo [(1, 3), (1, 4)] B s.2) := by
  unfold p_T_step
  refine par_lt (eqo_oU (.head _) h_M) fun M1 h_M1 => ?_
  refine par_ite ?_ ?_
  · refine par_lt (eqo_oU (.tail _ (.head _)) h_M1) fun M2 h_M2 => ?_
    exact par_some h_M2
  · refine par_ite ?_ ?_
    · refine par_ite ?_ ?_
      · refine par_bnd fun i5 => ?_
        refine par_lt (eqo_oU (.tail _ (.head _)) h_M1) fun M6 h_M6 => ?_
        exact par_some h_M6
      · refine par_lt (eqo_oU (.tail _ (.head _)) h_M1) fun M4 h_M4 => ?_
        exact par_some h_M4
    · refine par_lt (eqo_oU (.tail _ (.head _)) h_M1) fun M3 h_M3 => ?_
      exact par_some h_M3
theorem fr_LR_readDigits_B48_4 {f : Nat} {l1 : Int} {M : oM} {B : oM} (h_M : eqo [(1, 3), (1, 4), (27, 9), (28, (-1)), (29, (-1))] B M) : par (p_LR_readDigits_B48_4 f l1 M) (psum (fun s => eqo [(1, 3), (1, 4), (27, 9), (28, (-1)), (29, (-1))] B s.2.2) (fun s => eqo [(1, 3), (1, 4), (27, 9), (28, (-1)), (29, (-1))] B s.2)) := by
  unfold p_LR_readDigits_B48_4
  refine par_bind (fr_T_nextIsDigit (eqo_rfl _ _)) fun q1 g_q1 => ?_
  have h_q1 := eqo_tr subw_nil h_M g_q1
  refine par_ite ?_ ?_
  · refine par_bind (fr_L_put (eqo_rfl _ _)) fun q2 g_q2 => ?_
    have h_q2 := eqo_tr (subw_cons (.tail _ (.tail _ (.head _))) (subw_cons (.tail _ (.tail _ (.tail _ (.head _)))) (subw_cons (.tail _ (.tail _ (.tail _ (.tail _ (.head _))))) subw_nil))) h_q1 g_q2
    exact par_some h_q2
  · refine par_bind (fr_T_fault (eqo_rfl _ _)) fun q3 g_q3 => ?_
    have h_q3 := eqo_tr subw_nil h_q1 g_q3
    exact par_some h_q3
theorem fr_LR_readDigits_L4 {f : Nat} {B : oM} : ∀ (s : Int × Int × oM), (fun s => eqo [(1, 3), (1, 4), (27, 9), (28, (-1)), (29, (-1))] B s.2.2) s → par (p_LR_readDigits_L4 f s) (psum (fun s => eqo [(1, 3), (1, 4), (27, 9), (28, (-1)), (29, (-1))] B s.2.2) (fun s => eqo [(1, 3), (1, 4), (27, 9), (28, (-1)), (29, (-1))] B s.2)) := by
  intro s hs
  obtain ⟨l1, l2, M⟩ := s
  have h_M : eqo [(1, 3), (1, 4), (27, 9), (28, (-1)), (29, (-1))] B M := hs
  unfold p_LR_readDigits_L4
  refine par_ite ?_ ?_
  · refine par_bind (fr_T_nextIsDigit (eqo_rfl _ _)) fun q4 g_q4 => ?_
    have h_q4 := eqo_tr subw_nil h_M g_q4
    refine par_ite ?_ ?_
    · exact fr_LR_readDigits_B48_4 h_q4
    · refine par_bind (fr_T_next (eqo_rfl _ _)) fun q5 g_q5 => ?_
      have h_q5 := eqo_tr subw_nil h_q4 g_q5
      refine par_ltI fun x6 => ?_
      refine par_bind (fr_T_step (eqo_rfl _ _)) fun q7 g_q7 => ?_
      have h_q7 := eqo_tr (subw_cons (.head _) (subw_cons (.tail _ (.head _)) subw_nil)) h_q5 g_q7
      refine par_ltI fun x8 => ?_
      exact par_some h_q7
  · exact fr_LR_readDigits_B48_4 h_M
theorem fr_LR_readDigits {f : Nat} {M : oM} {B : oM} (h_M : eqo [(1, 3), (1, 4), (27, 9), (28, (-1)), (29, (-1))] B M) : par (p_LR_readDigits f M) (fun s => eqo [(1, 3), (1, 4), (27, 9), (28, (-1)), (29, (-1))] B s.2) := by
  unfold p_LR_readDigits
  exact par_iter (fun s hs => fr_LR_readDigits_L4 s hs) _ h_M
theorem fr_JS_isLatin1 {f : Nat} {M : oM} {B : oM} (h_M : eqo [] B M) : par (p_JS_isLatin1 f M) (fun s => eqo [] B s.2) := by
  unfold p_JS_isLatin1
  refine par_ite ?_ ?_
  · exact par_some h_M
  · refine par_ite ?_ ?_
    · exact par_some h_M
    · exact par_some h_M
theorem fr_JS_coder {f : Nat} {M : oM} {B : oM} (h_M : eqo [] B M) : par (p_JS_coder f M) (fun s => eqo [] B s.2) := by
  unfold p_JS_coder
  refine par_ite ?_ ?_
  · exact par_some h_M
  · exact par_some h_M
theorem fr_JS_length {f : Nat} {M : oM} {B : oM} (h_M : eqo [] B M) : par (p_JS_length f M) (fun s => eqo [] B s.2) := by
  unfold p_JS_length
  refine par_bind (fr_JS_coder (eqo_rfl _ _)) fun q1 g_q1 => ?_
  have h_q1 := eqo_tr subw_nil h_M g_q1
  exact par_some h_q1
theorem fr_JL_canEncode {f : Nat} {l0 : Int} {M : oM} {B : oM} (h_M : eqo [] B M) : par (p_JL_canEncode f l0 M) (fun s => eqo [] B s.2) := by
  unfold p_JL_canEncode
  refine par_ite ?_ ?_
  · exact par_some h_M
  · refine par_ite ?_ ?_
    · exact par_some h_M
    · exact par_some h_M
theorem fr_JL_indexOfChar_L7 {f : Nat} {l3 : Int} {l4 : Int} {B : oM} : ∀ (s : Int × oM), (fun s => eqo [] B s.2) s → par (p_JL_indexOfChar_L7 f l3 l4 s) (psum (fun s => eqo [] B s.2) (fun s => eqo [] B s.2)) := by
  intro s hs
  obtain ⟨l5, M⟩ := s
  have h_M : eqo [] B M := hs
  unfold p_JL_indexOfChar_L7
  refine par_ite ?_ ?_
  · refine par_bnd fun i1 => ?_
    refine par_ite ?_ ?_
    · exact par_some h_M
    · refine par_ltI fun x2 => ?_
      exact par_some h_M
  · exact par_some h_M
theorem fr_JL_indexOfChar {f : Nat} {l1 : Int} {l2 : Int} {l3 : Int} {M : oM} {B : oM} (h_M : eqo [] B M) : par (p_JL_indexOfChar f l1 l2 l3 M) (fun s => eqo [] B s.2) := by
  unfold p_JL_indexOfChar
  refine par_ltI fun x3 => ?_
  exact par_iter (fun s hs => fr_JL_indexOfChar_L7 s hs) _ h_M
theorem fr_JL_indexOf {f : Nat} {l1 : Int} {l2 : Int} {l3 : Int} {M : oM} {B : oM} (h_M : eqo [] B M) : par (p_JL_indexOf f l1 l2 l3 M) (fun s => eqo [] B s.2) := by
  unfold p_JL_indexOf
  refine par_bind (fr_JL_canEncode (eqo_rfl _ _)) fun q1 g_q1 => ?_
  have h_q1 := eqo_tr subw_nil h_M g_q1
  refine par_ite ?_ ?_
  · exact par_some h_q1
  · refine par_ltI fun x2 => ?_
    refine par_ltI fun x3 => ?_
    refine par_ite ?_ ?_
    · refine par_bind (fr_JL_indexOfChar (eqo_rfl _ _)) fun q4 g_q4 => ?_
      have h_q4 := eqo_tr subw_nil h_q1 g_q4
      exact par_some h_q4
    · exact par_some h_q1
theorem fr_JS_indexOf2 {f : Nat} {l1 : Int} {l2 : Int} {M : oM} {B : oM} (h_M : eqo [] B M) : par (p_JS_indexOf2 f l1 l2 M) (fun s => eqo [] B s.2) := by
  unfold p_JS_indexOf2
  refine par_bind (fr_JS_isLatin1 (eqo_rfl _ _)) fun q1 g_q1 => ?_
  have h_q1 := eqo_tr subw_nil h_M g_q1
  refine par_ite ?_ ?_
  · exact par_none
  · refine par_bind (fr_JS_length (eqo_rfl _ _)) fun q2 g_q2 => ?_
    have h_q2 := eqo_tr subw_nil h_q1 g_q2
    refine par_bind (fr_JL_indexOf (eqo_rfl _ _)) fun q3 g_q3 => ?_
    have h_q3 := eqo_tr subw_nil h_q2 g_q3
    exact par_some h_q3
theorem fr_JS_indexOf {f : Nat} {l1 : Int} {M : oM} {B : oM} (h_M : eqo [] B M) : par (p_JS_indexOf f l1 M) (fun s => eqo [] B s.2) := by
  unfold p_JS_indexOf
  refine par_bind (fr_JS_indexOf2 (eqo_rfl _ _)) fun q1 g_q1 => ?_
  have h_q1 := eqo_tr subw_nil h_M g_q1
  exact par_some h_q1
theorem fr_LR_readFactor_B111 {f : Nat} {s0 : Int} {M : oM} {rec : Int → oM → Option (Int × oM)} {B : oM} (hrec : ∀ (a0 : Int) (B : oM), par (rec a0 B) (fun s => eqo [(1, 3), (1, 4), (27, 9), (28, (-1)), (29, (-1))] B s.2)) (h_M : eqo [(1, 3), (1, 4), (27, 9), (28, (-1)), (29, (-1))] B M) : par (p_LR_readFactor_B111 f rec s0 M) (fun s => eqo [(1, 3), (1, 4), (27, 9), (28, (-1)), (29, (-1))] B s.2) := by
  unfold p_LR_readFactor_B111
  refine par_ite ?_ ?_
  · refine par_bind (fr_T_fault (eqo_rfl _ _)) fun q3 g_q3 => ?_
    have h_q3 := eqo_tr subw_nil h_M g_q3
    exact par_some h_q3
  · refine par_bind (fr_L_put (eqo_rfl _ _)) fun q1 g_q1 => ?_
    have h_q1 := eqo_tr (subw_cons (.tail _ (.tail _ (.head _))) (subw_cons (.tail _ (.tail _ (.tail _ (.head _)))) (subw_cons (.tail _ (.tail _ (.tail _ (.tail _ (.head _))))) subw_nil))) h_M g_q1
    refine par_bind (fr_T_step (eqo_rfl _ _)) fun q2 g_q2 => ?_
    have h_q2 := eqo_tr (subw_cons (.head _) (subw_cons (.tail _ (.head _)) subw_nil)) h_q1 g_q2
    exact par_some h_q2
theorem fr_LR_readFactor_F {f : Nat} {l1 : Int} {M : oM} {rec : Int → oM → Option (Int × oM)} {B : oM} (hrec : ∀ (a0 : Int) (B : oM), par (rec a0 B) (fun s => eqo [(1, 3), (1, 4), (27, 9), (28, (-1)), (29, (-1))] B s.2)) (h_M : eqo [(1, 3), (1, 4), (27, 9), (28, (-1)), (29, (-1))] B M) : par (p_LR_readFactor_F f rec l1 M) (fun s => eqo [(1, 3), (1, 4), (27, 9), (28, (-1)), (29, (-1))] B s.2) := by
  unfold p_LR_readFactor_F
  refine par_bind (fr_T_next (eqo_rfl _ _)) fun q4 g_q4 => ?_
  have h_q4 := eqo_tr subw_nil h_M g_q4
  refine par_ite ?_ ?_
  · refine par_ite ?_ ?_
    · refine par_bind (fr_T_step (eqo_rfl _ _)) fun q8 g_q8 => ?_
      have h_q8 := eqo_tr (subw_cons (.head _) (subw_cons (.tail _ (.head _)) subw_nil)) h_q4 g_q8
      refine par_bind (hrec _ _) fun q9 g_q9 => ?_
      have h_q9 := eqo_tr (subw_cons (.head _) (subw_cons (.tail _ (.head _)) (subw_cons (.tail _ (.tail _ (.head _))) (subw_cons (.tail _ (.tail _ (.tail _ (.head _)))) (subw_cons (.tail _ (.tail _ (.tail _ (.tail _ (.head _))))) subw_nil))))) h_q8 g_q9
      refine par_ite ?_ ?_
      · refine par_bind (fr_T_next (eqo_rfl _ _)) fun q10 g_q10 => ?_
        have h_q10 := eqo_tr subw_nil h_q9 g_q10
        refine par_ite ?_ ?_
        · refine par_bind (fr_T_step (eqo_rfl _ _)) fun q11 g_q11 => ?_
          have h_q11 := eqo_tr (subw_cons (.head _) (subw_cons (.tail _ (.head _)) subw_nil)) h_q10 g_q11
          exact par_some h_q11
        · refine par_bind (fr_T_fault (eqo_rfl _ _)) fun q12 g_q12 => ?_
          have h_q12 := eqo_tr subw_nil h_q10 g_q12
          exact par_some h_q12
      · exact par_some h_q9
    · refine par_bind (fr_T_fault (eqo_rfl _ _)) fun q13 g_q13 => ?_
      have h_q13 := eqo_tr subw_nil h_q4 g_q13
      exact par_some h_q13
  · refine par_bind (fr_T_nextIsDigit (eqo_rfl _ _)) fun q5 g_q5 => ?_
    have h_q5 := eqo_tr subw_nil h_q4 g_q5
    refine par_ite ?_ ?_
    · refine par_ite ?_ ?_
      · exact fr_LR_readFactor_B111 hrec h_q5
      · refine par_bind (fr_JS_indexOf (eqo_rfl _ _)) fun q6 g_q6 => ?_
        have h_q6 := eqo_tr subw_nil h_q5 g_q6
        exact fr_LR_readFactor_B111 hrec h_q6
    · refine par_bind (fr_LR_readDigits (eqo_rfl _ _)) fun q7 g_q7 => ?_
      have h_q7 := eqo_tr (subw_cons (.head _) (subw_cons (.tail _ (.head _)) (subw_cons (.tail _ (.tail _ (.head _))) (subw_cons (.tail _ (.tail _ (.tail _ (.head _)))) (subw_cons (.tail _ (.tail _ (.tail _ (.tail _ (.head _))))) subw_nil))))) h_q5 g_q7
      exact par_some h_q7
theorem fr_LR_readNumber_B117_7 {f : Nat} {l1 : Int} {l2 : Int} {l3 : Int} {l4 : Int} {M : oM} {rec : Int → oM → Option (Int × oM)} {B : oM} (hrec : ∀ (a0 : Int) (B : oM), par (rec a0 B) (fun s => eqo [(1, 3), (1, 4), (27, 9), (28, (-1)), (29, (-1))] B s.2)) (h_M : eqo [(1, 3), (1, 4), (27, 9), (28, (-1)), (29, (-1))] B M) : par (p_LR_readNumber_B117_7 f rec l1 l2 l3 l4 M) (psum (fun s => eqo [(1, 3), (1, 4), (27, 9), (28, (-1)), (29, (-1))] B s.2.2.2) (fun s => eqo [(1, 3), (1, 4), (27, 9), (28, (-1)), (29, (-1))] B s.2)) := by
  unfold p_LR_readNumber_B117_7
  refine par_bind (fr_T_step (eqo_rfl _ _)) fun q1 g_q1 => ?_
  have h_q1 := eqo_tr (subw_cons (.head _) (subw_cons (.tail _ (.head _)) subw_nil)) h_M g_q1
  refine par_ltI fun x2 => ?_
  exact par_some h_q1
theorem fr_LR_readNumber_B77_7 {f : Nat} {l1 : Int} {l3 : Int} {l4 : Int} {l6 : Int} {M : oM} {rec : Int → oM → Option (Int × oM)} {B : oM} (hrec : ∀ (a0 : Int) (B : oM), par (rec a0 B) (fun s => eqo [(1, 3), (1, 4), (27, 9), (28, (-1)), (29, (-1))] B s.2)) (h_M : eqo [(1, 3), (1, 4), (27, 9), (28, (-1)), (29, (-1))] B M) : par (p_LR_readNumber_B77_7 f rec l1 l3 l4 l6 M) (psum (fun s => eqo [(1, 3), (1, 4), (27, 9), (28, (-1)), (29, (-1))] B s.2.2.2) (fun s => eqo [(1, 3), (1, 4), (27, 9), (28, (-1)), (29, (-1))] B s.2)) := by
  unfold p_LR_readNumber_B77_7
  exact fr_LR_readNumber_B117_7 hrec h_M
theorem fr_LR_readNumber_B114_7 {f : Nat} {l1 : Int} {l2 : Int} {l4 : Int} {l6 : Int} {M : oM} {rec : Int → oM → Option (Int × oM)} {B : oM} (hrec : ∀ (a0 : Int) (B : oM), par (rec a0 B) (fun s => eqo [(1, 3), (1, 4), (27, 9), (28, (-1)), (29, (-1))] B s.2)) (h_M : eqo [(1, 3), (1, 4), (27, 9), (28, (-1)), (29, (-1))] B M) : par (p_LR_readNumber_B114_7 f rec l1 l2 l4 l6 M) (psum (fun s => eqo [(1, 3), (1, 4), (27, 9), (28, (-1)), (29, (-1))] B s.2.2.2) (fun s => eqo [(1, 3), (1, 4), (27, 9), (28, (-1)), (29, (-1))] B s.2)) := by
  unfold p_LR_readNumber_B114_7
  exact fr_LR_readNumber_B117_7 hrec h_M
theorem fr_LR_readNumber_B98_7 {f : Nat} {l1 : Int} {l2 : Int} {l4 : Int} {l6 : Int} {M : oM} {rec : Int → oM → Option (Int × oM)} {B : oM} (hrec : ∀ (a0 : Int) (B : oM), par (rec a0 B) (fun s => eqo [(1, 3), (1, 4), (27, 9), (28, (-1)), (29, (-1))] B s.2)) (h_M : eqo [(1, 3), (1, 4), (27, 9), (28, (-1)), (29, (-1))] B M) : par (p_LR_readNumber_B98_7 f rec l1 l2 l4 l6 M) (psum (fun s => eqo [(1, 3), (1, 4), (27, 9), (28, (-1)), (29, (-1))] B s.2.2.2) (fun s => eqo [(1, 3), (1, 4), (27, 9), (28, (-1)), (29, (-1))] B s.2)) := by
  unfold p_LR_readNumber_B98_7
  refine par_ite ?_ ?_
  · exact fr_LR_readNumber_B114_7 hrec h_M
  · refine par_ite ?_ ?_
    · exact fr_LR_readNumber_B114_7 hrec h_M
    · exact par_some h_M
theorem fr_LR_readNumber_B47_7 {f : Nat} {l1 : Int} {l2 : Int} {l3 : Int} {l4 : Int} {M : oM} {rec : Int → oM → Option (Int × oM)} {B : oM} (hrec : ∀ (a0 : Int) (B : oM), par (rec a0 B) (fun s => eqo [(1, 3), (1, 4), (27, 9), (28, (-1)), (29, (-1))] B s.2)) (h_M : eqo [(1, 3), (1, 4), (27, 9), (28, (-1)), (29, (-1))] B M) : par (p_LR_readNumber_B47_7 f rec l1 l2 l3 l4 M) (psum (fun s => eqo [(1, 3), (1, 4), (27, 9), (28, (-1)), (29, (-1))] B s.2.2.2) (fun s => eqo [(1, 3), (1, 4), (27, 9), (28, (-1)), (29, (-1))] B s.2)) := by
  unfold p_LR_readNumber_B47_7
  refine par_bind (fr_T_next (eqo_rfl _ _)) fun q3 g_q3 => ?_
  have h_q3 := eqo_tr subw_nil h_M g_q3
  refine par_ite ?_ ?_
  · exact fr_LR_readNumber_B77_7 hrec h_q3
  · refine par_ite ?_ ?_
    · exact fr_LR_readNumber_B77_7 hrec h_q3
    · refine par_ite ?_ ?_
      · exact fr_LR_readNumber_B77_7 hrec h_q3
      · refine par_ite ?_ ?_
        · exact fr_LR_readNumber_B98_7 hrec h_q3
        · refine par_bind (fr_L_put (eqo_rfl _ _)) fun q4 g_q4 => ?_
          have h_q4 := eqo_tr (subw_cons (.tail _ (.tail _ (.head _))) (subw_cons (.tail _ (.tail _ (.tail _ (.head _)))) (subw_cons (.tail _ (.tail _ (.tail _ (.tail _ (.head _))))) subw_nil))) h_q3 g_q4
          exact fr_LR_readNumber_B98_7 hrec h_q4
theorem fr_LR_readNumber_L7 {f : Nat} {l1 : Int} {rec : Int → oM → Option (Int × oM)} {B : oM} (hrec : ∀ (a0 : Int) (B : oM), par (rec a0 B) (fun s => eqo [(1, 3), (1, 4), (27, 9), (28, (-1)), (29, (-1))] B s.2)) : ∀ (s : Int × Int × Int × oM), (fun s => eqo [(1, 3), (1, 4), (27, 9), (28, (-1)), (29, (-1))] B s.2.2.2) s → par (p_LR_readNumber_L7 f rec l1 s) (psum (fun s => eqo [(1, 3), (1, 4), (27, 9), (28, (-1)), (29, (-1))] B s.2.2.2) (fun s => eqo [(1, 3), (1, 4), (27, 9), (28, (-1)), (29, (-1))] B s.2)) := by
  intro s hs
  obtain ⟨l2, l3, l4, M⟩ := s
  have h_M : eqo [(1, 3), (1, 4), (27, 9), (28, (-1)), (29, (-1))] B M := hs
  unfold p_LR_readNumber_L7
  refine par_ite ?_ ?_
  · refine par_bind (fr_LR_readFactor_F hrec (eqo_rfl _ _)) fun q6 g_q6 => ?_
    have h_q6 := eqo_tr (subw_cons (.head _) (subw_cons (.tail _ (.head _)) (subw_cons (.tail _ (.tail _ (.head _))) (subw_cons (.tail _ (.tail _ (.tail _ (.head _)))) (subw_cons (.tail _ (.tail _ (.tail _ (.tail _ (.head _))))) subw_nil))))) h_M g_q6
    refine par_ite ?_ ?_
    · refine par_ite ?_ ?_
      · exact fr_LR_readNumber_B47_7 hrec h_q6
      · refine par_bind (fr_L_put (eqo_rfl _ _)) fun q7 g_q7 => ?_
        have h_q7 := eqo_tr (subw_cons (.tail _ (.tail _ (.head _))) (subw_cons (.tail _ (.tail _ (.tail _ (.head _)))) (subw_cons (.tail _ (.tail _ (.tail _ (.tail _ (.head _))))) subw_nil))) h_q6 g_q7
        exact fr_LR_readNumber_B47_7 hrec h_q7
    · exact par_some h_q6
  · refine par_bind (fr_T_fault (eqo_rfl _ _)) fun q5 g_q5 => ?_
    have h_q5 := eqo_tr subw_nil h_M g_q5
    exact par_some h_q5
theorem fr_LR_readNumber_F {f : Nat} {l1 : Int} {M : oM} {rec : Int → oM → Option (Int × oM)} {B : oM} (hrec : ∀ (a0 : Int) (B : oM), par (rec a0 B) (fun s => eqo [(1, 3), (1, 4), (27, 9), (28, (-1)), (29, (-1))] B s.2)) (h_M : eqo [(1, 3), (1, 4), (27, 9), (28, (-1)), (29, (-1))] B M) : par (p_LR_readNumber_F f rec l1 M) (fun s => eqo [(1, 3), (1, 4), (27, 9), (28, (-1)), (29, (-1))] B s.2) := by
  unfold p_LR_readNumber_F
  exact par_iter (fun s hs => fr_LR_readNumber_L7 hrec s hs) _ h_M
theorem fr_LR_readNumber {f : Nat} : ∀ (n : Nat) (a0 : Int) (B : oM), par (p_LR_readNumber f n a0 B) (fun s => eqo [(1, 3), (1, 4), (27, 9), (28, (-1)), (29, (-1))] B s.2) := by
  intro n
  induction n with
  | zero => intro a0 B; exact par_none
  | succ n ih => intro a0 B; exact fr_LR_readNumber_F (fun a0 B => ih a0 B) (eqo_rfl _ _)
theorem fr_LR_readPlainTest_B89 {f : Nat} {l1 : Int} {l3 : Int} {M : oM} {rec : Int → oM → Option (Int × oM)} {B : oM} (hrec : ∀ (a0 : Int) (B : oM), par (rec a0 B) (fun s => eqo [(1, 3), (1, 4), (27, 9), (28, (-1)), (29, (-1))] B s.2)) (h_M : eqo [(1, 3), (1, 4), (27, 9), (28, (-1)), (29, (-1))] B M) : par (p_LR_readPlainTest_B89 f rec l1 l3 M) (fun s => eqo [(1, 3), (1, 4), (27, 9), (28, (-1)), (29, (-1))] B s.2) := by
  unfold p_LR_readPlainTest_B89
  refine par_bind (fr_T_step (eqo_rfl _ _)) fun q1 g_q1 => ?_
  have h_q1 := eqo_tr (subw_cons (.head _) (subw_cons (.tail _ (.head _)) subw_nil)) h_M g_q1
  refine par_bind (fr_LR_readNumber _ _ _) fun q2 g_q2 => ?_
  have h_q2 := eqo_tr (subw_cons (.head _) (subw_cons (.tail _ (.head _)) (subw_cons (.tail _ (.tail _ (.head _))) (subw_cons (.tail _ (.tail _ (.tail _ (.head _)))) (subw_cons (.tail _ (.tail _ (.tail _ (.tail _ (.head _))))) subw_nil))))) h_q1 g_q2
  refine par_bind (fr_L_put (eqo_rfl _ _)) fun q3 g_q3 => ?_
  have h_q3 := eqo_tr (subw_cons (.tail _ (.tail _ (.head _))) (subw_cons (.tail _ (.tail _ (.tail _ (.head _)))) (subw_cons (.tail _ (.tail _ (.tail _ (.tail _ (.head _))))) subw_nil))) h_q2 g_q3
  exact par_some h_q3
theorem fr_LR_readPlainTest_F {f : Nat} {l1 : Int} {M : oM} {rec : Int → oM → Option (Int × oM)} {B : oM} (hrec : ∀ (a0 : Int) (B : oM), par (rec a0 B) (fun s => eqo [(1, 3), (1, 4), (27, 9), (28, (-1)), (29, (-1))] B s.2)) (h_M : eqo [(1, 3), (1, 4), (27, 9), (28, (-1)), (29, (-1))] B M) : par (p_LR_readPlainTest_F f rec l1 M) (fun s => eqo [(1, 3), (1, 4), (27, 9), (28, (-1)), (29, (-1))] B s.2) := by
  unfold p_LR_readPlainTest_F
  refine par_bind (fr_T_next (eqo_rfl _ _)) fun q4 g_q4 => ?_
  have h_q4 := eqo_tr subw_nil h_M g_q4
  refine par_ite ?_ ?_
  · refine par_ite ?_ ?_
    · refine par_bind (fr_T_step (eqo_rfl _ _)) fun q8 g_q8 => ?_
      have h_q8 := eqo_tr (subw_cons (.head _) (subw_cons (.tail _ (.head _)) subw_nil)) h_q4 g_q8
      refine par_bind (hrec _ _) fun q9 g_q9 => ?_
      have h_q9 := eqo_tr (subw_cons (.head _) (subw_cons (.tail _ (.head _)) (subw_cons (.tail _ (.tail _ (.head _))) (subw_cons (.tail _ (.tail _ (.tail _ (.head _)))) (subw_cons (.tail _ (.tail _ (.tail _ (.tail _ (.head _))))) subw_nil))))) h_q8 g_q9
      exact par_some h_q9
    · refine par_bind (fr_T_fault (eqo_rfl _ _)) fun q10 g_q10 => ?_
      have h_q10 := eqo_tr subw_nil h_q4 g_q10
      exact par_some h_q10
  · refine par_bind (fr_LR_readNumber _ _ _) fun q5 g_q5 => ?_
    have h_q5 := eqo_tr (subw_cons (.head _) (subw_cons (.tail _ (.head _)) (subw_cons (.tail _ (.tail _ (.head _))) (subw_cons (.tail _ (.tail _ (.tail _ (.head _)))) (subw_cons (.tail _ (.tail _ (.tail _ (.tail _ (.head _))))) subw_nil))))) h_q4 g_q5
    refine par_ite ?_ ?_
    · refine par_bind (fr_T_next (eqo_rfl _ _)) fun q6 g_q6 => ?_
      have h_q6 := eqo_tr subw_nil h_q5 g_q6
      refine par_ite ?_ ?_
      · exact fr_LR_readPlainTest_B89 hrec h_q6
      · refine par_ite ?_ ?_
        · exact fr_LR_readPlainTest_B89 hrec h_q6
        · refine par_ite ?_ ?_
          · exact fr_LR_readPlainTest_B89 hrec h_q6
          · refine par_bind (fr_T_fault (eqo_rfl _ _)) fun q7 g_q7 => ?_
            have h_q7 := eqo_tr subw_nil h_q6 g_q7
            exact par_some h_q7
    · exact par_some h_q5
theorem fr_LR_readTest_L67 {f : Nat} {l2 : Int} {l3 : Int} {rec : Int → oM → Option (Int × oM)} {B : oM} (hrec : ∀ (a0 : Int) (B : oM), par (rec a0 B) (fun s => eqo [(1, 3), (1, 4), (27, 9), (28, (-1)), (29, (-1))] B s.2)) : ∀ (s : Int × oM), (fun s => eqo [(1, 3), (1, 4), (27, 9), (28, (-1)), (29, (-1))] B s.2) s → par (p_LR_readTest_L67 f rec l2 l3 s) (psum (fun s => eqo [(1, 3), (1, 4), (27, 9), (28, (-1)), (29, (-1))] B s.2) (fun s => eqo [(1, 3), (1, 4), (27, 9), (28, (-1)), (29, (-1))] B s.2)) := by
  intro s hs
  obtain ⟨l4, M⟩ := s
  have h_M : eqo [(1, 3), (1, 4), (27, 9), (28, (-1)), (29, (-1))] B M := hs
  unfold p_LR_readTest_L67
  refine par_ite ?_ ?_
  · refine par_bind (fr_L_put (eqo_rfl _ _)) fun q1 g_q1 => ?_
    have h_q1 := eqo_tr (subw_cons (.tail _ (.tail _ (.head _))) (subw_cons (.tail _ (.tail _ (.tail _ (.head _)))) (subw_cons (.tail _ (.tail _ (.tail _ (.tail _ (.head _))))) subw_nil))) h_M g_q1
    refine par_ltI fun x2 => ?_
    exact par_some h_q1
  · exact par_some h_M
theorem fr_LR_readTest_X4 {f : Nat} {l1 : Int} {rec : Int → oM → Option (Int × oM)} {B : oM} (hrec : ∀ (a0 : Int) (B : oM), par (rec a0 B) (fun s => eqo [(1, 3), (1, 4), (27, 9), (28, (-1)), (29, (-1))] B s.2)) : ∀ (s : (Int × oM) ⊕ (Int × oM)), (psum (fun s => eqo [(1, 3), (1, 4), (27, 9), (28, (-1)), (29, (-1))] B s.2) (fun s => eqo [(1, 3), (1, 4), (27, 9), (28, (-1)), (29, (-1))] B s.2)) s → par (p_LR_readTest_X4 f rec l1 s) (fun s => eqo [(1, 3), (1, 4), (27, 9), (28, (-1)), (29, (-1))] B s.2) := by
  intro s hs
  cases s with
  | inl s =>
    revert s hs
    intro q hs
    have h_q := hs
    unfold p_LR_readTest_X4
    exact par_some h_q
  | inr s =>
    obtain ⟨l2, M⟩ := s
    have h_M : eqo [(1, 3), (1, 4), (27, 9), (28, (-1)), (29, (-1))] B M := hs
    unfold p_LR_readTest_X4
    refine par_bind (fr_LR_readPlainTest_F hrec (eqo_rfl _ _)) fun q3 g_q3 => ?_
    have h_q3 := eqo_tr (subw_cons (.head _) (subw_cons (.tail _ (.head _)) (subw_cons (.tail _ (.tail _ (.head _))) (subw_cons (.tail _ (.tail _ (.tail _ (.head _)))) (subw_cons (.tail _ (.tail _ (.tail _ (.tail _ (.head _))))) subw_nil))))) h_M g_q3
    exact par_iter (fun s hs => fr_LR_readTest_L67 hrec s hs) _ h_q3
theorem fr_LR_readTest_L4 {f : Nat} {l1 : Int} {rec : Int → oM → Option (Int × oM)} {B : oM} (hrec : ∀ (a0 : Int) (B : oM), par (rec a0 B) (fun s => eqo [(1, 3), (1, 4), (27, 9), (28, (-1)), (29, (-1))] B s.2)) : ∀ (s : Int × Int × oM), (fun s => eqo [(1, 3), (1, 4), (27, 9), (28, (-1)), (29, (-1))] B s.2.2) s → par (p_LR_readTest_L4 f rec l1 s) (psum (fun s => eqo [(1, 3), (1, 4), (27, 9), (28, (-1)), (29, (-1))] B s.2.2) (psum (fun s => eqo [(1, 3), (1, 4), (27, 9), (28, (-1)), (29, (-1))] B s.2) (fun s => eqo [(1, 3), (1, 4), (27, 9), (28, (-1)), (29, (-1))] B s.2))) := by
  intro s hs
  obtain ⟨l2, l3, M⟩ := s
  have h_M : eqo [(1, 3), (1, 4), (27, 9), (28, (-1)), (29, (-1))] B M := hs
  unfold p_LR_readTest_L4
  refine par_ite ?_ ?_
  · refine par_bind (fr_T_next (eqo_rfl _ _)) fun q4 g_q4 => ?_
    have h_q4 := eqo_tr subw_nil h_M g_q4
    refine par_ite ?_ ?_
    · refine par_ite ?_ ?_
      · refine par_ltI fun x5 => ?_
        refine par_bind (fr_T_step (eqo_rfl _ _)) fun q6 g_q6 => ?_
        have h_q6 := eqo_tr (subw_cons (.head _) (subw_cons (.tail _ (.head _)) subw_nil)) h_q4 g_q6
        refine par_ltI fun x7 => ?_
        exact par_some h_q6
      · refine par_bind (fr_T_fault (eqo_rfl _ _)) fun q8 g_q8 => ?_
        have h_q8 := eqo_tr subw_nil h_q4 g_q8
        exact par_some h_q8
    · exact par_some h_q4
  · exact par_some h_M
theorem fr_LR_readTest_F {f : Nat} {l1 : Int} {M : oM} {rec : Int → oM → Option (Int × oM)} {B : oM} (hrec : ∀ (a0 : Int) (B : oM), par (rec a0 B) (fun s => eqo [(1, 3), (1, 4), (27, 9), (28, (-1)), (29, (-1))] B s.2)) (h_M : eqo [(1, 3), (1, 4), (27, 9), (28, (-1)), (29, (-1))] B M) : par (p_LR_readTest_F f rec l1 M) (fun s => eqo [(1, 3), (1, 4), (27, 9), (28, (-1)), (29, (-1))] B s.2) := by
  unfold p_LR_readTest_F
  exact par_bind (par_iter (fun s hs => fr_LR_readTest_L4 hrec s hs) _ h_M) fun s hs => fr_LR_readTest_X4 hrec s hs
theorem fr_LR_readCondition_B147_7 {f : Nat} {l1 : Int} {l2 : Int} {l3 : Int} {l4 : Int} {M : oM} {rec : Int → oM → Option (Int × oM)} {B : oM} (hrec : ∀ (a0 : Int) (B : oM), par (rec a0 B) (fun s => eqo [(1, 3), (1, 4), (27, 9), (28, (-1)), (29, (-1))] B s.2)) (h_M : eqo [(1, 3), (1, 4), (27, 9), (28, (-1)), (29, (-1))] B M) : par (p_LR_readCondition_B147_7 f rec l1 l2 l3 l4 M) (psum (fun s => eqo [(1, 3), (1, 4), (27, 9), (28, (-1)), (29, (-1))] B s.2.2.2) (fun s => eqo [(1, 3), (1, 4), (27, 9), (28, (-1)), (29, (-1))] B s.2)) := by
  unfold p_LR_readCondition_B147_7
  refine par_ltI fun x1 => ?_
  exact par_some h_M
theorem fr_LR_readCondition_B69_7 {f : Nat} {l1 : Int} {l2 : Int} {l3 : Int} {l4 : Int} {l6 : Int} {M : oM} {rec : Int → oM → Option (Int × oM)} {B : oM} (hrec : ∀ (a0 : Int) (B : oM), par (rec a0 B) (fun s => eqo [(1, 3), (1, 4), (27, 9), (28, (-1)), (29, (-1))] B s.2)) (h_M : eqo [(1, 3), (1, 4), (27, 9), (28, (-1)), (29, (-1))] B M) : par (p_LR_readCondition_B69_7 f rec l1 l2 l3 l4 l6 M) (psum (fun s => eqo [(1, 3), (1, 4), (27, 9), (28, (-1)), (29, (-1))] B s.2.2.2) (fun s => eqo [(1, 3), (1, 4), (27, 9), (28, (-1)), (29, (-1))] B s.2)) := by
  unfold p_LR_readCondition_B69_7
  refine par_bind (fr_T_step (eqo_rfl _ _)) fun q2 g_q2 => ?_
  have h_q2 := eqo_tr (subw_cons (.head _) (subw_cons (.tail _ (.head _)) subw_nil)) h_M g_q2
  refine par_bind (fr_L_landHere (eqo_rfl _ _)) fun q3 g_q3 => ?_
  have h_q3 := eqo_tr (subw_cons (.tail _ (.tail _ (.tail _ (.tail _ (.head _))))) subw_nil) h_q2 g_q3
  refine par_ite ?_ ?_
  · refine par_bind (fr_L_put (eqo_rfl _ _)) fun q6 g_q6 => ?_
    have h_q6 := eqo_tr (subw_cons (.tail _ (.tail _ (.head _))) (subw_cons (.tail _ (.tail _ (.tail _ (.head _)))) (subw_cons (.tail _ (.tail _ (.tail _ (.tail _ (.head _))))) subw_nil))) h_q3 g_q6
    exact fr_LR_readCondition_B147_7 hrec h_q6
  · refine par_bind (fr_L_landHere (eqo_rfl _ _)) fun q4 g_q4 => ?_
    have h_q4 := eqo_tr (subw_cons (.tail _ (.tail _ (.tail _ (.tail _ (.head _))))) subw_nil) h_q3 g_q4
    refine par_ite ?_ ?_
    · exact par_some h_q4
    · refine par_bind (fr_L_put (eqo_rfl _ _)) fun q5 g_q5 => ?_
      have h_q5 := eqo_tr (subw_cons (.tail _ (.tail _ (.head _))) (subw_cons (.tail _ (.tail _ (.tail _ (.head _)))) (subw_cons (.tail _ (.tail _ (.tail _ (.tail _ (.head _))))) subw_nil))) h_q4 g_q5
      exact fr_LR_readCondition_B147_7 hrec h_q5
theorem fr_LR_readCondition_L7 {f : Nat} {l1 : Int} {rec : Int → oM → Option (Int × oM)} {B : oM} (hrec : ∀ (a0 : Int) (B : oM), par (rec a0 B) (fun s => eqo [(1, 3), (1, 4), (27, 9), (28, (-1)), (29, (-1))] B s.2)) : ∀ (s : Int × Int × Int × oM), (fun s => eqo [(1, 3), (1, 4), (27, 9), (28, (-1)), (29, (-1))] B s.2.2.2) s → par (p_LR_readCondition_L7 f rec l1 s) (psum (fun s => eqo [(1, 3), (1, 4), (27, 9), (28, (-1)), (29, (-1))] B s.2.2.2) (fun s => eqo [(1, 3), (1, 4), (27, 9), (28, (-1)), (29, (-1))] B s.2)) := by
  intro s hs
  obtain ⟨l2, l3, l4, M⟩ := s
  have h_M : eqo [(1, 3), (1, 4), (27, 9), (28, (-1)), (29, (-1))] B M := hs
  unfold p_LR_readCondition_L7
  refine par_ite ?_ ?_
  · refine par_bind (fr_LR_readTest_F hrec (eqo_rfl _ _)) fun q8 g_q8 => ?_
    have h_q8 := eqo_tr (subw_cons (.head _) (subw_cons (.tail _ (.head _)) (subw_cons (.tail _ (.tail _ (.head _))) (subw_cons (.tail _ (.tail _ (.tail _ (.head _)))) (subw_cons (.tail _ (.tail _ (.tail _ (.tail _ (.head _))))) subw_nil))))) h_M g_q8
    refine par_ite ?_ ?_
    · refine par_bind (fr_T_next (eqo_rfl _ _)) fun q9 g_q9 => ?_
      have h_q9 := eqo_tr subw_nil h_q8 g_q9
      refine par_ite ?_ ?_
      · exact fr_LR_readCondition_B69_7 hrec h_q9
      · refine par_ite ?_ ?_
        · exact fr_LR_readCondition_B69_7 hrec h_q9
        · refine par_ite ?_ ?_
          · exact fr_LR_readCondition_B69_7 hrec h_q9
          · refine par_bind (fr_T_fault (eqo_rfl _ _)) fun q10 g_q10 => ?_
            have h_q10 := eqo_tr subw_nil h_q9 g_q10
            exact par_some h_q10
    · exact par_some h_q8
  · refine par_bind (fr_T_fault (eqo_rfl _ _)) fun q7 g_q7 => ?_
    have h_q7 := eqo_tr subw_nil h_M g_q7
    exact par_some h_q7
theorem fr_LR_readCondition_F {f : Nat} {l1 : Int} {M : oM} {rec : Int → oM → Option (Int × oM)} {B : oM} (hrec : ∀ (a0 : Int) (B : oM), par (rec a0 B) (fun s => eqo [(1, 3), (1, 4), (27, 9), (28, (-1)), (29, (-1))] B s.2)) (h_M : eqo [(1, 3), (1, 4), (27, 9), (28, (-1)), (29, (-1))] B M) : par (p_LR_readCondition_F f rec l1 M) (fun s => eqo [(1, 3), (1, 4), (27, 9), (28, (-1)), (29, (-1))] B s.2) := by
  unfold p_LR_readCondition_F
  exact par_iter (fun s hs => fr_LR_readCondition_L7 hrec s hs) _ h_M
theorem fr_LR_readCondition {f : Nat} : ∀ (n : Nat) (a0 : Int) (B : oM), par (p_LR_readCondition f n a0 B) (fun s => eqo [(1, 3), (1, 4), (27, 9), (28, (-1)), (29, (-1))] B s.2) := by
  intro n
  induction n with
  | zero => intro a0 B; exact par_none
  | succ n ih => intro a0 B; exact fr_LR_readCondition_F (fun a0 B => ih a0 B) (eqo_rfl _ _)
theorem fr_LR_readRule_B104 {f : Nat} {l1 : Int} {s0 : Int} {M : oM} {B : oM} (h_M : eqo [(1, 3), (1, 4), (27, 9), (27, 10), (28, (-1)), (29, (-1)), (30, (-1)), (31, (-1)), (32, (-1)), (33, (-1))] B M) : par (p_LR_readRule_B104 f l1 s0 M) (fun s => eqo [(1, 3), (1, 4), (27, 9), (27, 10), (28, (-1)), (29, (-1)), (30, (-1)), (31, (-1)), (32, (-1)), (33, (-1))] B s.2) := by
  unfold p_LR_readRule_B104
  refine par_ite ?_ ?_
  · refine par_bind (fr_T_next (eqo_rfl _ _)) fun q1 g_q1 => ?_
    have h_q1 := eqo_tr subw_nil h_M g_q1
    refine par_ite ?_ ?_
    · refine par_bind (fr_T_step (eqo_rfl _ _)) fun q2 g_q2 => ?_
      have h_q2 := eqo_tr (subw_cons (.head _) (subw_cons (.tail _ (.head _)) subw_nil)) h_q1 g_q2
      refine par_bnd fun i3 => ?_
      refine par_lt (eqo_oUa (.tail _ (.tail _ (.tail _ (.tail _ (.tail _ (.tail _ (.tail _ (.tail _ (.head _))))))))) h_q2) fun M4 h_M4 => ?_
      refine par_bind (fr_LR_readCondition _ _ _) fun q5 g_q5 => ?_
      have h_q5 := eqo_tr (subw_cons (.head _) (subw_cons (.tail _ (.head _)) (subw_cons (.tail _ (.tail _ (.head _))) (subw_cons (.tail _ (.tail _ (.tail _ (.tail _ (.head _))))) (subw_cons (.tail _ (.tail _ (.tail _ (.tail _ (.tail _ (.head _)))))) subw_nil))))) h_M4 g_q5
      refine par_ite ?_ ?_
      · refine par_bnd fun i6 => ?_
        refine par_lt (eqo_oUa (.tail _ (.tail _ (.tail _ (.tail _ (.tail _ (.tail _ (.tail _ (.tail _ (.tail _ (.head _)))))))))) h_q5) fun M7 h_M7 => ?_
        refine par_lt (eqo_oU (.tail _ (.tail _ (.tail _ (.head _)))) h_M7) fun M8 h_M8 => ?_
        exact par_some h_M8
      · exact par_some h_q5
    · refine par_bind (fr_T_fault (eqo_rfl _ _)) fun q9 g_q9 => ?_
      have h_q9 := eqo_tr subw_nil h_q1 g_q9
      exact par_some h_q9
  · exact par_some h_M
theorem fr_LR_readRule_B41 {f : Nat} {l1 : Int} {l2 : Int} {M : oM} {B : oM} (h_M : eqo [(1, 3), (1, 4), (27, 9), (27, 10), (28, (-1)), (29, (-1)), (30, (-1)), (31, (-1)), (32, (-1)), (33, (-1))] B M) : par (p_LR_readRule_B41 f l1 l2 M) (fun s => eqo [(1, 3), (1, 4), (27, 9), (27, 10), (28, (-1)), (29, (-1)), (30, (-1)), (31, (-1)), (32, (-1)), (33, (-1))] B s.2) := by
  unfold p_LR_readRule_B41
  refine par_ite ?_ ?_
  · refine par_bind (fr_T_step (eqo_rfl _ _)) fun q10 g_q10 => ?_
    have h_q10 := eqo_tr (subw_cons (.head _) (subw_cons (.tail _ (.head _)) subw_nil)) h_M g_q10
    refine par_bnd fun i11 => ?_
    refine par_lt (eqo_oUa (.tail _ (.tail _ (.tail _ (.tail _ (.tail _ (.tail _ (.head _))))))) h_q10) fun M12 h_M12 => ?_
    refine par_bnd fun i13 => ?_
    refine par_lt (eqo_oUa (.tail _ (.tail _ (.tail _ (.tail _ (.tail _ (.tail _ (.tail _ (.head _)))))))) h_M12) fun M14 h_M14 => ?_
    refine par_ite ?_ ?_
    · exact fr_LR_readRule_B104 h_M14
    · refine par_bind (fr_LR_readNumber _ _ _) fun q15 g_q15 => ?_
      have h_q15 := eqo_tr (subw_cons (.head _) (subw_cons (.tail _ (.head _)) (subw_cons (.tail _ (.tail _ (.head _))) (subw_cons (.tail _ (.tail _ (.tail _ (.tail _ (.head _))))) (subw_cons (.tail _ (.tail _ (.tail _ (.tail _ (.tail _ (.head _)))))) subw_nil))))) h_M14 g_q15
      exact fr_LR_readRule_B104 h_q15
  · refine par_bind (fr_T_fault (eqo_rfl _ _)) fun q16 g_q16 => ?_
    have h_q16 := eqo_tr subw_nil h_M g_q16
    exact par_some h_q16
theorem fr_LR_readRule {f : Nat} {l1 : Int} {M : oM} {B : oM} (h_M : eqo [(1, 3), (1, 4), (27, 9), (27, 10), (28, (-1)), (29, (-1)), (30, (-1)), (31, (-1)), (32, (-1)), (33, (-1))] B M) : par (p_LR_readRule f l1 M) (fun s => eqo [(1, 3), (1, 4), (27, 9), (27, 10), (28, (-1)), (29, (-1)), (30, (-1)), (31, (-1)), (32, (-1)), (33, (-1))] B s.2) := by
  unfold p_LR_readRule
  refine par_bind (fr_T_next (eqo_rfl _ _)) fun q17 g_q17 => ?_
  have h_q17 := eqo_tr subw_nil h_M g_q17
  refine par_ite ?_ ?_
  · exact fr_LR_readRule_B41 h_q17
  · refine par_ite ?_ ?_
    · exact fr_LR_readRule_B41 h_q17
    · refine par_ite ?_ ?_
      · exact fr_LR_readRule_B41 h_q17
      · refine par_ite ?_ ?_
        · exact fr_LR_readRule_B41 h_q17
        · refine par_bind (fr_T_fault (eqo_rfl _ _)) fun q18 g_q18 => ?_
          have h_q18 := eqo_tr subw_nil h_q17 g_q18
          exact par_some h_q18
theorem fr_T_ended {f : Nat} {M : oM} {B : oM} (h_M : eqo [] B M) : par (p_T_ended f M) (fun s => eqo [] B s.2) := by
  unfold p_T_ended
  refine par_ite ?_ ?_
  · exact par_some h_M
  · exact par_some h_M
theorem fr_LR_read_L18 {f : Nat} {B : oM} : ∀ (s : Int × oM), (fun s => eqo [(1, 3), (1, 4), (27, 9), (27, 10), (28, (-1)), (29, (-1)), (30, (-1)), (31, (-1)), (32, (-1)), (33, (-1))] B s.2) s → par (p_LR_read_L18 f s) (psum (fun s => eqo [(1, 3), (1, 4), (27, 9), (27, 10), (28, (-1)), (29, (-1)), (30, (-1)), (31, (-1)), (32, (-1)), (33, (-1))] B s.2) (fun s => eqo [(1, 3), (1, 4), (27, 9), (27, 10), (28, (-1)), (29, (-1)), (30, (-1)), (31, (-1)), (32, (-1)), (33, (-1))] B s.2)) := by
  intro s hs
  obtain ⟨l1, M⟩ := s
  have h_M : eqo [(1, 3), (1, 4), (27, 9), (27, 10), (28, (-1)), (29, (-1)), (30, (-1)), (31, (-1)), (32, (-1)), (33, (-1))] B M := hs
  unfold p_LR_read_L18
  refine par_ite ?_ ?_
  · refine par_bind (fr_T_fault (eqo_rfl _ _)) fun q1 g_q1 => ?_
    have h_q1 := eqo_tr subw_nil h_M g_q1
    exact par_some h_q1
  · refine par_bind (fr_LR_readRule (eqo_rfl _ _)) fun q2 g_q2 => ?_
    have h_q2 := eqo_tr (subw_cons (.head _) (subw_cons (.tail _ (.head _)) (subw_cons (.tail _ (.tail _ (.head _))) (subw_cons (.tail _ (.tail _ (.tail _ (.head _)))) (subw_cons (.tail _ (.tail _ (.tail _ (.tail _ (.head _))))) (subw_cons (.tail _ (.tail _ (.tail _ (.tail _ (.tail _ (.head _)))))) (subw_cons (.tail _ (.tail _ (.tail _ (.tail _ (.tail _ (.tail _ (.head _))))))) (subw_cons (.tail _ (.tail _ (.tail _ (.tail _ (.tail _ (.tail _ (.tail _ (.head _)))))))) (subw_cons (.tail _ (.tail _ (.tail _ (.tail _ (.tail _ (.tail _ (.tail _ (.tail _ (.head _))))))))) (subw_cons (.tail _ (.tail _ (.tail _ (.tail _ (.tail _ (.tail _ (.tail _ (.tail _ (.tail _ (.head _)))))))))) subw_nil)))))))))) h_M g_q2
    refine par_ite ?_ ?_
    · refine par_bind (fr_T_ended (eqo_rfl _ _)) fun q3 g_q3 => ?_
      have h_q3 := eqo_tr subw_nil h_q2 g_q3
      refine par_ite ?_ ?_
      · refine par_bind (fr_T_next (eqo_rfl _ _)) fun q4 g_q4 => ?_
        have h_q4 := eqo_tr subw_nil h_q3 g_q4
        refine par_ite ?_ ?_
        · refine par_bind (fr_T_step (eqo_rfl _ _)) fun q5 g_q5 => ?_
          have h_q5 := eqo_tr (subw_cons (.head _) (subw_cons (.tail _ (.head _)) subw_nil)) h_q4 g_q5
          refine par_ltI fun x6 => ?_
          exact par_some h_q5
        · refine par_bind (fr_T_fault (eqo_rfl _ _)) fun q7 g_q7 => ?_
          have h_q7 := eqo_tr subw_nil h_q4 g_q7
          exact par_some h_q7
      · exact par_some h_q3
    · exact par_some h_q2
theorem fr_LR_read {f : Nat} {M : oM} {B : oM} (h_M : eqo [(1, 3), (1, 4), (27, 9), (27, 10), (28, (-1)), (29, (-1)), (30, (-1)), (31, (-1)), (32, (-1)), (33, (-1))] B M) : par (p_LR_read f M) (fun s => eqo [(1, 3), (1, 4), (27, 9), (27, 10), (28, (-1)), (29, (-1)), (30, (-1)), (31, (-1)), (32, (-1)), (33, (-1))] B s.2) := by
  unfold p_LR_read
  refine par_lt (eqo_oU (.tail _ (.tail _ (.head _))) h_M) fun M8 h_M8 => ?_
  refine par_lt (eqo_oU (.tail _ (.tail _ (.tail _ (.head _)))) h_M8) fun M9 h_M9 => ?_
  exact par_iter (fun s hs => fr_LR_read_L18 s hs) _ h_M9
theorem fr_T_clear {f : Nat} {M : oM} {B : oM} (h_M : eqo [(1, 1)] B M) : par (p_T_clear f M) (fun s => eqo [(1, 1)] B s.2) := by
  unfold p_T_clear
  refine par_lt (eqo_oU (.head _) h_M) fun M1 h_M1 => ?_
  exact par_some h_M1
theorem fr_T_opens {f : Nat} {l1 : Int} {l2 : Int} {l3 : Int} {M : oM} {B : oM} (h_M : eqo [(1, 2), (1, 3), (1, 4)] B M) : par (p_T_opens f l1 l2 l3 M) (fun s => eqo [(1, 2), (1, 3), (1, 4)] B s.2) := by
  unfold p_T_opens
  refine par_ite ?_ ?_
  · exact par_some h_M
  · refine par_ite ?_ ?_
    · exact par_some h_M
    · refine par_ite ?_ ?_
      · exact par_some h_M
      · refine par_lt (eqo_oU (.head _) h_M) fun M1 h_M1 => ?_
        refine par_lt (eqo_oU (.tail _ (.head _)) h_M1) fun M2 h_M2 => ?_
        refine par_bind (fr_T_step (eqo_rfl _ _)) fun q3 g_q3 => ?_
        have h_q3 := eqo_tr (subw_cons (.tail _ (.head _)) (subw_cons (.tail _ (.tail _ (.head _))) subw_nil)) h_M2 g_q3
        exact par_some h_q3
theorem fr_O_law {f : Nat} {l1 : Int} {M : oM} {B : oM} (h_M : eqo [(1, 1), (1, 2), (1, 3), (1, 4), (18, 9), (18, 10), (19, (-1)), (20, (-1)), (21, (-1)), (22, (-1)), (23, (-1)), (24, (-1)), (27, 9), (27, 10), (28, (-1)), (29, (-1)), (30, (-1)), (31, (-1)), (32, (-1)), (33, (-1))] B M) : par (p_O_law f l1 M) (fun s => eqo [(1, 1), (1, 2), (1, 3), (1, 4), (18, 9), (18, 10), (19, (-1)), (20, (-1)), (21, (-1)), (22, (-1)), (23, (-1)), (24, (-1)), (27, 9), (27, 10), (28, (-1)), (29, (-1)), (30, (-1)), (31, (-1)), (32, (-1)), (33, (-1))] B s.2) := by
  unfold p_O_law
  refine par_bind (fr_T_opens (eqo_rfl _ _)) fun q1 g_q1 => ?_
  have h_q1 := eqo_tr (subw_cons (.tail _ (.head _)) (subw_cons (.tail _ (.tail _ (.head _))) (subw_cons (.tail _ (.tail _ (.tail _ (.head _)))) subw_nil))) h_M g_q1
  refine par_ite ?_ ?_
  · exact par_some h_q1
  · refine par_bind (fr_LR_read (eqo_rfl _ _)) fun q2 g_q2 => ?_
    have h_q2 := eqo_tr (subw_cons (.tail _ (.tail _ (.head _))) (subw_cons (.tail _ (.tail _ (.tail _ (.head _)))) (subw_cons (.tail _ (.tail _ (.tail _ (.tail _ (.tail _ (.tail _ (.tail _ (.tail _ (.tail _ (.tail _ (.tail _ (.tail _ (.head _))))))))))))) (subw_cons (.tail _ (.tail _ (.tail _ (.tail _ (.tail _ (.tail _ (.tail _ (.tail _ (.tail _ (.tail _ (.tail _ (.tail _ (.tail _ (.head _)))))))))))))) (subw_cons (.tail _ (.tail _ (.tail _ (.tail _ (.tail _ (.tail _ (.tail _ (.tail _ (.tail _ (.tail _ (.tail _ (.tail _ (.tail _ (.tail _ (.head _))))))))))))))) (subw_cons (.tail _ (.tail _ (.tail _ (.tail _ (.tail _ (.tail _ (.tail _ (.tail _ (.tail _ (.tail _ (.tail _ (.tail _ (.tail _ (.tail _ (.tail _ (.head _)))))))))))))))) (subw_cons (.tail _ (.tail _ (.tail _ (.tail _ (.tail _ (.tail _ (.tail _ (.tail _ (.tail _ (.tail _ (.tail _ (.tail _ (.tail _ (.tail _ (.tail _ (.tail _ (.head _))))))))))))))))) (subw_cons (.tail _ (.tail _ (.tail _ (.tail _ (.tail _ (.tail _ (.tail _ (.tail _ (.tail _ (.tail _ (.tail _ (.tail _ (.tail _ (.tail _ (.tail _ (.tail _ (.tail _ (.head _)))))))))))))))))) (subw_cons (.tail _ (.tail _ (.tail _ (.tail _ (.tail _ (.tail _ (.tail _ (.tail _ (.tail _ (.tail _ (.tail _ (.tail _ (.tail _ (.tail _ (.tail _ (.tail _ (.tail _ (.tail _ (.head _))))))))))))))))))) (subw_cons (.tail _ (.tail _ (.tail _ (.tail _ (.tail _ (.tail _ (.tail _ (.tail _ (.tail _ (.tail _ (.tail _ (.tail _ (.tail _ (.tail _ (.tail _ (.tail _ (.tail _ (.tail _ (.tail _ (.head _)))))))))))))))))))) subw_nil)))))))))) h_q1 g_q2
    refine par_bind (fr_T_clear (eqo_rfl _ _)) fun q3 g_q3 => ?_
    have h_q3 := eqo_tr (subw_cons (.head _) subw_nil) h_q2 g_q3
    refine par_ite ?_ ?_
    · refine par_bind (fr_L_takeFrom (eqo_rfl _ _)) fun q4 g_q4 => ?_
      have h_q4 := eqo_tr (subw_cons (.tail _ (.tail _ (.tail _ (.tail _ (.head _))))) (subw_cons (.tail _ (.tail _ (.tail _ (.tail _ (.tail _ (.head _)))))) (subw_cons (.tail _ (.tail _ (.tail _ (.tail _ (.tail _ (.tail _ (.head _))))))) (subw_cons (.tail _ (.tail _ (.tail _ (.tail _ (.tail _ (.tail _ (.tail _ (.head _)))))))) (subw_cons (.tail _ (.tail _ (.tail _ (.tail _ (.tail _ (.tail _ (.tail _ (.tail _ (.head _))))))))) (subw_cons (.tail _ (.tail _ (.tail _ (.tail _ (.tail _ (.tail _ (.tail _ (.tail _ (.tail _ (.head _)))))))))) (subw_cons (.tail _ (.tail _ (.tail _ (.tail _ (.tail _ (.tail _ (.tail _ (.tail _ (.tail _ (.tail _ (.head _))))))))))) (subw_cons (.tail _ (.tail _ (.tail _ (.tail _ (.tail _ (.tail _ (.tail _ (.tail _ (.tail _ (.tail _ (.tail _ (.head _)))))))))))) subw_nil)))))))) h_q3 g_q4
      exact par_some h_q4
    · exact par_some h_q3
theorem fr_T_place {f : Nat} {M : oM} {B : oM} (h_M : eqo [] B M) : par (p_T_place f M) (fun s => eqo [] B s.2) := by
  unfold p_T_place
  exact par_some h_M
theorem fr_DR_readMany_B72_27 {f : Nat} {l1 : Int} {l2 : Int} {l3 : Int} {M : oM} {B : oM} (h_M : eqo [(1, 3), (1, 4), (38, (-1))] B M) : par (p_DR_readMany_B72_27 f l1 l2 l3 M) (psum (fun s => eqo [(1, 3), (1, 4), (38, (-1))] B s.2.2) (fun s => eqo [(1, 3), (1, 4), (38, (-1))] B s.2)) := by
  unfold p_DR_readMany_B72_27
  refine par_ite ?_ ?_
  · refine par_bind (fr_T_faultAt (eqo_rfl _ _)) fun q4 g_q4 => ?_
    have h_q4 := eqo_tr subw_nil h_M g_q4
    exact par_some h_q4
  · refine par_bnd fun i1 => ?_
    refine par_bnd fun i2 => ?_
    refine par_lt (eqo_oUa (.tail _ (.tail _ (.head _))) h_M) fun M3 h_M3 => ?_
    exact par_some h_M3
theorem fr_DR_readMany_L27 {f : Nat} {l1 : Int} {l2 : Int} {B : oM} : ∀ (s : Int × Int × oM), (fun s => eqo [(1, 3), (1, 4), (38, (-1))] B s.2.2) s → par (p_DR_readMany_L27 f l1 l2 s) (psum (fun s => eqo [(1, 3), (1, 4), (38, (-1))] B s.2.2) (fun s => eqo [(1, 3), (1, 4), (38, (-1))] B s.2)) := by
  intro s hs
  obtain ⟨l3, l4, M⟩ := s
  have h_M : eqo [(1, 3), (1, 4), (38, (-1))] B M := hs
  unfold p_DR_readMany_L27
  refine par_ite ?_ ?_
  · refine par_bind (fr_T_nextIsDigit (eqo_rfl _ _)) fun q5 g_q5 => ?_
    have h_q5 := eqo_tr subw_nil h_M g_q5
    refine par_ite ?_ ?_
    · exact fr_DR_readMany_B72_27 h_q5
    · refine par_bind (fr_T_next (eqo_rfl _ _)) fun q6 g_q6 => ?_
      have h_q6 := eqo_tr subw_nil h_q5 g_q6
      refine par_ltI fun x7 => ?_
      refine par_bind (fr_T_step (eqo_rfl _ _)) fun q8 g_q8 => ?_
      have h_q8 := eqo_tr (subw_cons (.head _) (subw_cons (.tail _ (.head _)) subw_nil)) h_q6 g_q8
      refine par_ltI fun x9 => ?_
      exact par_some h_q8
  · exact fr_DR_readMany_B72_27 h_M
theorem fr_DR_readMany_B23 {f : Nat} {l1 : Int} {l2 : Int} {s0 : Int} {M : oM} {B : oM} (h_M : eqo [(1, 3), (1, 4), (38, (-1))] B M) : par (p_DR_readMany_B23 f l1 l2 s0 M) (fun s => eqo [(1, 3), (1, 4), (38, (-1))] B s.2) := by
  unfold p_DR_readMany_B23
  exact par_iter (fun s hs => fr_DR_readMany_L27 s hs) _ h_M
theorem fr_DR_readMany {f : Nat} {l1 : Int} {M : oM} {B : oM} (h_M : eqo [(1, 3), (1, 4), (38, (-1))] B M) : par (p_DR_readMany f l1 M) (fun s => eqo [(1, 3), (1, 4), (38, (-1))] B s.2) := by
  unfold p_DR_readMany
  refine par_bind (fr_T_place (eqo_rfl _ _)) fun q10 g_q10 => ?_
  have h_q10 := eqo_tr subw_nil h_M g_q10
  refine par_bind (fr_T_nextIsDigit (eqo_rfl _ _)) fun q11 g_q11 => ?_
  have h_q11 := eqo_tr subw_nil h_q10 g_q11
  refine par_ite ?_ ?_
  · exact fr_DR_readMany_B23 h_q11
  · exact fr_DR_readMany_B23 h_q11
theorem fr_T_nextOne {f : Nat} {M : oM} {B : oM} (h_M : eqo [] B M) : par (p_T_nextOne f M) (fun s => eqo [] B s.2) := by
  unfold p_T_nextOne
  refine par_ltI fun x1 => ?_
  refine par_bind (fr_O_isOne (eqo_rfl _ _)) fun q2 g_q2 => ?_
  have h_q2 := eqo_tr subw_nil h_M g_q2
  refine par_ite ?_ ?_
  · exact par_some h_q2
  · exact par_some h_q2
theorem fr_DR_readLine {f : Nat} {l1 : Int} {M : oM} {B : oM} (h_M : eqo [(1, 3), (1, 4), (38, (-1))] B M) : par (p_DR_readLine f l1 M) (fun s => eqo [(1, 3), (1, 4), (38, (-1))] B s.2) := by
  unfold p_DR_readLine
  refine par_bind (fr_T_nextOne (eqo_rfl _ _)) fun q1 g_q1 => ?_
  have h_q1 := eqo_tr subw_nil h_M g_q1
  refine par_ite ?_ ?_
  · refine par_bind (fr_T_fault (eqo_rfl _ _)) fun q16 g_q16 => ?_
    have h_q16 := eqo_tr subw_nil h_q1 g_q16
    exact par_some h_q16
  · refine par_ite ?_ ?_
    · refine par_bind (fr_P_has (eqo_rfl _ _)) fun q2 g_q2 => ?_
      have h_q2 := eqo_tr subw_nil h_q1 g_q2
      refine par_ite ?_ ?_
      · refine par_bind (fr_T_fault (eqo_rfl _ _)) fun q14 g_q14 => ?_
        have h_q14 := eqo_tr subw_nil h_q2 g_q14
        exact par_some h_q14
      · refine par_bind (fr_T_step (eqo_rfl _ _)) fun q3 g_q3 => ?_
        have h_q3 := eqo_tr (subw_cons (.head _) (subw_cons (.tail _ (.head _)) subw_nil)) h_q2 g_q3
        refine par_bind (fr_T_next (eqo_rfl _ _)) fun q4 g_q4 => ?_
        have h_q4 := eqo_tr subw_nil h_q3 g_q4
        refine par_ite ?_ ?_
        · refine par_bind (fr_T_step (eqo_rfl _ _)) fun q5 g_q5 => ?_
          have h_q5 := eqo_tr (subw_cons (.head _) (subw_cons (.tail _ (.head _)) subw_nil)) h_q4 g_q5
          refine par_bind (fr_T_nextOne (eqo_rfl _ _)) fun q6 g_q6 => ?_
          have h_q6 := eqo_tr subw_nil h_q5 g_q6
          refine par_ite ?_ ?_
          · refine par_bind (fr_T_fault (eqo_rfl _ _)) fun q12 g_q12 => ?_
            have h_q12 := eqo_tr subw_nil h_q6 g_q12
            exact par_some h_q12
          · refine par_bind (fr_P_has (eqo_rfl _ _)) fun q7 g_q7 => ?_
            have h_q7 := eqo_tr subw_nil h_q6 g_q7
            refine par_ite ?_ ?_
            · refine par_bind (fr_T_fault (eqo_rfl _ _)) fun q11 g_q11 => ?_
              have h_q11 := eqo_tr subw_nil h_q7 g_q11
              exact par_some h_q11
            · refine par_ite ?_ ?_
              · refine par_bind (fr_T_fault (eqo_rfl _ _)) fun q10 g_q10 => ?_
                have h_q10 := eqo_tr subw_nil h_q7 g_q10
                exact par_some h_q10
              · refine par_bind (fr_T_step (eqo_rfl _ _)) fun q8 g_q8 => ?_
                have h_q8 := eqo_tr (subw_cons (.head _) (subw_cons (.tail _ (.head _)) subw_nil)) h_q7 g_q8
                refine par_bind (fr_DR_readMany (eqo_rfl _ _)) fun q9 g_q9 => ?_
                have h_q9 := eqo_tr (subw_cons (.head _) (subw_cons (.tail _ (.head _)) (subw_cons (.tail _ (.tail _ (.head _))) subw_nil))) h_q8 g_q9
                exact par_some h_q9
        · refine par_bind (fr_T_fault (eqo_rfl _ _)) fun q13 g_q13 => ?_
          have h_q13 := eqo_tr subw_nil h_q4 g_q13
          exact par_some h_q13
    · refine par_bind (fr_T_fault (eqo_rfl _ _)) fun q15 g_q15 => ?_
      have h_q15 := eqo_tr subw_nil h_q1 g_q15
      exact par_some h_q15
theorem fr_JA_fill_L5 {f : Nat} {o0 : Nat} {n0 : Int} {l1 : Int} {l3 : Int} {B : oM} : ∀ (s : Int × oM), (fun s => eqo [(o0, (-1))] B s.2) s → par (p_JA_fill_L5 f o0 n0 l1 l3 s) (psum (fun s => eqo [(o0, (-1))] B s.2) (fun s => eqo [(o0, (-1))] B s.2)) := by
  intro s hs
  obtain ⟨l2, M⟩ := s
  have h_M : eqo [(o0, (-1))] B M := hs
  unfold p_JA_fill_L5
  refine par_ite ?_ ?_
  · refine par_bnd fun i1 => ?_
    refine par_lt (eqo_oUa (.head _) h_M) fun M2 h_M2 => ?_
    refine par_ltI fun x3 => ?_
    exact par_some h_M2
  · exact par_some h_M
theorem fr_JA_fill {f : Nat} {o0 : Nat} {n0 : Int} {l1 : Int} {M : oM} {B : oM} (h_M : eqo [(o0, (-1))] B M) : par (p_JA_fill f o0 n0 l1 M) (fun s => eqo [(o0, (-1))] B s.2) := by
  unfold p_JA_fill
  exact par_iter (fun s hs => fr_JA_fill_L5 s hs) _ h_M
theorem fr_DR_read_L10 {f : Nat} {B : oM} : ∀ (s : Int × oM), (fun s => eqo [(1, 3), (1, 4), (38, (-1))] B s.2) s → par (p_DR_read_L10 f s) (psum (fun s => eqo [(1, 3), (1, 4), (38, (-1))] B s.2) (fun s => eqo [(1, 3), (1, 4), (38, (-1))] B s.2)) := by
  intro s hs
  obtain ⟨l1, M⟩ := s
  have h_M : eqo [(1, 3), (1, 4), (38, (-1))] B M := hs
  unfold p_DR_read_L10
  refine par_ite ?_ ?_
  · refine par_bind (fr_T_fault (eqo_rfl _ _)) fun q1 g_q1 => ?_
    have h_q1 := eqo_tr subw_nil h_M g_q1
    exact par_some h_q1
  · refine par_bind (fr_DR_readLine (eqo_rfl _ _)) fun q2 g_q2 => ?_
    have h_q2 := eqo_tr (subw_cons (.head _) (subw_cons (.tail _ (.head _)) (subw_cons (.tail _ (.tail _ (.head _))) subw_nil))) h_M g_q2
    refine par_ite ?_ ?_
    · refine par_bind (fr_T_ended (eqo_rfl _ _)) fun q3 g_q3 => ?_
      have h_q3 := eqo_tr subw_nil h_q2 g_q3
      refine par_ite ?_ ?_
      · refine par_bind (fr_T_next (eqo_rfl _ _)) fun q4 g_q4 => ?_
        have h_q4 := eqo_tr subw_nil h_q3 g_q4
        refine par_ite ?_ ?_
        · refine par_bind (fr_T_step (eqo_rfl _ _)) fun q5 g_q5 => ?_
          have h_q5 := eqo_tr (subw_cons (.head _) (subw_cons (.tail _ (.head _)) subw_nil)) h_q4 g_q5
          refine par_ltI fun x6 => ?_
          exact par_some h_q5
        · refine par_bind (fr_T_fault (eqo_rfl _ _)) fun q7 g_q7 => ?_
          have h_q7 := eqo_tr subw_nil h_q4 g_q7
          exact par_some h_q7
      · exact par_some h_q3
    · exact par_some h_q2
theorem fr_DR_read {f : Nat} {M : oM} {B : oM} (h_M : eqo [(1, 3), (1, 4), (38, (-1))] B M) : par (p_DR_read f M) (fun s => eqo [(1, 3), (1, 4), (38, (-1))] B s.2) := by
  unfold p_DR_read
  refine par_bind (fr_JA_fill (eqo_rfl _ _)) fun q8 g_q8 => ?_
  have h_q8 := eqo_tr (subw_cons (.tail _ (.tail _ (.head _))) subw_nil) h_M g_q8
  exact par_iter (fun s hs => fr_DR_read_L10 s hs) _ h_q8
theorem fr_D_owedInAll_L4 {f : Nat} {o0 : Nat} {B : oM} : ∀ (s : Int × Int × oM), (fun s => eqo [] B s.2.2) s → par (p_D_owedInAll_L4 f o0 s) (psum (fun s => eqo [] B s.2.2) (fun s => eqo [] B s.2)) := by
  intro s hs
  obtain ⟨l1, l2, M⟩ := s
  have h_M : eqo [] B M := hs
  unfold p_D_owedInAll_L4
  refine par_ite ?_ ?_
  · refine par_bnd fun i1 => ?_
    refine par_ltI fun x2 => ?_
    refine par_ltI fun x3 => ?_
    exact par_some h_M
  · exact par_some h_M
theorem fr_D_owedInAll {f : Nat} {o0 : Nat} {M : oM} {B : oM} (h_M : eqo [] B M) : par (p_D_owedInAll f o0 M) (fun s => eqo [] B s.2) := by
  unfold p_D_owedInAll
  exact par_iter (fun s hs => fr_D_owedInAll_L4 s hs) _ h_M
theorem fr_O_debts {f : Nat} {l1 : Int} {M : oM} {B : oM} (h_M : eqo [(1, 1), (1, 2), (1, 3), (1, 4), (7, (-1)), (38, (-1))] B M) : par (p_O_debts f l1 M) (fun s => eqo [(1, 1), (1, 2), (1, 3), (1, 4), (7, (-1)), (38, (-1))] B s.2) := by
  unfold p_O_debts
  refine par_bind (fr_T_opens (eqo_rfl _ _)) fun q1 g_q1 => ?_
  have h_q1 := eqo_tr (subw_cons (.tail _ (.head _)) (subw_cons (.tail _ (.tail _ (.head _))) (subw_cons (.tail _ (.tail _ (.tail _ (.head _)))) subw_nil))) h_M g_q1
  refine par_ite ?_ ?_
  · exact par_some h_q1
  · refine par_bind (fr_DR_read (eqo_rfl _ _)) fun q2 g_q2 => ?_
    have h_q2 := eqo_tr (subw_cons (.tail _ (.tail _ (.head _))) (subw_cons (.tail _ (.tail _ (.tail _ (.head _)))) (subw_cons (.tail _ (.tail _ (.tail _ (.tail _ (.tail _ (.head _)))))) subw_nil))) h_q1 g_q2
    refine par_bind (fr_T_clear (eqo_rfl _ _)) fun q3 g_q3 => ?_
    have h_q3 := eqo_tr (subw_cons (.head _) subw_nil) h_q2 g_q3
    refine par_ite ?_ ?_
    · refine par_cpg ?_
      refine par_lt (eqo_ac (.tail _ (.tail _ (.tail _ (.tail _ (.head _))))) h_q3) fun M4 h_M4 => ?_
      refine par_bind (fr_D_owedInAll (eqo_rfl _ _)) fun q5 g_q5 => ?_
      have h_q5 := eqo_tr subw_nil h_M4 g_q5
      exact par_some h_q5
    · exact par_some h_q3
theorem fr_O_areHours {f : Nat} {l0 : Int} {M : oM} {B : oM} (h_M : eqo [] B M) : par (p_O_areHours f l0 M) (fun s => eqo [] B s.2) := by
  unfold p_O_areHours
  refine par_ite ?_ ?_
  · exact par_some h_M
  · refine par_ite ?_ ?_
    · exact par_some h_M
    · exact par_some h_M
theorem fr_D_draw {f : Nat} {o0 : Nat} {M : oM} {B : oM} (h_M : eqo [(o0, 11)] B M) : par (p_D_draw f o0 M) (fun s => eqo [(o0, 11)] B s.2) := by
  unfold p_D_draw
  refine par_lt (eqo_oU (.head _) h_M) fun M1 h_M1 => ?_
  refine par_nz fun z2 => ?_
  exact par_some h_M1
theorem fr_L_joined {f : Nat} {l0 : Int} {l1 : Int} {l2 : Int} {M : oM} {B : oM} (h_M : eqo [] B M) : par (p_L_joined f l0 l1 l2 M) (fun s => eqo [] B s.2) := by
  unfold p_L_joined
  refine par_ite ?_ ?_
  · refine par_ite ?_ ?_
    · exact par_some h_M
    · refine par_nz fun z1 => ?_
      exact par_some h_M
  · refine par_ite ?_ ?_
    · exact par_some h_M
    · refine par_ite ?_ ?_
      · exact par_some h_M
      · refine par_ite ?_ ?_
        · exact par_some h_M
        · refine par_ite ?_ ?_
          · refine par_ite ?_ ?_
            · exact par_some h_M
            · refine par_nz fun z2 => ?_
              exact par_some h_M
          · refine par_ite ?_ ?_
            · refine par_ite ?_ ?_
              · exact par_some h_M
              · exact par_some h_M
            · refine par_ite ?_ ?_
              · refine par_ite ?_ ?_
                · exact par_some h_M
                · exact par_some h_M
              · refine par_ite ?_ ?_
                · exact par_some h_M
                · exact par_some h_M
theorem fr_L_reckoned_B292_8 {f : Nat} {l3 : Int} {M : oM} {B : oM} (h_M : eqo [(26, (-1))] B M) : par (p_L_reckoned_B292_8 f l3 M) (psum (fun s => eqo [(26, (-1))] B s.2.2.2) (fun s => eqo [(26, (-1))] B s.2)) := by
  unfold p_L_reckoned_B292_8
  refine par_ite ?_ ?_
  · refine par_bnd fun i1 => ?_
    exact par_some h_M
  · exact par_some h_M
theorem fr_L_reckoned_B286_8 {f : Nat} {l2 : Int} {l3 : Int} {l4 : Int} {l5 : Int} {M : oM} {B : oM} (h_M : eqo [(26, (-1))] B M) : par (p_L_reckoned_B286_8 f l2 l3 l4 l5 M) (psum (fun s => eqo [(26, (-1))] B s.2.2.2) (fun s => eqo [(26, (-1))] B s.2)) := by
  unfold p_L_reckoned_B286_8
  refine par_ltI fun x2 => ?_
  exact par_some h_M
theorem fr_L_reckoned_B105_8 {f : Nat} {l2 : Int} {l3 : Int} {l4 : Int} {l5 : Int} {s1 : Int} {s2 : Int} {M : oM} {B : oM} (h_M : eqo [(26, (-1))] B M) : par (p_L_reckoned_B105_8 f l2 l3 l4 l5 s1 s2 M) (psum (fun s => eqo [(26, (-1))] B s.2.2.2) (fun s => eqo [(26, (-1))] B s.2)) := by
  unfold p_L_reckoned_B105_8
  refine par_bnd fun i3 => ?_
  refine par_lt (eqo_oUa (.head _) h_M) fun M4 h_M4 => ?_
  refine par_ltI fun x5 => ?_
  exact fr_L_reckoned_B286_8 h_M4
theorem fr_L_reckoned_B70_8 {f : Nat} {l2 : Int} {l3 : Int} {l4 : Int} {l5 : Int} {l6 : Int} {l7 : Int} {M : oM} {B : oM} (h_M : eqo [(26, (-1))] B M) : par (p_L_reckoned_B70_8 f l2 l3 l4 l5 l6 l7 M) (psum (fun s => eqo [(26, (-1))] B s.2.2.2) (fun s => eqo [(26, (-1))] B s.2)) := by
  unfold p_L_reckoned_B70_8
  refine par_ite ?_ ?_
  · refine par_ite ?_ ?_
    · exact fr_L_reckoned_B105_8 h_M
    · refine par_bnd fun i6 => ?_
      exact fr_L_reckoned_B105_8 h_M
  · exact par_some h_M
theorem fr_L_reckoned_B196_8 {f : Nat} {l2 : Int} {l3 : Int} {l4 : Int} {l5 : Int} {l7 : Int} {s0 : Int} {s1 : Int} {M : oM} {B : oM} (h_M : eqo [(26, (-1))] B M) : par (p_L_reckoned_B196_8 f l2 l3 l4 l5 l7 s0 s1 M) (psum (fun s => eqo [(26, (-1))] B s.2.2.2) (fun s => eqo [(26, (-1))] B s.2)) := by
  unfold p_L_reckoned_B196_8
  refine par_ite ?_ ?_
  · exact fr_L_reckoned_B286_8 h_M
  · refine par_ltI fun x7 => ?_
    exact fr_L_reckoned_B286_8 h_M
theorem fr_L_reckoned_B184_8 {f : Nat} {l2 : Int} {l3 : Int} {l4 : Int} {l5 : Int} {l6 : Int} {l7 : Int} {s0 : Int} {M : oM} {B : oM} (h_M : eqo [(26, (-1))] B M) : par (p_L_reckoned_B184_8 f l2 l3 l4 l5 l6 l7 s0 M) (psum (fun s => eqo [(26, (-1))] B s.2.2.2) (fun s => eqo [(26, (-1))] B s.2)) := by
  unfold p_L_reckoned_B184_8
  refine par_ite ?_ ?_
  · exact fr_L_reckoned_B196_8 h_M
  · exact fr_L_reckoned_B196_8 h_M
theorem fr_L_reckoned_B133_8 {f : Nat} {l2 : Int} {l3 : Int} {l4 : Int} {l5 : Int} {l6 : Int} {l7 : Int} {M : oM} {B : oM} (h_M : eqo [(26, (-1))] B M) : par (p_L_reckoned_B133_8 f l2 l3 l4 l5 l6 l7 M) (psum (fun s => eqo [(26, (-1))] B s.2.2.2) (fun s => eqo [(26, (-1))] B s.2)) := by
  unfold p_L_reckoned_B133_8
  refine par_ite ?_ ?_
  · exact par_some h_M
  · refine par_ite ?_ ?_
    · refine par_bnd fun i9 => ?_
      refine par_bnd fun i10 => ?_
      refine par_lt (eqo_oUa (.head _) h_M) fun M11 h_M11 => ?_
      exact fr_L_reckoned_B286_8 h_M11
    · refine par_bnd fun i8 => ?_
      refine par_ite ?_ ?_
      · exact fr_L_reckoned_B184_8 h_M
      · exact fr_L_reckoned_B184_8 h_M
theorem fr_L_reckoned_B256_8 {f : Nat} {l2 : Int} {l3 : Int} {l4 : Int} {l5 : Int} {l6 : Int} {M : oM} {B : oM} (h_M : eqo [(26, (-1))] B M) : par (p_L_reckoned_B256_8 f l2 l3 l4 l5 l6 M) (psum (fun s => eqo [(26, (-1))] B s.2.2.2) (fun s => eqo [(26, (-1))] B s.2)) := by
  unfold p_L_reckoned_B256_8
  refine par_ltI fun x12 => ?_
  refine par_bnd fun i13 => ?_
  refine par_bnd fun i14 => ?_
  refine par_bind (fr_L_joined (eqo_rfl _ _)) fun q15 g_q15 => ?_
  have h_q15 := eqo_tr subw_nil h_M g_q15
  refine par_bnd fun i16 => ?_
  refine par_lt (eqo_oUa (.head _) h_q15) fun M17 h_M17 => ?_
  exact fr_L_reckoned_B286_8 h_M17
theorem fr_L_reckoned_B231_8 {f : Nat} {l2 : Int} {l3 : Int} {l4 : Int} {l5 : Int} {l6 : Int} {s0 : Int} {M : oM} {B : oM} (h_M : eqo [(26, (-1))] B M) : par (p_L_reckoned_B231_8 f l2 l3 l4 l5 l6 s0 M) (psum (fun s => eqo [(26, (-1))] B s.2.2.2) (fun s => eqo [(26, (-1))] B s.2)) := by
  unfold p_L_reckoned_B231_8
  refine par_ite ?_ ?_
  · exact par_some h_M
  · refine par_ite ?_ ?_
    · exact fr_L_reckoned_B256_8 h_M
    · refine par_bnd fun i18 => ?_
      refine par_ite ?_ ?_
      · exact par_some h_M
      · exact fr_L_reckoned_B256_8 h_M
theorem fr_L_reckoned_B226_8 {f : Nat} {l2 : Int} {l3 : Int} {l4 : Int} {l5 : Int} {l6 : Int} {M : oM} {B : oM} (h_M : eqo [(26, (-1))] B M) : par (p_L_reckoned_B226_8 f l2 l3 l4 l5 l6 M) (psum (fun s => eqo [(26, (-1))] B s.2.2.2) (fun s => eqo [(26, (-1))] B s.2)) := by
  unfold p_L_reckoned_B226_8
  exact fr_L_reckoned_B231_8 h_M
theorem fr_L_reckoned_L8 {f : Nat} {l2 : Int} {B : oM} : ∀ (s : Int × Int × Int × oM), (fun s => eqo [(26, (-1))] B s.2.2.2) s → par (p_L_reckoned_L8 f l2 s) (psum (fun s => eqo [(26, (-1))] B s.2.2.2) (fun s => eqo [(26, (-1))] B s.2)) := by
  intro s hs
  obtain ⟨l3, l4, l5, M⟩ := s
  have h_M : eqo [(26, (-1))] B M := hs
  unfold p_L_reckoned_L8
  refine par_ite ?_ ?_
  · refine par_ite ?_ ?_
    · exact fr_L_reckoned_B292_8 h_M
    · refine par_ite ?_ ?_
      · refine par_ite ?_ ?_
        · refine par_bnd fun i19 => ?_
          refine par_ltI fun x20 => ?_
          refine par_bnd fun i21 => ?_
          refine par_ltI fun x22 => ?_
          refine par_ltI fun x23 => ?_
          refine par_ite ?_ ?_
          · exact fr_L_reckoned_B70_8 h_M
          · refine par_ite ?_ ?_
            · exact fr_L_reckoned_B70_8 h_M
            · refine par_ite ?_ ?_
              · exact fr_L_reckoned_B133_8 h_M
              · refine par_ite ?_ ?_
                · exact fr_L_reckoned_B133_8 h_M
                · refine par_ite ?_ ?_
                  · exact fr_L_reckoned_B133_8 h_M
                  · refine par_ite ?_ ?_
                    · exact fr_L_reckoned_B226_8 h_M
                    · refine par_ite ?_ ?_
                      · exact fr_L_reckoned_B226_8 h_M
                      · exact fr_L_reckoned_B231_8 h_M
        · exact fr_L_reckoned_B292_8 h_M
      · exact fr_L_reckoned_B292_8 h_M
  · exact fr_L_reckoned_B292_8 h_M
theorem fr_L_reckoned {f : Nat} {l1 : Int} {l2 : Int} {M : oM} {B : oM} (h_M : eqo [(26, (-1))] B M) : par (p_L_reckoned f l1 l2 M) (fun s => eqo [(26, (-1))] B s.2) := by
  unfold p_L_reckoned
  exact par_iter (fun s hs => fr_L_reckoned_L8 s hs) _ h_M
theorem fr_L_firstOf_B74_2 {f : Nat} {l1 : Int} {l2 : Int} {l3 : Int} {M : oM} {B : oM} (h_M : eqo [(26, (-1))] B M) : par (p_L_firstOf_B74_2 f l1 l2 l3 M) (psum (fun s => eqo [(26, (-1))] B s.2) (fun s => eqo [(26, (-1))] B s.2)) := by
  unfold p_L_firstOf_B74_2
  refine par_ltI fun x1 => ?_
  exact par_some h_M
theorem fr_L_firstOf_L2 {f : Nat} {l1 : Int} {l2 : Int} {B : oM} : ∀ (s : Int × oM), (fun s => eqo [(26, (-1))] B s.2) s → par (p_L_firstOf_L2 f l1 l2 s) (psum (fun s => eqo [(26, (-1))] B s.2) (fun s => eqo [(26, (-1))] B s.2)) := by
  intro s hs
  obtain ⟨l3, M⟩ := s
  have h_M : eqo [(26, (-1))] B M := hs
  unfold p_L_firstOf_L2
  refine par_ite ?_ ?_
  · refine par_ite ?_ ?_
    · refine par_bnd fun i2 => ?_
      refine par_ite ?_ ?_
      · refine par_bnd fun i3 => ?_
        refine par_bnd fun i4 => ?_
        refine par_bind (fr_L_reckoned (eqo_rfl _ _)) fun q5 g_q5 => ?_
        have h_q5 := eqo_tr (subw_cons (.head _) subw_nil) h_M g_q5
        refine par_ite ?_ ?_
        · exact fr_L_firstOf_B74_2 h_q5
        · refine par_bnd fun i6 => ?_
          refine par_bnd fun i7 => ?_
          refine par_bind (fr_L_reckoned (eqo_rfl _ _)) fun q8 g_q8 => ?_
          have h_q8 := eqo_tr (subw_cons (.head _) subw_nil) h_q5 g_q8
          exact par_some h_q8
      · exact fr_L_firstOf_B74_2 h_M
    · exact par_some h_M
  · exact par_some h_M
theorem fr_L_firstOf {f : Nat} {l1 : Int} {l2 : Int} {M : oM} {B : oM} (h_M : eqo [(26, (-1))] B M) : par (p_L_firstOf f l1 l2 M) (fun s => eqo [(26, (-1))] B s.2) := by
  unfold p_L_firstOf
  exact par_iter (fun s hs => fr_L_firstOf_L2 s hs) _ h_M
theorem fr_D_debtOf {f : Nat} {o0 : Nat} {l1 : Int} {l2 : Int} {M : oM} {B : oM} (h_M : eqo [] B M) : par (p_D_debtOf f o0 l1 l2 M) (fun s => eqo [] B s.2) := by
  unfold p_D_debtOf
  refine par_bind (fr_O_isOne (eqo_rfl _ _)) fun q1 g_q1 => ?_
  have h_q1 := eqo_tr subw_nil h_M g_q1
  refine par_ite ?_ ?_
  · exact par_some h_q1
  · refine par_bind (fr_O_isOne (eqo_rfl _ _)) fun q2 g_q2 => ?_
    have h_q2 := eqo_tr subw_nil h_q1 g_q2
    refine par_ite ?_ ?_
    · exact par_some h_q2
    · refine par_bnd fun i3 => ?_
      exact par_some h_q2
theorem fr_D_owedBy_L4 {f : Nat} {o0 : Nat} {l1 : Int} {B : oM} : ∀ (s : Int × Int × oM), (fun s => eqo [] B s.2.2) s → par (p_D_owedBy_L4 f o0 l1 s) (psum (fun s => eqo [] B s.2.2) (fun s => eqo [] B s.2)) := by
  intro s hs
  obtain ⟨l2, l3, M⟩ := s
  have h_M : eqo [] B M := hs
  unfold p_D_owedBy_L4
  refine par_ite ?_ ?_
  · refine par_bnd fun i1 => ?_
    refine par_ltI fun x2 => ?_
    refine par_ltI fun x3 => ?_
    exact par_some h_M
  · exact par_some h_M
theorem fr_D_owedBy {f : Nat} {o0 : Nat} {l1 : Int} {M : oM} {B : oM} (h_M : eqo [] B M) : par (p_D_owedBy f o0 l1 M) (fun s => eqo [] B s.2) := by
  unfold p_D_owedBy
  exact par_iter (fun s hs => fr_D_owedBy_L4 s hs) _ h_M
theorem fr_D_timesChalked_B31_4 {f : Nat} {o0 : Nat} {l1 : Int} {l2 : Int} {l3 : Int} {M : oM} {B : oM} (h_M : eqo [] B M) : par (p_D_timesChalked_B31_4 f o0 l1 l2 l3 M) (psum (fun s => eqo [] B s.2.2) (fun s => eqo [] B s.2)) := by
  unfold p_D_timesChalked_B31_4
  refine par_ltI fun x1 => ?_
  exact par_some h_M
theorem fr_D_timesChalked_L4 {f : Nat} {o0 : Nat} {l1 : Int} {B : oM} : ∀ (s : Int × Int × oM), (fun s => eqo [] B s.2.2) s → par (p_D_timesChalked_L4 f o0 l1 s) (psum (fun s => eqo [] B s.2.2) (fun s => eqo [] B s.2)) := by
  intro s hs
  obtain ⟨l2, l3, M⟩ := s
  have h_M : eqo [] B M := hs
  unfold p_D_timesChalked_L4
  refine par_ite ?_ ?_
  · refine par_ite ?_ ?_
    · refine par_bnd fun i2 => ?_
      refine par_ite ?_ ?_
      · refine par_ltI fun x3 => ?_
        exact fr_D_timesChalked_B31_4 h_M
      · exact fr_D_timesChalked_B31_4 h_M
    · exact par_some h_M
  · exact par_some h_M
theorem fr_D_timesChalked {f : Nat} {o0 : Nat} {l1 : Int} {M : oM} {B : oM} (h_M : eqo [] B M) : par (p_D_timesChalked f o0 l1 M) (fun s => eqo [] B s.2) := by
  unfold p_D_timesChalked
  exact par_iter (fun s hs => fr_D_timesChalked_L4 s hs) _ h_M
theorem fr_P_way {f : Nat} {l1 : Int} {l2 : Int} {M : oM} {B : oM} (h_M : eqo [] B M) : par (p_P_way f l1 l2 M) (fun s => eqo [] B s.2) := by
  unfold p_P_way
  refine par_bind (fr_O_isOne (eqo_rfl _ _)) fun q1 g_q1 => ?_
  have h_q1 := eqo_tr subw_nil h_M g_q1
  refine par_ite ?_ ?_
  · exact par_some h_q1
  · refine par_bind (fr_O_isOne (eqo_rfl _ _)) fun q2 g_q2 => ?_
    have h_q2 := eqo_tr subw_nil h_q1 g_q2
    refine par_ite ?_ ?_
    · exact par_some h_q2
    · refine par_bnd fun i3 => ?_
      refine par_bnd fun i4 => ?_
      refine par_bnd fun i5 => ?_
      refine par_bnd fun i6 => ?_
      exact par_some h_q2
theorem fr_L_look {f : Nat} {o1 : Nat} {l2 : Int} {l3 : Int} {M : oM} {B : oM} (h_M : eqo [(25, (-1))] B M) : par (p_L_look f o1 l2 l3 M) (fun s => eqo [(25, (-1))] B s.2) := by
  unfold p_L_look
  refine par_bnd fun i1 => ?_
  refine par_lt (eqo_oUa (.head _) h_M) fun M2 h_M2 => ?_
  refine par_bnd fun i3 => ?_
  refine par_lt (eqo_oUa (.head _) h_M2) fun M4 h_M4 => ?_
  refine par_bind (fr_D_debtOf (eqo_rfl _ _)) fun q5 g_q5 => ?_
  have h_q5 := eqo_tr subw_nil h_M4 g_q5
  refine par_bnd fun i6 => ?_
  refine par_lt (eqo_oUa (.head _) h_q5) fun M7 h_M7 => ?_
  refine par_bind (fr_D_owedBy (eqo_rfl _ _)) fun q8 g_q8 => ?_
  have h_q8 := eqo_tr subw_nil h_M7 g_q8
  refine par_bnd fun i9 => ?_
  refine par_lt (eqo_oUa (.head _) h_q8) fun M10 h_M10 => ?_
  refine par_bind (fr_P_way (eqo_rfl _ _)) fun q11 g_q11 => ?_
  have h_q11 := eqo_tr subw_nil h_M10 g_q11
  refine par_bnd fun i12 => ?_
  refine par_lt (eqo_oUa (.head _) h_q11) fun M13 h_M13 => ?_
  refine par_bind (fr_D_timesChalked (eqo_rfl _ _)) fun q14 g_q14 => ?_
  have h_q14 := eqo_tr subw_nil h_M13 g_q14
  refine par_bnd fun i15 => ?_
  refine par_lt (eqo_oUa (.head _) h_q14) fun M16 h_M16 => ?_
  refine par_bnd fun i17 => ?_
  refine par_lt (eqo_oUa (.head _) h_M16) fun M18 h_M18 => ?_
  refine par_bnd fun i19 => ?_
  refine par_lt (eqo_oUa (.head _) h_M18) fun M20 h_M20 => ?_
  exact par_some h_M20
theorem fr_L_growth {f : Nat} {o1 : Nat} {l2 : Int} {l3 : Int} {M : oM} {B : oM} (h_M : eqo [(25, (-1)), (26, (-1))] B M) : par (p_L_growth f o1 l2 l3 M) (fun s => eqo [(25, (-1)), (26, (-1))] B s.2) := by
  unfold p_L_growth
  refine par_bind (fr_L_look (eqo_rfl _ _)) fun q1 g_q1 => ?_
  have h_q1 := eqo_tr (subw_cons (.head _) subw_nil) h_M g_q1
  refine par_bind (fr_L_firstOf (eqo_rfl _ _)) fun q2 g_q2 => ?_
  have h_q2 := eqo_tr (subw_cons (.tail _ (.head _)) subw_nil) h_q1 g_q2
  exact par_some h_q2
theorem fr_L_rain {f : Nat} {l1 : Int} {M : oM} {B : oM} (h_M : eqo [(25, (-1)), (26, (-1))] B M) : par (p_L_rain f l1 M) (fun s => eqo [(25, (-1)), (26, (-1))] B s.2) := by
  unfold p_L_rain
  refine par_bind (fr_JA_fill (eqo_rfl _ _)) fun q1 g_q1 => ?_
  have h_q1 := eqo_tr (subw_cons (.head _) subw_nil) h_M g_q1
  refine par_bnd fun i2 => ?_
  refine par_lt (eqo_oUa (.head _) h_q1) fun M3 h_M3 => ?_
  refine par_bind (fr_L_firstOf (eqo_rfl _ _)) fun q4 g_q4 => ?_
  have h_q4 := eqo_tr (subw_cons (.tail _ (.head _)) subw_nil) h_M3 g_q4
  exact par_some h_q4
theorem fr_C_beginDay_B113_46 {f : Nat} {o1 : Nat} {l2 : Int} {M : oM} {B : oM} (h_M : eqo [(25, (-1)), (26, (-1)), (41, 3), (41, 4), (o1, 10), (o1, 11), (o1 + 1, (-1))] B M) : par (p_C_beginDay_B113_46 f o1 l2 M) (psum (fun s => eqo [(25, (-1)), (26, (-1)), (41, 3), (41, 4), (o1, 10), (o1, 11), (o1 + 1, (-1))] B s.2) (fun s => eqo [(25, (-1)), (26, (-1)), (41, 3), (41, 4), (o1, 10), (o1, 11), (o1 + 1, (-1))] B s.2)) := by
  unfold p_C_beginDay_B113_46
  refine par_ltI fun x1 => ?_
  exact par_some h_M
theorem fr_C_beginDay_L46 {f : Nat} {o1 : Nat} {B : oM} : ∀ (s : Int × oM), (fun s => eqo [(25, (-1)), (26, (-1)), (41, 3), (41, 4), (o1, 10), (o1, 11), (o1 + 1, (-1))] B s.2) s → par (p_C_beginDay_L46 f o1 s) (psum (fun s => eqo [(25, (-1)), (26, (-1)), (41, 3), (41, 4), (o1, 10), (o1, 11), (o1 + 1, (-1))] B s.2) (fun s => eqo [(25, (-1)), (26, (-1)), (41, 3), (41, 4), (o1, 10), (o1, 11), (o1 + 1, (-1))] B s.2)) := by
  intro s hs
  obtain ⟨l2, M⟩ := s
  have h_M : eqo [(25, (-1)), (26, (-1)), (41, 3), (41, 4), (o1, 10), (o1, 11), (o1 + 1, (-1))] B M := hs
  unfold p_C_beginDay_L46
  refine par_ite ?_ ?_
  · refine par_bnd fun i2 => ?_
    refine par_ltI fun x3 => ?_
    refine par_ite ?_ ?_
    · refine par_nz fun z4 => ?_
      refine par_nz fun z5 => ?_
      refine par_bind (fr_L_growth (eqo_rfl _ _)) fun q6 g_q6 => ?_
      have h_q6 := eqo_tr (subw_cons (.head _) (subw_cons (.tail _ (.head _)) subw_nil)) h_M g_q6
      refine par_ltI fun x7 => ?_
      refine par_bnd fun i8 => ?_
      refine par_lt (eqo_oUa (.tail _ (.tail _ (.tail _ (.tail _ (.tail _ (.tail _ (.head _))))))) h_q6) fun M9 h_M9 => ?_
      refine par_bnd fun i10 => ?_
      refine par_lt (eqo_oU (.tail _ (.tail _ (.tail _ (.head _)))) h_M9) fun M11 h_M11 => ?_
      exact fr_C_beginDay_B113_46 h_M11
    · exact fr_C_beginDay_B113_46 h_M
  · exact par_some h_M
theorem fr_C_beginDay_B44 {f : Nat} {o1 : Nat} {M : oM} {B : oM} (h_M : eqo [(25, (-1)), (26, (-1)), (41, 3), (41, 4), (o1, 10), (o1, 11), (o1 + 1, (-1))] B M) : par (p_C_beginDay_B44 f o1 M) (fun s => eqo [(25, (-1)), (26, (-1)), (41, 3), (41, 4), (o1, 10), (o1, 11), (o1 + 1, (-1))] B s.2) := by
  unfold p_C_beginDay_B44
  exact par_iter (fun s hs => fr_C_beginDay_L46 s hs) _ h_M
theorem fr_C_beginDay_B24 {f : Nat} {o1 : Nat} {s1 : Int} {M : oM} {B : oM} (h_M : eqo [(25, (-1)), (26, (-1)), (41, 3), (41, 4), (o1, 10), (o1, 11), (o1 + 1, (-1))] B M) : par (p_C_beginDay_B24 f o1 s1 M) (fun s => eqo [(25, (-1)), (26, (-1)), (41, 3), (41, 4), (o1, 10), (o1, 11), (o1 + 1, (-1))] B s.2) := by
  unfold p_C_beginDay_B24
  refine par_bnd fun b12 => ?_
  refine par_lt (eqo_oU (.tail _ (.tail _ (.tail _ (.tail _ (.head _))))) h_M) fun M13 h_M13 => ?_
  refine par_ite ?_ ?_
  · exact fr_C_beginDay_B44 h_M13
  · refine par_lt (eqo_oU (.tail _ (.tail _ (.head _))) h_M13) fun M14 h_M14 => ?_
    exact fr_C_beginDay_B44 h_M14
theorem fr_C_beginDay {f : Nat} {o1 : Nat} {M : oM} {B : oM} (h_M : eqo [(25, (-1)), (26, (-1)), (41, 3), (41, 4), (o1, 10), (o1, 11), (o1 + 1, (-1))] B M) : par (p_C_beginDay f o1 M) (fun s => eqo [(25, (-1)), (26, (-1)), (41, 3), (41, 4), (o1, 10), (o1, 11), (o1 + 1, (-1))] B s.2) := by
  unfold p_C_beginDay
  refine par_bind (fr_D_draw (eqo_rfl _ _)) fun q15 g_q15 => ?_
  have h_q15 := eqo_tr (subw_cons (.tail _ (.tail _ (.tail _ (.tail _ (.tail _ (.head _)))))) subw_nil) h_M g_q15
  refine par_bind (fr_L_rain (eqo_rfl _ _)) fun q16 g_q16 => ?_
  have h_q16 := eqo_tr (subw_cons (.head _) (subw_cons (.tail _ (.head _)) subw_nil)) h_q15 g_q16
  refine par_ite ?_ ?_
  · exact fr_C_beginDay_B24 h_q16
  · exact fr_C_beginDay_B24 h_q16
theorem fr_D_sendTo {f : Nat} {o0 : Nat} {l1 : Int} {l2 : Int} {M : oM} {B : oM} (h_M : eqo [(o0, 4), (o0, 5), (o0, 6), (o0, 7)] B M) : par (p_D_sendTo f o0 l1 l2 M) (fun s => eqo [(o0, 4), (o0, 5), (o0, 6), (o0, 7)] B s.2) := by
  unfold p_D_sendTo
  refine par_lt (eqo_oU (.tail _ (.head _)) h_M) fun M1 h_M1 => ?_
  refine par_lt (eqo_oU (.tail _ (.tail _ (.head _))) h_M1) fun M2 h_M2 => ?_
  refine par_lt (eqo_oU (.tail _ (.tail _ (.tail _ (.head _)))) h_M2) fun M3 h_M3 => ?_
  refine par_lt (eqo_oU (.head _) h_M3) fun M4 h_M4 => ?_
  exact par_some h_M4
theorem fr_L_liking_B67_10 {f : Nat} {o1 : Nat} {M : oM} {B : oM} (h_M : eqo [(25, (-1)), (26, (-1))] B M) : par (p_L_liking_B67_10 f o1 M) (psum (fun s => eqo [(25, (-1)), (26, (-1))] B s.2) (fun s => eqo [(25, (-1)), (26, (-1))] B s.2)) := by
  unfold p_L_liking_B67_10
  refine par_bind (fr_L_firstOf (eqo_rfl _ _)) fun q1 g_q1 => ?_
  have h_q1 := eqo_tr (subw_cons (.tail _ (.head _)) subw_nil) h_M g_q1
  exact par_some h_q1
theorem fr_L_liking_B61_10 {f : Nat} {o1 : Nat} {l4 : Int} {M : oM} {B : oM} (h_M : eqo [(25, (-1)), (26, (-1))] B M) : par (p_L_liking_B61_10 f o1 l4 M) (psum (fun s => eqo [(25, (-1)), (26, (-1))] B s.2) (fun s => eqo [(25, (-1)), (26, (-1))] B s.2)) := by
  unfold p_L_liking_B61_10
  refine par_ltI fun x2 => ?_
  exact par_some h_M
theorem fr_L_liking_L10 {f : Nat} {o1 : Nat} {B : oM} : ∀ (s : Int × oM), (fun s => eqo [(25, (-1)), (26, (-1))] B s.2) s → par (p_L_liking_L10 f o1 s) (psum (fun s => eqo [(25, (-1)), (26, (-1))] B s.2) (fun s => eqo [(25, (-1)), (26, (-1))] B s.2)) := by
  intro s hs
  obtain ⟨l4, M⟩ := s
  have h_M : eqo [(25, (-1)), (26, (-1))] B M := hs
  unfold p_L_liking_L10
  refine par_ite ?_ ?_
  · refine par_ite ?_ ?_
    · refine par_bnd fun i3 => ?_
      refine par_ite ?_ ?_
      · refine par_bnd fun i4 => ?_
        refine par_bnd fun i5 => ?_
        refine par_bind (fr_L_reckoned (eqo_rfl _ _)) fun q6 g_q6 => ?_
        have h_q6 := eqo_tr (subw_cons (.tail _ (.head _)) subw_nil) h_M g_q6
        refine par_ite ?_ ?_
        · exact fr_L_liking_B61_10 h_q6
        · exact par_some h_q6
      · exact fr_L_liking_B61_10 h_M
    · exact fr_L_liking_B67_10 h_M
  · exact fr_L_liking_B67_10 h_M
theorem fr_L_liking {f : Nat} {o1 : Nat} {l2 : Int} {l3 : Int} {M : oM} {B : oM} (h_M : eqo [(25, (-1)), (26, (-1))] B M) : par (p_L_liking f o1 l2 l3 M) (fun s => eqo [(25, (-1)), (26, (-1))] B s.2) := by
  unfold p_L_liking
  refine par_bind (fr_L_look (eqo_rfl _ _)) fun q7 g_q7 => ?_
  have h_q7 := eqo_tr (subw_cons (.head _) subw_nil) h_M g_q7
  exact par_iter (fun s hs => fr_L_liking_L10 s hs) _ h_q7
theorem fr_C_setOut_B87_39 {f : Nat} {o1 : Nat} {l2 : Int} {l3 : Int} {l4 : Int} {l5 : Int} {M : oM} {B : oM} (h_M : eqo [(25, (-1)), (26, (-1)), (o1, 4), (o1, 5), (o1, 6), (o1, 7)] B M) : par (p_C_setOut_B87_39 f o1 l2 l3 l4 l5 M) (psum (fun s => eqo [(25, (-1)), (26, (-1)), (o1, 4), (o1, 5), (o1, 6), (o1, 7)] B s.2.2.2) (fun s => eqo [(25, (-1)), (26, (-1)), (o1, 4), (o1, 5), (o1, 6), (o1, 7)] B s.2)) := by
  unfold p_C_setOut_B87_39
  refine par_ltI fun x1 => ?_
  exact par_some h_M
theorem fr_C_setOut_B71_39 {f : Nat} {o1 : Nat} {l2 : Int} {l3 : Int} {l4 : Int} {l5 : Int} {s0 : Int} {M : oM} {B : oM} (h_M : eqo [(25, (-1)), (26, (-1)), (o1, 4), (o1, 5), (o1, 6), (o1, 7)] B M) : par (p_C_setOut_B71_39 f o1 l2 l3 l4 l5 s0 M) (psum (fun s => eqo [(25, (-1)), (26, (-1)), (o1, 4), (o1, 5), (o1, 6), (o1, 7)] B s.2.2.2) (fun s => eqo [(25, (-1)), (26, (-1)), (o1, 4), (o1, 5), (o1, 6), (o1, 7)] B s.2)) := by
  unfold p_C_setOut_B71_39
  refine par_ite ?_ ?_
  · exact fr_C_setOut_B87_39 h_M
  · exact fr_C_setOut_B87_39 h_M
theorem fr_C_setOut_L39 {f : Nat} {o1 : Nat} {l2 : Int} {B : oM} : ∀ (s : Int × Int × Int × oM), (fun s => eqo [(25, (-1)), (26, (-1)), (o1, 4), (o1, 5), (o1, 6), (o1, 7)] B s.2.2.2) s → par (p_C_setOut_L39 f o1 l2 s) (psum (fun s => eqo [(25, (-1)), (26, (-1)), (o1, 4), (o1, 5), (o1, 6), (o1, 7)] B s.2.2.2) (fun s => eqo [(25, (-1)), (26, (-1)), (o1, 4), (o1, 5), (o1, 6), (o1, 7)] B s.2)) := by
  intro s hs
  obtain ⟨l3, l4, l5, M⟩ := s
  have h_M : eqo [(25, (-1)), (26, (-1)), (o1, 4), (o1, 5), (o1, 6), (o1, 7)] B M := hs
  unfold p_C_setOut_L39
  refine par_ite ?_ ?_
  · refine par_bind (fr_D_debtOf (eqo_rfl _ _)) fun q4 g_q4 => ?_
    have h_q4 := eqo_tr subw_nil h_M g_q4
    refine par_ite ?_ ?_
    · refine par_bind (fr_L_liking (eqo_rfl _ _)) fun q5 g_q5 => ?_
      have h_q5 := eqo_tr (subw_cons (.head _) (subw_cons (.tail _ (.head _)) subw_nil)) h_q4 g_q5
      exact fr_C_setOut_B71_39 h_q5
    · exact fr_C_setOut_B71_39 h_q4
  · refine par_ite ?_ ?_
    · exact par_some h_M
    · refine par_bind (fr_P_way (eqo_rfl _ _)) fun q2 g_q2 => ?_
      have h_q2 := eqo_tr subw_nil h_M g_q2
      refine par_bind (fr_D_sendTo (eqo_rfl _ _)) fun q3 g_q3 => ?_
      have h_q3 := eqo_tr (subw_cons (.tail _ (.tail _ (.head _))) (subw_cons (.tail _ (.tail _ (.tail _ (.head _)))) (subw_cons (.tail _ (.tail _ (.tail _ (.tail _ (.head _))))) (subw_cons (.tail _ (.tail _ (.tail _ (.tail _ (.tail _ (.head _)))))) subw_nil)))) h_q2 g_q3
      exact par_some h_q3
theorem fr_C_setOut {f : Nat} {o1 : Nat} {M : oM} {B : oM} (h_M : eqo [(25, (-1)), (26, (-1)), (o1, 4), (o1, 5), (o1, 6), (o1, 7)] B M) : par (p_C_setOut f o1 M) (fun s => eqo [(25, (-1)), (26, (-1)), (o1, 4), (o1, 5), (o1, 6), (o1, 7)] B s.2) := by
  unfold p_C_setOut
  refine par_ite ?_ ?_
  · refine par_ite ?_ ?_
    · exact par_some h_M
    · refine par_ite ?_ ?_
      · exact par_some h_M
      · refine par_ltI fun x6 => ?_
        exact par_iter (fun s hs => fr_C_setOut_L39 s hs) _ h_M
  · exact par_some h_M
theorem fr_D_write_B30 {f : Nat} {o0 : Nat} {l1 : Int} {M : oM} {B : oM} (h_M : eqo [(o0, 3), (o0 + 3, (-1))] B M) : par (p_D_write_B30 f o0 l1 M) (fun s => eqo [(o0, 3), (o0 + 3, (-1))] B s.2) := by
  unfold p_D_write_B30
  refine par_bnd fun i1 => ?_
  refine par_lt (eqo_oUa (.tail _ (.head _)) h_M) fun M2 h_M2 => ?_
  refine par_lt (eqo_oU (.head _) h_M2) fun M3 h_M3 => ?_
  exact par_some h_M3
theorem fr_D_write {f : Nat} {o0 : Nat} {l1 : Int} {M : oM} {B : oM} (h_M : eqo [(o0, 3), (o0 + 3, (-1))] B M) : par (p_D_write f o0 l1 M) (fun s => eqo [(o0, 3), (o0 + 3, (-1))] B s.2) := by
  unfold p_D_write
  refine par_ite ?_ ?_
  · exact fr_D_write_B30 h_M
  · refine par_cpg ?_
    refine par_lt (eqo_ac (.tail _ (.head _)) h_M) fun M4 h_M4 => ?_
    refine par_lt (eqo_oU (.head _) h_M4) fun M5 h_M5 => ?_
    exact fr_D_write_B30 h_M5
theorem fr_D_pay_B24 {f : Nat} {o0 : Nat} {l2 : Int} {M : oM} {B : oM} (h_M : eqo [(o0, 3), (o0, 4), (o0, 5), (o0, 6), (o0, 7), (o0 + 1, (-1)), (o0 + 3, (-1))] B M) : par (p_D_pay_B24 f o0 l2 M) (fun s => eqo [(o0, 3), (o0, 4), (o0, 5), (o0, 6), (o0, 7), (o0 + 1, (-1)), (o0 + 3, (-1))] B s.2) := by
  unfold p_D_pay_B24
  refine par_bind (fr_D_giveTo (eqo_rfl _ _)) fun q1 g_q1 => ?_
  have h_q1 := eqo_tr (subw_cons (.tail _ (.head _)) (subw_cons (.tail _ (.tail _ (.head _))) (subw_cons (.tail _ (.tail _ (.tail _ (.head _)))) (subw_cons (.tail _ (.tail _ (.tail _ (.tail _ (.head _))))) subw_nil)))) h_M g_q1
  refine par_bind (fr_D_write (eqo_rfl _ _)) fun q2 g_q2 => ?_
  have h_q2 := eqo_tr (subw_cons (.head _) (subw_cons (.tail _ (.tail _ (.tail _ (.tail _ (.tail _ (.tail _ (.head _))))))) subw_nil)) h_q1 g_q2
  exact par_some h_q2
theorem fr_D_pay {f : Nat} {o0 : Nat} {l1 : Int} {l2 : Int} {M : oM} {B : oM} (h_M : eqo [(o0, 3), (o0, 4), (o0, 5), (o0, 6), (o0, 7), (o0 + 1, (-1)), (o0 + 3, (-1))] B M) : par (p_D_pay f o0 l1 l2 M) (fun s => eqo [(o0, 3), (o0, 4), (o0, 5), (o0, 6), (o0, 7), (o0 + 1, (-1)), (o0 + 3, (-1))] B s.2) := by
  unfold p_D_pay
  refine par_bind (fr_D_debtOf (eqo_rfl _ _)) fun q3 g_q3 => ?_
  have h_q3 := eqo_tr subw_nil h_M g_q3
  refine par_ite ?_ ?_
  · refine par_bnd fun i4 => ?_
    refine par_bnd fun i5 => ?_
    refine par_lt (eqo_oUa (.tail _ (.tail _ (.tail _ (.tail _ (.tail _ (.head _)))))) h_q3) fun M6 h_M6 => ?_
    exact fr_D_pay_B24 h_M6
  · exact fr_D_pay_B24 h_q3
theorem fr_C_travel {f : Nat} {o1 : Nat} {M : oM} {B : oM} (h_M : eqo [(41, 2), (41, 5), (o1, 3), (o1, 4), (o1, 5), (o1, 6), (o1, 7), (o1 + 1, (-1)), (o1 + 3, (-1))] B M) : par (p_C_travel f o1 M) (fun s => eqo [(41, 2), (41, 5), (o1, 3), (o1, 4), (o1, 5), (o1, 6), (o1, 7), (o1 + 1, (-1)), (o1 + 3, (-1))] B s.2) := by
  unfold p_C_travel
  refine par_lt (eqo_oU (.tail _ (.tail _ (.tail _ (.tail _ (.tail _ (.tail _ (.head _))))))) h_M) fun M1 h_M1 => ?_
  refine par_ite ?_ ?_
  · refine par_lt (eqo_oU (.tail _ (.head _)) h_M1) fun M2 h_M2 => ?_
    refine par_bind (fr_D_pay (eqo_rfl _ _)) fun q3 g_q3 => ?_
    have h_q3 := eqo_tr (subw_cons (.tail _ (.tail _ (.head _))) (subw_cons (.tail _ (.tail _ (.tail _ (.head _)))) (subw_cons (.tail _ (.tail _ (.tail _ (.tail _ (.head _))))) (subw_cons (.tail _ (.tail _ (.tail _ (.tail _ (.tail _ (.head _)))))) (subw_cons (.tail _ (.tail _ (.tail _ (.tail _ (.tail _ (.tail _ (.head _))))))) (subw_cons (.tail _ (.tail _ (.tail _ (.tail _ (.tail _ (.tail _ (.tail _ (.head _)))))))) (subw_cons (.tail _ (.tail _ (.tail _ (.tail _ (.tail _ (.tail _ (.tail _ (.tail _ (.head _))))))))) subw_nil))))))) h_M2 g_q3
    refine par_lt (eqo_oU (.head _) h_q3) fun M4 h_M4 => ?_
    exact par_some h_M4
  · exact par_some h_M1
theorem fr_C_tick_B80 {f : Nat} {o1 : Nat} {M : oM} {B : oM} (h_M : eqo [(25, (-1)), (26, (-1)), (41, 2), (41, 3), (41, 4), (41, 5), (o1, 3), (o1, 4), (o1, 5), (o1, 6), (o1, 7), (o1, 8), (o1, 9), (o1, 10), (o1, 11), (o1 + 1, (-1)), (o1 + 2, (-1)), (o1 + 3, (-1))] B M) : par (p_C_tick_B80 f o1 M) (fun s => eqo [(25, (-1)), (26, (-1)), (41, 2), (41, 3), (41, 4), (41, 5), (o1, 3), (o1, 4), (o1, 5), (o1, 6), (o1, 7), (o1, 8), (o1, 9), (o1, 10), (o1, 11), (o1 + 1, (-1)), (o1 + 2, (-1)), (o1 + 3, (-1))] B s.2) := by
  unfold p_C_tick_B80
  refine par_lt (eqo_oU (.tail _ (.tail _ (.tail _ (.tail _ (.tail _ (.tail _ (.tail _ (.tail _ (.tail _ (.tail _ (.tail _ (.head _)))))))))))) h_M) fun M1 h_M1 => ?_
  refine par_ite ?_ ?_
  · refine par_lt (eqo_oU (.tail _ (.tail _ (.tail _ (.tail _ (.tail _ (.tail _ (.tail _ (.tail _ (.tail _ (.tail _ (.tail _ (.head _)))))))))))) h_M1) fun M2 h_M2 => ?_
    refine par_lt (eqo_oU (.tail _ (.tail _ (.tail _ (.tail _ (.tail _ (.tail _ (.tail _ (.tail _ (.tail _ (.tail _ (.tail _ (.tail _ (.head _))))))))))))) h_M2) fun M3 h_M3 => ?_
    exact par_some h_M3
  · exact par_some h_M1
theorem fr_C_tick_B37 {f : Nat} {o1 : Nat} {M : oM} {B : oM} (h_M : eqo [(25, (-1)), (26, (-1)), (41, 2), (41, 3), (41, 4), (41, 5), (o1, 3), (o1, 4), (o1, 5), (o1, 6), (o1, 7), (o1, 8), (o1, 9), (o1, 10), (o1, 11), (o1 + 1, (-1)), (o1 + 2, (-1)), (o1 + 3, (-1))] B M) : par (p_C_tick_B37 f o1 M) (fun s => eqo [(25, (-1)), (26, (-1)), (41, 2), (41, 3), (41, 4), (41, 5), (o1, 3), (o1, 4), (o1, 5), (o1, 6), (o1, 7), (o1, 8), (o1, 9), (o1, 10), (o1, 11), (o1 + 1, (-1)), (o1 + 2, (-1)), (o1 + 3, (-1))] B s.2) := by
  unfold p_C_tick_B37
  refine par_ite ?_ ?_
  · refine par_bind (fr_C_travel (eqo_rfl _ _)) fun q9 g_q9 => ?_
    have h_q9 := eqo_tr (subw_cons (.tail _ (.tail _ (.head _))) (subw_cons (.tail _ (.tail _ (.tail _ (.tail _ (.tail _ (.head _)))))) (subw_cons (.tail _ (.tail _ (.tail _ (.tail _ (.tail _ (.tail _ (.head _))))))) (subw_cons (.tail _ (.tail _ (.tail _ (.tail _ (.tail _ (.tail _ (.tail _ (.head _)))))))) (subw_cons (.tail _ (.tail _ (.tail _ (.tail _ (.tail _ (.tail _ (.tail _ (.tail _ (.head _))))))))) (subw_cons (.tail _ (.tail _ (.tail _ (.tail _ (.tail _ (.tail _ (.tail _ (.tail _ (.tail _ (.head _)))))))))) (subw_cons (.tail _ (.tail _ (.tail _ (.tail _ (.tail _ (.tail _ (.tail _ (.tail _ (.tail _ (.tail _ (.head _))))))))))) (subw_cons (.tail _ (.tail _ (.tail _ (.tail _ (.tail _ (.tail _ (.tail _ (.tail _ (.tail _ (.tail _ (.tail _ (.tail _ (.tail _ (.tail _ (.tail _ (.head _)))))))))))))))) (subw_cons (.tail _ (.tail _ (.tail _ (.tail _ (.tail _ (.tail _ (.tail _ (.tail _ (.tail _ (.tail _ (.tail _ (.tail _ (.tail _ (.tail _ (.tail _ (.tail _ (.tail _ (.head _)))))))))))))))))) subw_nil))))))))) h_M g_q9
    exact fr_C_tick_B80 h_q9
  · refine par_bind (fr_O_isOne (eqo_rfl _ _)) fun q4 g_q4 => ?_
    have h_q4 := eqo_tr subw_nil h_M g_q4
    refine par_ite ?_ ?_
    · exact fr_C_tick_B80 h_q4
    · refine par_bnd fun i5 => ?_
      refine par_bnd fun i6 => ?_
      refine par_lt (eqo_oUa (.tail _ (.tail _ (.tail _ (.tail _ (.tail _ (.tail _ (.tail _ (.tail _ (.tail _ (.tail _ (.tail _ (.tail _ (.tail _ (.tail _ (.tail _ (.tail _ (.head _))))))))))))))))) h_q4) fun M7 h_M7 => ?_
      refine par_bind (fr_C_setOut (eqo_rfl _ _)) fun q8 g_q8 => ?_
      have h_q8 := eqo_tr (subw_cons (.head _) (subw_cons (.tail _ (.head _)) (subw_cons (.tail _ (.tail _ (.tail _ (.tail _ (.tail _ (.tail _ (.tail _ (.head _)))))))) (subw_cons (.tail _ (.tail _ (.tail _ (.tail _ (.tail _ (.tail _ (.tail _ (.tail _ (.head _))))))))) (subw_cons (.tail _ (.tail _ (.tail _ (.tail _ (.tail _ (.tail _ (.tail _ (.tail _ (.tail _ (.head _)))))))))) (subw_cons (.tail _ (.tail _ (.tail _ (.tail _ (.tail _ (.tail _ (.tail _ (.tail _ (.tail _ (.tail _ (.head _))))))))))) subw_nil)))))) h_M7 g_q8
      exact fr_C_tick_B80 h_q8
theorem fr_C_tick_B25 {f : Nat} {o1 : Nat} {M : oM} {B : oM} (h_M : eqo [(25, (-1)), (26, (-1)), (41, 2), (41, 3), (41, 4), (41, 5), (o1, 3), (o1, 4), (o1, 5), (o1, 6), (o1, 7), (o1, 8), (o1, 9), (o1, 10), (o1, 11), (o1 + 1, (-1)), (o1 + 2, (-1)), (o1 + 3, (-1))] B M) : par (p_C_tick_B25 f o1 M) (fun s => eqo [(25, (-1)), (26, (-1)), (41, 2), (41, 3), (41, 4), (41, 5), (o1, 3), (o1, 4), (o1, 5), (o1, 6), (o1, 7), (o1, 8), (o1, 9), (o1, 10), (o1, 11), (o1 + 1, (-1)), (o1 + 2, (-1)), (o1 + 3, (-1))] B s.2) := by
  unfold p_C_tick_B25
  refine par_ite ?_ ?_
  · refine par_bind (fr_C_beginDay (eqo_rfl _ _)) fun q10 g_q10 => ?_
    have h_q10 := eqo_tr (subw_cons (.head _) (subw_cons (.tail _ (.head _)) (subw_cons (.tail _ (.tail _ (.tail _ (.head _)))) (subw_cons (.tail _ (.tail _ (.tail _ (.tail _ (.head _))))) (subw_cons (.tail _ (.tail _ (.tail _ (.tail _ (.tail _ (.tail _ (.tail _ (.tail _ (.tail _ (.tail _ (.tail _ (.tail _ (.tail _ (.head _)))))))))))))) (subw_cons (.tail _ (.tail _ (.tail _ (.tail _ (.tail _ (.tail _ (.tail _ (.tail _ (.tail _ (.tail _ (.tail _ (.tail _ (.tail _ (.tail _ (.head _))))))))))))))) (subw_cons (.tail _ (.tail _ (.tail _ (.tail _ (.tail _ (.tail _ (.tail _ (.tail _ (.tail _ (.tail _ (.tail _ (.tail _ (.tail _ (.tail _ (.tail _ (.head _)))))))))))))))) subw_nil))))))) h_M g_q10
    exact fr_C_tick_B37 h_q10
  · exact fr_C_tick_B37 h_M
theorem fr_C_tick {f : Nat} {o1 : Nat} {M : oM} {B : oM} (h_M : eqo [(25, (-1)), (26, (-1)), (41, 2), (41, 3), (41, 4), (41, 5), (o1, 3), (o1, 4), (o1, 5), (o1, 6), (o1, 7), (o1, 8), (o1, 9), (o1, 10), (o1, 11), (o1 + 1, (-1)), (o1 + 2, (-1)), (o1 + 3, (-1))] B M) : par (p_C_tick f o1 M) (fun s => eqo [(25, (-1)), (26, (-1)), (41, 2), (41, 3), (41, 4), (41, 5), (o1, 3), (o1, 4), (o1, 5), (o1, 6), (o1, 7), (o1, 8), (o1, 9), (o1, 10), (o1, 11), (o1 + 1, (-1)), (o1 + 2, (-1)), (o1 + 3, (-1))] B s.2) := by
  unfold p_C_tick
  refine par_lt (eqo_oU (.tail _ (.tail _ (.tail _ (.tail _ (.tail _ (.head _)))))) h_M) fun M11 h_M11 => ?_
  refine par_ite ?_ ?_
  · exact fr_C_tick_B25 h_M11
  · refine par_ite ?_ ?_
    · exact fr_C_tick_B25 h_M11
    · exact par_some h_M11
theorem fr_C_pass_L17 {f : Nat} {o1 : Nat} {l2 : Int} {B : oM} : ∀ (s : Int × oM), (fun s => eqo [(25, (-1)), (26, (-1)), (41, 2), (41, 3), (41, 4), (41, 5), (o1, 3), (o1, 4), (o1, 5), (o1, 6), (o1, 7), (o1, 8), (o1, 9), (o1, 10), (o1, 11), (o1 + 1, (-1)), (o1 + 2, (-1)), (o1 + 3, (-1))] B s.2) s → par (p_C_pass_L17 f o1 l2 s) (psum (fun s => eqo [(25, (-1)), (26, (-1)), (41, 2), (41, 3), (41, 4), (41, 5), (o1, 3), (o1, 4), (o1, 5), (o1, 6), (o1, 7), (o1, 8), (o1, 9), (o1, 10), (o1, 11), (o1 + 1, (-1)), (o1 + 2, (-1)), (o1 + 3, (-1))] B s.2) (fun s => eqo [(25, (-1)), (26, (-1)), (41, 2), (41, 3), (41, 4), (41, 5), (o1, 3), (o1, 4), (o1, 5), (o1, 6), (o1, 7), (o1, 8), (o1, 9), (o1, 10), (o1, 11), (o1 + 1, (-1)), (o1 + 2, (-1)), (o1 + 3, (-1))] B s.2)) := by
  intro s hs
  obtain ⟨l3, M⟩ := s
  have h_M : eqo [(25, (-1)), (26, (-1)), (41, 2), (41, 3), (41, 4), (41, 5), (o1, 3), (o1, 4), (o1, 5), (o1, 6), (o1, 7), (o1, 8), (o1, 9), (o1, 10), (o1, 11), (o1 + 1, (-1)), (o1 + 2, (-1)), (o1 + 3, (-1))] B M := hs
  unfold p_C_pass_L17
  refine par_ite ?_ ?_
  · refine par_bind (fr_C_tick (eqo_rfl _ _)) fun q1 g_q1 => ?_
    have h_q1 := eqo_tr (subw_cons (.head _) (subw_cons (.tail _ (.head _)) (subw_cons (.tail _ (.tail _ (.head _))) (subw_cons (.tail _ (.tail _ (.tail _ (.head _)))) (subw_cons (.tail _ (.tail _ (.tail _ (.tail _ (.head _))))) (subw_cons (.tail _ (.tail _ (.tail _ (.tail _ (.tail _ (.head _)))))) (subw_cons (.tail _ (.tail _ (.tail _ (.tail _ (.tail _ (.tail _ (.head _))))))) (subw_cons (.tail _ (.tail _ (.tail _ (.tail _ (.tail _ (.tail _ (.tail _ (.head _)))))))) (subw_cons (.tail _ (.tail _ (.tail _ (.tail _ (.tail _ (.tail _ (.tail _ (.tail _ (.head _))))))))) (subw_cons (.tail _ (.tail _ (.tail _ (.tail _ (.tail _ (.tail _ (.tail _ (.tail _ (.tail _ (.head _)))))))))) (subw_cons (.tail _ (.tail _ (.tail _ (.tail _ (.tail _ (.tail _ (.tail _ (.tail _ (.tail _ (.tail _ (.head _))))))))))) (subw_cons (.tail _ (.tail _ (.tail _ (.tail _ (.tail _ (.tail _ (.tail _ (.tail _ (.tail _ (.tail _ (.tail _ (.head _)))))))))))) (subw_cons (.tail _ (.tail _ (.tail _ (.tail _ (.tail _ (.tail _ (.tail _ (.tail _ (.tail _ (.tail _ (.tail _ (.tail _ (.head _))))))))))))) (subw_cons (.tail _ (.tail _ (.tail _ (.tail _ (.tail _ (.tail _ (.tail _ (.tail _ (.tail _ (.tail _ (.tail _ (.tail _ (.tail _ (.head _)))))))))))))) (subw_cons (.tail _ (.tail _ (.tail _ (.tail _ (.tail _ (.tail _ (.tail _ (.tail _ (.tail _ (.tail _ (.tail _ (.tail _ (.tail _ (.tail _ (.head _))))))))))))))) (subw_cons (.tail _ (.tail _ (.tail _ (.tail _ (.tail _ (.tail _ (.tail _ (.tail _ (.tail _ (.tail _ (.tail _ (.tail _ (.tail _ (.tail _ (.tail _ (.head _)))))))))))))))) (subw_cons (.tail _ (.tail _ (.tail _ (.tail _ (.tail _ (.tail _ (.tail _ (.tail _ (.tail _ (.tail _ (.tail _ (.tail _ (.tail _ (.tail _ (.tail _ (.tail _ (.head _))))))))))))))))) (subw_cons (.tail _ (.tail _ (.tail _ (.tail _ (.tail _ (.tail _ (.tail _ (.tail _ (.tail _ (.tail _ (.tail _ (.tail _ (.tail _ (.tail _ (.tail _ (.tail _ (.tail _ (.head _)))))))))))))))))) subw_nil)))))))))))))))))) h_M g_q1
    refine par_ltI fun x2 => ?_
    exact par_some h_q1
  · exact par_some h_M
theorem fr_C_pass {f : Nat} {o1 : Nat} {l2 : Int} {M : oM} {B : oM} (h_M : eqo [(25, (-1)), (26, (-1)), (41, 2), (41, 3), (41, 4), (41, 5), (o1, 3), (o1, 4), (o1, 5), (o1, 6), (o1, 7), (o1, 8), (o1, 9), (o1, 10), (o1, 11), (o1 + 1, (-1)), (o1 + 2, (-1)), (o1 + 3, (-1))] B M) : par (p_C_pass f o1 l2 M) (fun s => eqo [(25, (-1)), (26, (-1)), (41, 2), (41, 3), (41, 4), (41, 5), (o1, 3), (o1, 4), (o1, 5), (o1, 6), (o1, 7), (o1, 8), (o1, 9), (o1, 10), (o1, 11), (o1 + 1, (-1)), (o1 + 2, (-1)), (o1 + 3, (-1))] B s.2) := by
  unfold p_C_pass
  refine par_lt (eqo_oU (.tail _ (.tail _ (.head _))) h_M) fun M3 h_M3 => ?_
  refine par_lt (eqo_oU (.tail _ (.tail _ (.tail _ (.head _)))) h_M3) fun M4 h_M4 => ?_
  refine par_lt (eqo_oU (.tail _ (.tail _ (.tail _ (.tail _ (.head _))))) h_M4) fun M5 h_M5 => ?_
  exact par_iter (fun s hs => fr_C_pass_L17 s hs) _ h_M5
theorem fr_O_hours {f : Nat} {l1 : Int} {M : oM} {B : oM} (h_M : eqo [(6, 3), (6, 4), (6, 5), (6, 6), (6, 7), (6, 8), (6, 9), (6, 10), (6, 11), (7, (-1)), (8, (-1)), (9, (-1)), (25, (-1)), (26, (-1)), (41, 2), (41, 3), (41, 4), (41, 5)] B M) : par (p_O_hours f l1 M) (fun s => eqo [(6, 3), (6, 4), (6, 5), (6, 6), (6, 7), (6, 8), (6, 9), (6, 10), (6, 11), (7, (-1)), (8, (-1)), (9, (-1)), (25, (-1)), (26, (-1)), (41, 2), (41, 3), (41, 4), (41, 5)] B s.2) := by
  unfold p_O_hours
  refine par_bind (fr_O_areHours (eqo_rfl _ _)) fun q1 g_q1 => ?_
  have h_q1 := eqo_tr subw_nil h_M g_q1
  refine par_ite ?_ ?_
  · exact par_some h_q1
  · refine par_bind (fr_C_pass (eqo_rfl _ _)) fun q2 g_q2 => ?_
    have h_q2 := eqo_tr (subw_cons (.tail _ (.tail _ (.tail _ (.tail _ (.tail _ (.tail _ (.tail _ (.tail _ (.tail _ (.tail _ (.tail _ (.tail _ (.head _))))))))))))) (subw_cons (.tail _ (.tail _ (.tail _ (.tail _ (.tail _ (.tail _ (.tail _ (.tail _ (.tail _ (.tail _ (.tail _ (.tail _ (.tail _ (.head _)))))))))))))) (subw_cons (.tail _ (.tail _ (.tail _ (.tail _ (.tail _ (.tail _ (.tail _ (.tail _ (.tail _ (.tail _ (.tail _ (.tail _ (.tail _ (.tail _ (.head _))))))))))))))) (subw_cons (.tail _ (.tail _ (.tail _ (.tail _ (.tail _ (.tail _ (.tail _ (.tail _ (.tail _ (.tail _ (.tail _ (.tail _ (.tail _ (.tail _ (.tail _ (.head _)))))))))))))))) (subw_cons (.tail _ (.tail _ (.tail _ (.tail _ (.tail _ (.tail _ (.tail _ (.tail _ (.tail _ (.tail _ (.tail _ (.tail _ (.tail _ (.tail _ (.tail _ (.tail _ (.head _))))))))))))))))) (subw_cons (.tail _ (.tail _ (.tail _ (.tail _ (.tail _ (.tail _ (.tail _ (.tail _ (.tail _ (.tail _ (.tail _ (.tail _ (.tail _ (.tail _ (.tail _ (.tail _ (.tail _ (.head _)))))))))))))))))) (subw_cons (.head _) (subw_cons (.tail _ (.head _)) (subw_cons (.tail _ (.tail _ (.head _))) (subw_cons (.tail _ (.tail _ (.tail _ (.head _)))) (subw_cons (.tail _ (.tail _ (.tail _ (.tail _ (.head _))))) (subw_cons (.tail _ (.tail _ (.tail _ (.tail _ (.tail _ (.head _)))))) (subw_cons (.tail _ (.tail _ (.tail _ (.tail _ (.tail _ (.tail _ (.head _))))))) (subw_cons (.tail _ (.tail _ (.tail _ (.tail _ (.tail _ (.tail _ (.tail _ (.head _)))))))) (subw_cons (.tail _ (.tail _ (.tail _ (.tail _ (.tail _ (.tail _ (.tail _ (.tail _ (.head _))))))))) (subw_cons (.tail _ (.tail _ (.tail _ (.tail _ (.tail _ (.tail _ (.tail _ (.tail _ (.tail _ (.head _)))))))))) (subw_cons (.tail _ (.tail _ (.tail _ (.tail _ (.tail _ (.tail _ (.tail _ (.tail _ (.tail _ (.tail _ (.head _))))))))))) (subw_cons (.tail _ (.tail _ (.tail _ (.tail _ (.tail _ (.tail _ (.tail _ (.tail _ (.tail _ (.tail _ (.tail _ (.head _)))))))))))) subw_nil)))))))))))))))))) h_q1 g_q2
    exact par_some h_q2
theorem fr_D_takeFrom {f : Nat} {o0 : Nat} {o1 : Nat} {M : oM} {B : oM} (h_M : eqo [(o0, 3), (o0, 4), (o0, 5), (o0, 6), (o0, 7), (o0, 8), (o0, 9), (o0, 10), (o0, 11), (o0 + 1, (-1)), (o0 + 2, (-1)), (o0 + 3, (-1))] B M) : par (p_D_takeFrom f o0 o1 M) (fun s => eqo [(o0, 3), (o0, 4), (o0, 5), (o0, 6), (o0, 7), (o0, 8), (o0, 9), (o0, 10), (o0, 11), (o0 + 1, (-1)), (o0 + 2, (-1)), (o0 + 3, (-1))] B s.2) := by
  unfold p_D_takeFrom
  refine par_cpg ?_
  refine par_lt (eqo_ac (.tail _ (.tail _ (.tail _ (.tail _ (.tail _ (.tail _ (.tail _ (.tail _ (.tail _ (.head _)))))))))) h_M) fun M1 h_M1 => ?_
  refine par_cpg ?_
  refine par_lt (eqo_ac (.tail _ (.tail _ (.tail _ (.tail _ (.tail _ (.tail _ (.tail _ (.tail _ (.tail _ (.tail _ (.head _))))))))))) h_M1) fun M2 h_M2 => ?_
  refine par_cpg ?_
  refine par_lt (eqo_ac (.tail _ (.tail _ (.tail _ (.tail _ (.tail _ (.tail _ (.tail _ (.tail _ (.tail _ (.tail _ (.tail _ (.head _)))))))))))) h_M2) fun M3 h_M3 => ?_
  refine par_lt (eqo_oU (.head _) h_M3) fun M4 h_M4 => ?_
  refine par_lt (eqo_oU (.tail _ (.head _)) h_M4) fun M5 h_M5 => ?_
  refine par_lt (eqo_oU (.tail _ (.tail _ (.head _))) h_M5) fun M6 h_M6 => ?_
  refine par_lt (eqo_oU (.tail _ (.tail _ (.tail _ (.head _)))) h_M6) fun M7 h_M7 => ?_
  refine par_lt (eqo_oU (.tail _ (.tail _ (.tail _ (.tail _ (.head _))))) h_M7) fun M8 h_M8 => ?_
  refine par_lt (eqo_oU (.tail _ (.tail _ (.tail _ (.tail _ (.tail _ (.head _)))))) h_M8) fun M9 h_M9 => ?_
  refine par_lt (eqo_oU (.tail _ (.tail _ (.tail _ (.tail _ (.tail _ (.tail _ (.head _))))))) h_M9) fun M10 h_M10 => ?_
  refine par_bnd fun b11 => ?_
  refine par_lt (eqo_oU (.tail _ (.tail _ (.tail _ (.tail _ (.tail _ (.tail _ (.tail _ (.head _)))))))) h_M10) fun M12 h_M12 => ?_
  refine par_lt (eqo_oU (.tail _ (.tail _ (.tail _ (.tail _ (.tail _ (.tail _ (.tail _ (.tail _ (.head _))))))))) h_M12) fun M13 h_M13 => ?_
  exact par_some h_M13
theorem fr_O_tried_B34 {f : Nat} {l1 : Int} {l2 : Int} {M : oM} {B : oM} (h_M : eqo [(14, 3), (14, 4), (14, 5), (14, 6), (14, 7), (14, 8), (14, 9), (14, 10), (14, 11), (15, (-1)), (16, (-1)), (17, (-1)), (25, (-1)), (26, (-1)), (41, 2), (41, 3), (41, 4), (41, 5)] B M) : par (p_O_tried_B34 f l1 l2 M) (fun s => eqo [(14, 3), (14, 4), (14, 5), (14, 6), (14, 7), (14, 8), (14, 9), (14, 10), (14, 11), (15, (-1)), (16, (-1)), (17, (-1)), (25, (-1)), (26, (-1)), (41, 2), (41, 3), (41, 4), (41, 5)] B s.2) := by
  unfold p_O_tried_B34
  refine par_bind (fr_D_takeFrom (eqo_rfl _ _)) fun q1 g_q1 => ?_
  have h_q1 := eqo_tr (subw_cons (.head _) (subw_cons (.tail _ (.head _)) (subw_cons (.tail _ (.tail _ (.head _))) (subw_cons (.tail _ (.tail _ (.tail _ (.head _)))) (subw_cons (.tail _ (.tail _ (.tail _ (.tail _ (.head _))))) (subw_cons (.tail _ (.tail _ (.tail _ (.tail _ (.tail _ (.head _)))))) (subw_cons (.tail _ (.tail _ (.tail _ (.tail _ (.tail _ (.tail _ (.head _))))))) (subw_cons (.tail _ (.tail _ (.tail _ (.tail _ (.tail _ (.tail _ (.tail _ (.head _)))))))) (subw_cons (.tail _ (.tail _ (.tail _ (.tail _ (.tail _ (.tail _ (.tail _ (.tail _ (.head _))))))))) (subw_cons (.tail _ (.tail _ (.tail _ (.tail _ (.tail _ (.tail _ (.tail _ (.tail _ (.tail _ (.head _)))))))))) (subw_cons (.tail _ (.tail _ (.tail _ (.tail _ (.tail _ (.tail _ (.tail _ (.tail _ (.tail _ (.tail _ (.head _))))))))))) (subw_cons (.tail _ (.tail _ (.tail _ (.tail _ (.tail _ (.tail _ (.tail _ (.tail _ (.tail _ (.tail _ (.tail _ (.head _)))))))))))) subw_nil)))))))))))) h_M g_q1
  refine par_bind (fr_C_pass (eqo_rfl _ _)) fun q2 g_q2 => ?_
  have h_q2 := eqo_tr (subw_cons (.tail _ (.tail _ (.tail _ (.tail _ (.tail _ (.tail _ (.tail _ (.tail _ (.tail _ (.tail _ (.tail _ (.tail _ (.head _))))))))))))) (subw_cons (.tail _ (.tail _ (.tail _ (.tail _ (.tail _ (.tail _ (.tail _ (.tail _ (.tail _ (.tail _ (.tail _ (.tail _ (.tail _ (.head _)))))))))))))) (subw_cons (.tail _ (.tail _ (.tail _ (.tail _ (.tail _ (.tail _ (.tail _ (.tail _ (.tail _ (.tail _ (.tail _ (.tail _ (.tail _ (.tail _ (.head _))))))))))))))) (subw_cons (.tail _ (.tail _ (.tail _ (.tail _ (.tail _ (.tail _ (.tail _ (.tail _ (.tail _ (.tail _ (.tail _ (.tail _ (.tail _ (.tail _ (.tail _ (.head _)))))))))))))))) (subw_cons (.tail _ (.tail _ (.tail _ (.tail _ (.tail _ (.tail _ (.tail _ (.tail _ (.tail _ (.tail _ (.tail _ (.tail _ (.tail _ (.tail _ (.tail _ (.tail _ (.head _))))))))))))))))) (subw_cons (.tail _ (.tail _ (.tail _ (.tail _ (.tail _ (.tail _ (.tail _ (.tail _ (.tail _ (.tail _ (.tail _ (.tail _ (.tail _ (.tail _ (.tail _ (.tail _ (.tail _ (.head _)))))))))))))))))) (subw_cons (.head _) (subw_cons (.tail _ (.head _)) (subw_cons (.tail _ (.tail _ (.head _))) (subw_cons (.tail _ (.tail _ (.tail _ (.head _)))) (subw_cons (.tail _ (.tail _ (.tail _ (.tail _ (.head _))))) (subw_cons (.tail _ (.tail _ (.tail _ (.tail _ (.tail _ (.head _)))))) (subw_cons (.tail _ (.tail _ (.tail _ (.tail _ (.tail _ (.tail _ (.head _))))))) (subw_cons (.tail _ (.tail _ (.tail _ (.tail _ (.tail _ (.tail _ (.tail _ (.head _)))))))) (subw_cons (.tail _ (.tail _ (.tail _ (.tail _ (.tail _ (.tail _ (.tail _ (.tail _ (.head _))))))))) (subw_cons (.tail _ (.tail _ (.tail _ (.tail _ (.tail _ (.tail _ (.tail _ (.tail _ (.tail _ (.head _)))))))))) (subw_cons (.tail _ (.tail _ (.tail _ (.tail _ (.tail _ (.tail _ (.tail _ (.tail _ (.tail _ (.tail _ (.head _))))))))))) (subw_cons (.tail _ (.tail _ (.tail _ (.tail _ (.tail _ (.tail _ (.tail _ (.tail _ (.tail _ (.tail _ (.tail _ (.head _)))))))))))) subw_nil)))))))))))))))))) h_q1 g_q2
  refine par_ite ?_ ?_
  · exact par_some h_q2
  · refine par_ite ?_ ?_
    · refine par_bind (fr_D_owedInAll (eqo_rfl _ _)) fun q3 g_q3 => ?_
      have h_q3 := eqo_tr subw_nil h_q2 g_q3
      exact par_some h_q3
    · refine par_ite ?_ ?_
      · refine par_ite ?_ ?_
        · exact par_some h_q2
        · exact par_some h_q2
      · refine par_ite ?_ ?_
        · exact par_some h_q2
        · refine par_ite ?_ ?_
          · exact par_some h_q2
          · refine par_ite ?_ ?_
            · exact par_some h_q2
            · refine par_bnd fun i4 => ?_
              refine par_bnd fun i5 => ?_
              exact par_some h_q2
theorem fr_O_tried_B28 {f : Nat} {l1 : Int} {l2 : Int} {l3 : Int} {M : oM} {B : oM} (h_M : eqo [(14, 3), (14, 4), (14, 5), (14, 6), (14, 7), (14, 8), (14, 9), (14, 10), (14, 11), (15, (-1)), (16, (-1)), (17, (-1)), (25, (-1)), (26, (-1)), (41, 2), (41, 3), (41, 4), (41, 5)] B M) : par (p_O_tried_B28 f l1 l2 l3 M) (fun s => eqo [(14, 3), (14, 4), (14, 5), (14, 6), (14, 7), (14, 8), (14, 9), (14, 10), (14, 11), (15, (-1)), (16, (-1)), (17, (-1)), (25, (-1)), (26, (-1)), (41, 2), (41, 3), (41, 4), (41, 5)] B s.2) := by
  unfold p_O_tried_B28
  refine par_ite ?_ ?_
  · exact par_some h_M
  · exact fr_O_tried_B34 h_M
theorem fr_O_tried {f : Nat} {l1 : Int} {l2 : Int} {M : oM} {B : oM} (h_M : eqo [(14, 3), (14, 4), (14, 5), (14, 6), (14, 7), (14, 8), (14, 9), (14, 10), (14, 11), (15, (-1)), (16, (-1)), (17, (-1)), (25, (-1)), (26, (-1)), (41, 2), (41, 3), (41, 4), (41, 5)] B M) : par (p_O_tried f l1 l2 M) (fun s => eqo [(14, 3), (14, 4), (14, 5), (14, 6), (14, 7), (14, 8), (14, 9), (14, 10), (14, 11), (15, (-1)), (16, (-1)), (17, (-1)), (25, (-1)), (26, (-1)), (41, 2), (41, 3), (41, 4), (41, 5)] B s.2) := by
  unfold p_O_tried
  refine par_bind (fr_P_has (eqo_rfl _ _)) fun q6 g_q6 => ?_
  have h_q6 := eqo_tr subw_nil h_M g_q6
  refine par_bind (fr_O_areHours (eqo_rfl _ _)) fun q7 g_q7 => ?_
  have h_q7 := eqo_tr subw_nil h_q6 g_q7
  refine par_ite ?_ ?_
  · exact par_some h_q7
  · refine par_ite ?_ ?_
    · exact fr_O_tried_B28 h_q7
    · refine par_ite ?_ ?_
      · exact fr_O_tried_B28 h_q7
      · exact fr_O_tried_B34 h_q7
theorem fr_D_owedTo_L4 {f : Nat} {l1 : Int} {B : oM} : ∀ (s : Int × Int × oM), (fun s => eqo [] B s.2.2) s → par (p_D_owedTo_L4 f l1 s) (psum (fun s => eqo [] B s.2.2) (fun s => eqo [] B s.2)) := by
  intro s hs
  obtain ⟨l2, l3, M⟩ := s
  have h_M : eqo [] B M := hs
  unfold p_D_owedTo_L4
  refine par_ite ?_ ?_
  · refine par_bnd fun i1 => ?_
    refine par_ltI fun x2 => ?_
    refine par_ltI fun x3 => ?_
    exact par_some h_M
  · exact par_some h_M
theorem fr_D_owedTo {f : Nat} {l1 : Int} {M : oM} {B : oM} (h_M : eqo [] B M) : par (p_D_owedTo f l1 M) (fun s => eqo [] B s.2) := by
  unfold p_D_owedTo
  exact par_iter (fun s hs => fr_D_owedTo_L4 s hs) _ h_M
theorem fr_O_personIs {f : Nat} {l1 : Int} {l2 : Int} {M : oM} {B : oM} (h_M : eqo [] B M) : par (p_O_personIs f l1 l2 M) (fun s => eqo [] B s.2) := by
  unfold p_O_personIs
  refine par_bind (fr_P_has (eqo_rfl _ _)) fun q1 g_q1 => ?_
  have h_q1 := eqo_tr subw_nil h_M g_q1
  refine par_ite ?_ ?_
  · exact par_some h_q1
  · refine par_ite ?_ ?_
    · refine par_bnd fun i2 => ?_
      exact par_some h_q1
    · refine par_ite ?_ ?_
      · refine par_bnd fun i3 => ?_
        exact par_some h_q1
      · refine par_ite ?_ ?_
        · refine par_bind (fr_D_owedBy (eqo_rfl _ _)) fun q4 g_q4 => ?_
          have h_q4 := eqo_tr subw_nil h_q1 g_q4
          exact par_some h_q4
        · refine par_ite ?_ ?_
          · refine par_bind (fr_D_owedTo (eqo_rfl _ _)) fun q5 g_q5 => ?_
            have h_q5 := eqo_tr subw_nil h_q1 g_q5
            exact par_some h_q5
          · refine par_ite ?_ ?_
            · refine par_bnd fun i6 => ?_
              exact par_some h_q1
            · refine par_ite ?_ ?_
              · refine par_bind (fr_D_timesChalked (eqo_rfl _ _)) fun q7 g_q7 => ?_
                have h_q7 := eqo_tr subw_nil h_q1 g_q7
                exact par_some h_q7
              · exact par_some h_q1
theorem fr_O_owes {f : Nat} {l1 : Int} {l2 : Int} {M : oM} {B : oM} (h_M : eqo [] B M) : par (p_O_owes f l1 l2 M) (fun s => eqo [] B s.2) := by
  unfold p_O_owes
  refine par_bind (fr_P_hasBoth (eqo_rfl _ _)) fun q1 g_q1 => ?_
  have h_q1 := eqo_tr subw_nil h_M g_q1
  refine par_ite ?_ ?_
  · exact par_some h_q1
  · refine par_bind (fr_D_debtOf (eqo_rfl _ _)) fun q2 g_q2 => ?_
    have h_q2 := eqo_tr subw_nil h_q1 g_q2
    exact par_some h_q2
theorem fr_O_likes {f : Nat} {l1 : Int} {l2 : Int} {M : oM} {B : oM} (h_M : eqo [(25, (-1)), (26, (-1))] B M) : par (p_O_likes f l1 l2 M) (fun s => eqo [(25, (-1)), (26, (-1))] B s.2) := by
  unfold p_O_likes
  refine par_bind (fr_P_hasBoth (eqo_rfl _ _)) fun q1 g_q1 => ?_
  have h_q1 := eqo_tr subw_nil h_M g_q1
  refine par_ite ?_ ?_
  · exact par_some h_q1
  · refine par_bind (fr_L_liking (eqo_rfl _ _)) fun q2 g_q2 => ?_
    have h_q2 := eqo_tr (subw_cons (.head _) (subw_cons (.tail _ (.head _)) subw_nil)) h_q1 g_q2
    exact par_some h_q2
theorem fr_RR_repeat_L33 {f : Nat} {l3 : Int} {l4 : Int} {B : oM} : ∀ (s : Int × oM), (fun s => eqo [(39, 2), (40, (-1))] B s.2) s → par (p_RR_repeat_L33 f l3 l4 s) (psum (fun s => eqo [(39, 2), (40, (-1))] B s.2) (fun s => eqo [(39, 2), (40, (-1))] B s.2)) := by
  intro s hs
  obtain ⟨l5, M⟩ := s
  have h_M : eqo [(39, 2), (40, (-1))] B M := hs
  unfold p_RR_repeat_L33
  refine par_ite ?_ ?_
  · refine par_bnd fun i2 => ?_
    refine par_bnd fun i3 => ?_
    refine par_lt (eqo_oUa (.tail _ (.head _)) h_M) fun M4 h_M4 => ?_
    refine par_ltI fun x5 => ?_
    exact par_some h_M4
  · refine par_lt (eqo_oU (.head _) h_M) fun M1 h_M1 => ?_
    exact par_some h_M1
theorem fr_RR_repeat {f : Nat} {l1 : Int} {l2 : Int} {M : oM} {B : oM} (h_M : eqo [(39, 2), (40, (-1))] B M) : par (p_RR_repeat f l1 l2 M) (fun s => eqo [(39, 2), (40, (-1))] B s.2) := by
  unfold p_RR_repeat
  refine par_ltI fun x6 => ?_
  refine par_ltI fun x7 => ?_
  refine par_ite ?_ ?_
  · exact par_some h_M
  · refine par_ite ?_ ?_
    · exact par_some h_M
    · refine par_ltI fun x8 => ?_
      exact par_iter (fun s hs => fr_RR_repeat_L33 s hs) _ h_M
theorem fr_RR_readPaying_B177 {f : Nat} {l2 : Int} {l3 : Int} {l4 : Int} {M : oM} {rec : Int → oM → Option (Int × oM)} {B : oM} (hrec : ∀ (a0 : Int) (B : oM), par (rec a0 B) (fun s => eqo [(1, 3), (1, 4), (39, 2), (40, (-1))] B s.2)) (h_M : eqo [(1, 3), (1, 4), (39, 2), (40, (-1))] B M) : par (p_RR_readPaying_B177 f rec l2 l3 l4 M) (fun s => eqo [(1, 3), (1, 4), (39, 2), (40, (-1))] B s.2) := by
  unfold p_RR_readPaying_B177
  refine par_bind (fr_T_step (eqo_rfl _ _)) fun q1 g_q1 => ?_
  have h_q1 := eqo_tr (subw_cons (.head _) (subw_cons (.tail _ (.head _)) subw_nil)) h_M g_q1
  refine par_bind (fr_RR_repeat (eqo_rfl _ _)) fun q2 g_q2 => ?_
  have h_q2 := eqo_tr (subw_cons (.tail _ (.tail _ (.head _))) (subw_cons (.tail _ (.tail _ (.tail _ (.head _)))) subw_nil)) h_q1 g_q2
  refine par_ite ?_ ?_
  · refine par_bind (fr_T_faultAt (eqo_rfl _ _)) fun q3 g_q3 => ?_
    have h_q3 := eqo_tr subw_nil h_q2 g_q3
    exact par_some h_q3
  · exact par_some h_q2
theorem fr_RR_readPaying_B59 {f : Nat} {l1 : Int} {l2 : Int} {l3 : Int} {l4 : Int} {M : oM} {rec : Int → oM → Option (Int × oM)} {B : oM} (hrec : ∀ (a0 : Int) (B : oM), par (rec a0 B) (fun s => eqo [(1, 3), (1, 4), (39, 2), (40, (-1))] B s.2)) (h_M : eqo [(1, 3), (1, 4), (39, 2), (40, (-1))] B M) : par (p_RR_readPaying_B59 f rec l1 l2 l3 l4 M) (fun s => eqo [(1, 3), (1, 4), (39, 2), (40, (-1))] B s.2) := by
  unfold p_RR_readPaying_B59
  refine par_bind (fr_T_next (eqo_rfl _ _)) fun q4 g_q4 => ?_
  have h_q4 := eqo_tr subw_nil h_M g_q4
  refine par_ite ?_ ?_
  · refine par_ite ?_ ?_
    · refine par_bind (fr_T_step (eqo_rfl _ _)) fun q12 g_q12 => ?_
      have h_q12 := eqo_tr (subw_cons (.head _) (subw_cons (.tail _ (.head _)) subw_nil)) h_q4 g_q12
      refine par_bind (hrec _ _) fun q13 g_q13 => ?_
      have h_q13 := eqo_tr (subw_cons (.head _) (subw_cons (.tail _ (.head _)) (subw_cons (.tail _ (.tail _ (.head _))) (subw_cons (.tail _ (.tail _ (.tail _ (.head _)))) subw_nil)))) h_q12 g_q13
      refine par_ite ?_ ?_
      · exact fr_RR_readPaying_B177 hrec h_q13
      · exact par_some h_q13
    · refine par_bind (fr_T_fault (eqo_rfl _ _)) fun q14 g_q14 => ?_
      have h_q14 := eqo_tr subw_nil h_q4 g_q14
      exact par_some h_q14
  · refine par_bind (fr_T_nextOne (eqo_rfl _ _)) fun q5 g_q5 => ?_
    have h_q5 := eqo_tr subw_nil h_q4 g_q5
    refine par_ite ?_ ?_
    · refine par_bind (fr_T_fault (eqo_rfl _ _)) fun q11 g_q11 => ?_
      have h_q11 := eqo_tr subw_nil h_q5 g_q11
      exact par_some h_q11
    · refine par_ite ?_ ?_
      · refine par_bind (fr_T_nextOne (eqo_rfl _ _)) fun q6 g_q6 => ?_
        have h_q6 := eqo_tr subw_nil h_q5 g_q6
        refine par_bnd fun i7 => ?_
        refine par_lt (eqo_oUa (.tail _ (.tail _ (.tail _ (.head _)))) h_q6) fun M8 h_M8 => ?_
        refine par_lt (eqo_oU (.tail _ (.tail _ (.head _))) h_M8) fun M9 h_M9 => ?_
        exact fr_RR_readPaying_B177 hrec h_M9
      · refine par_bind (fr_T_faultAt (eqo_rfl _ _)) fun q10 g_q10 => ?_
        have h_q10 := eqo_tr subw_nil h_q5 g_q10
        exact par_some h_q10
theorem fr_RR_readPaying_F {f : Nat} {l1 : Int} {M : oM} {rec : Int → oM → Option (Int × oM)} {B : oM} (hrec : ∀ (a0 : Int) (B : oM), par (rec a0 B) (fun s => eqo [(1, 3), (1, 4), (39, 2), (40, (-1))] B s.2)) (h_M : eqo [(1, 3), (1, 4), (39, 2), (40, (-1))] B M) : par (p_RR_readPaying_F f rec l1 M) (fun s => eqo [(1, 3), (1, 4), (39, 2), (40, (-1))] B s.2) := by
  unfold p_RR_readPaying_F
  refine par_bind (fr_T_place (eqo_rfl _ _)) fun q15 g_q15 => ?_
  have h_q15 := eqo_tr subw_nil h_M g_q15
  refine par_ltI fun x16 => ?_
  refine par_bind (fr_T_next (eqo_rfl _ _)) fun q17 g_q17 => ?_
  have h_q17 := eqo_tr subw_nil h_q15 g_q17
  refine par_ite ?_ ?_
  · exact fr_RR_readPaying_B59 hrec h_q17
  · refine par_bind (fr_T_next (eqo_rfl _ _)) fun q18 g_q18 => ?_
    have h_q18 := eqo_tr subw_nil h_q17 g_q18
    refine par_ite ?_ ?_
    · exact fr_RR_readPaying_B59 hrec h_q18
    · refine par_bind (fr_T_next (eqo_rfl _ _)) fun q19 g_q19 => ?_
      have h_q19 := eqo_tr subw_nil h_q18 g_q19
      refine par_ltI fun x20 => ?_
      refine par_bind (fr_T_step (eqo_rfl _ _)) fun q21 g_q21 => ?_
      have h_q21 := eqo_tr (subw_cons (.head _) (subw_cons (.tail _ (.head _)) subw_nil)) h_q19 g_q21
      exact fr_RR_readPaying_B59 hrec h_q21
theorem fr_RR_readPayings_B51_2 {f : Nat} {l1 : Int} {l2 : Int} {M : oM} {rec : Int → oM → Option (Int × oM)} {B : oM} (hrec : ∀ (a0 : Int) (B : oM), par (rec a0 B) (fun s => eqo [(1, 3), (1, 4), (39, 2), (40, (-1))] B s.2)) (h_M : eqo [(1, 3), (1, 4), (39, 2), (40, (-1))] B M) : par (p_RR_readPayings_B51_2 f rec l1 l2 M) (psum (fun s => eqo [(1, 3), (1, 4), (39, 2), (40, (-1))] B s.2) (fun s => eqo [(1, 3), (1, 4), (39, 2), (40, (-1))] B s.2)) := by
  unfold p_RR_readPayings_B51_2
  refine par_ltI fun x1 => ?_
  exact par_some h_M
theorem fr_RR_readPayings_L2 {f : Nat} {l1 : Int} {rec : Int → oM → Option (Int × oM)} {B : oM} (hrec : ∀ (a0 : Int) (B : oM), par (rec a0 B) (fun s => eqo [(1, 3), (1, 4), (39, 2), (40, (-1))] B s.2)) : ∀ (s : Int × oM), (fun s => eqo [(1, 3), (1, 4), (39, 2), (40, (-1))] B s.2) s → par (p_RR_readPayings_L2 f rec l1 s) (psum (fun s => eqo [(1, 3), (1, 4), (39, 2), (40, (-1))] B s.2) (fun s => eqo [(1, 3), (1, 4), (39, 2), (40, (-1))] B s.2)) := by
  intro s hs
  obtain ⟨l2, M⟩ := s
  have h_M : eqo [(1, 3), (1, 4), (39, 2), (40, (-1))] B M := hs
  unfold p_RR_readPayings_L2
  refine par_ite ?_ ?_
  · refine par_bind (fr_RR_readPaying_F hrec (eqo_rfl _ _)) fun q3 g_q3 => ?_
    have h_q3 := eqo_tr (subw_cons (.head _) (subw_cons (.tail _ (.head _)) (subw_cons (.tail _ (.tail _ (.head _))) (subw_cons (.tail _ (.tail _ (.tail _ (.head _)))) subw_nil)))) h_M g_q3
    refine par_ite ?_ ?_
    · refine par_ite ?_ ?_
      · refine par_bind (fr_T_ended (eqo_rfl _ _)) fun q5 g_q5 => ?_
        have h_q5 := eqo_tr subw_nil h_q3 g_q5
        refine par_ite ?_ ?_
        · exact fr_RR_readPayings_B51_2 hrec h_q5
        · exact par_some h_q5
      · refine par_bind (fr_T_next (eqo_rfl _ _)) fun q4 g_q4 => ?_
        have h_q4 := eqo_tr subw_nil h_q3 g_q4
        refine par_ite ?_ ?_
        · exact par_some h_q4
        · exact fr_RR_readPayings_B51_2 hrec h_q4
    · exact par_some h_q3
  · refine par_bind (fr_T_fault (eqo_rfl _ _)) fun q2 g_q2 => ?_
    have h_q2 := eqo_tr subw_nil h_M g_q2
    exact par_some h_q2
theorem fr_RR_readPayings_F {f : Nat} {l1 : Int} {M : oM} {rec : Int → oM → Option (Int × oM)} {B : oM} (hrec : ∀ (a0 : Int) (B : oM), par (rec a0 B) (fun s => eqo [(1, 3), (1, 4), (39, 2), (40, (-1))] B s.2)) (h_M : eqo [(1, 3), (1, 4), (39, 2), (40, (-1))] B M) : par (p_RR_readPayings_F f rec l1 M) (fun s => eqo [(1, 3), (1, 4), (39, 2), (40, (-1))] B s.2) := by
  unfold p_RR_readPayings_F
  exact par_iter (fun s hs => fr_RR_readPayings_L2 hrec s hs) _ h_M
theorem fr_RR_readPayings {f : Nat} : ∀ (n : Nat) (a0 : Int) (B : oM), par (p_RR_readPayings f n a0 B) (fun s => eqo [(1, 3), (1, 4), (39, 2), (40, (-1))] B s.2) := by
  intro n
  induction n with
  | zero => intro a0 B; exact par_none
  | succ n ih => intro a0 B; exact fr_RR_readPayings_F (fun a0 B => ih a0 B) (eqo_rfl _ _)
theorem fr_RR_read {f : Nat} {M : oM} {B : oM} (h_M : eqo [(1, 3), (1, 4), (39, 2), (40, (-1))] B M) : par (p_RR_read f M) (fun s => eqo [(1, 3), (1, 4), (39, 2), (40, (-1))] B s.2) := by
  unfold p_RR_read
  refine par_lt (eqo_oU (.tail _ (.tail _ (.head _))) h_M) fun M1 h_M1 => ?_
  refine par_bind (fr_RR_readPayings _ _ _) fun q2 g_q2 => ?_
  have h_q2 := eqo_tr (subw_cons (.head _) (subw_cons (.tail _ (.head _)) (subw_cons (.tail _ (.tail _ (.head _))) (subw_cons (.tail _ (.tail _ (.tail _ (.head _)))) subw_nil)))) h_M1 g_q2
  exact par_some h_q2
theorem fr_O_readRoute {f : Nat} {M : oM} {B : oM} (h_M : eqo [(1, 1), (1, 3), (1, 4), (39, 2), (40, (-1))] B M) : par (p_O_readRoute f M) (fun s => eqo [(1, 1), (1, 3), (1, 4), (39, 2), (40, (-1))] B s.2) := by
  unfold p_O_readRoute
  refine par_bind (fr_RR_read (eqo_rfl _ _)) fun q1 g_q1 => ?_
  have h_q1 := eqo_tr (subw_cons (.tail _ (.head _)) (subw_cons (.tail _ (.tail _ (.head _))) (subw_cons (.tail _ (.tail _ (.tail _ (.head _)))) (subw_cons (.tail _ (.tail _ (.tail _ (.tail _ (.head _))))) subw_nil)))) h_M g_q1
  refine par_bind (fr_T_clear (eqo_rfl _ _)) fun q2 g_q2 => ?_
  have h_q2 := eqo_tr (subw_cons (.head _) subw_nil) h_q1 g_q2
  refine par_ite ?_ ?_
  · refine par_ite ?_ ?_
    · exact par_some h_q2
    · exact par_some h_q2
  · exact par_some h_q2
theorem fr_P_hoursOf_L9 {f : Nat} {l2 : Int} {B : oM} : ∀ (s : Int × Int × Int × oM), (fun s => eqo [] B s.2.2.2) s → par (p_P_hoursOf_L9 f l2 s) (psum (fun s => eqo [] B s.2.2.2) (fun s => eqo [] B s.2)) := by
  intro s hs
  obtain ⟨l4, l5, l6, M⟩ := s
  have h_M : eqo [] B M := hs
  unfold p_P_hoursOf_L9
  refine par_ite ?_ ?_
  · refine par_ite ?_ ?_
    · refine par_bnd fun i1 => ?_
      refine par_bind (fr_P_way (eqo_rfl _ _)) fun q2 g_q2 => ?_
      have h_q2 := eqo_tr subw_nil h_M g_q2
      refine par_ltI fun x3 => ?_
      refine par_bnd fun i4 => ?_
      refine par_ltI fun x5 => ?_
      refine par_ltI fun x6 => ?_
      exact par_some h_q2
    · exact par_some h_M
  · exact par_some h_M
theorem fr_P_hoursOf {f : Nat} {l2 : Int} {l3 : Int} {M : oM} {B : oM} (h_M : eqo [] B M) : par (p_P_hoursOf f l2 l3 M) (fun s => eqo [] B s.2) := by
  unfold p_P_hoursOf
  exact par_iter (fun s hs => fr_P_hoursOf_L9 s hs) _ h_M
theorem fr_RR_walkedBy_L2 {f : Nat} {o1 : Nat} {B : oM} : ∀ (s : Int × oM), (fun s => eqo [(o1, 3), (o1, 4), (o1, 5), (o1, 6), (o1, 7), (o1 + 1, (-1)), (o1 + 3, (-1))] B s.2) s → par (p_RR_walkedBy_L2 f o1 s) (psum (fun s => eqo [(o1, 3), (o1, 4), (o1, 5), (o1, 6), (o1, 7), (o1 + 1, (-1)), (o1 + 3, (-1))] B s.2) (fun s => eqo [(o1, 3), (o1, 4), (o1, 5), (o1, 6), (o1, 7), (o1 + 1, (-1)), (o1 + 3, (-1))] B s.2)) := by
  intro s hs
  obtain ⟨l2, M⟩ := s
  have h_M : eqo [(o1, 3), (o1, 4), (o1, 5), (o1, 6), (o1, 7), (o1 + 1, (-1)), (o1 + 3, (-1))] B M := hs
  unfold p_RR_walkedBy_L2
  refine par_ite ?_ ?_
  · refine par_ite ?_ ?_
    · refine par_bnd fun i1 => ?_
      refine par_bind (fr_D_debtOf (eqo_rfl _ _)) fun q2 g_q2 => ?_
      have h_q2 := eqo_tr subw_nil h_M g_q2
      refine par_ite ?_ ?_
      · exact par_some h_q2
      · refine par_bnd fun i3 => ?_
        refine par_bind (fr_D_pay (eqo_rfl _ _)) fun q4 g_q4 => ?_
        have h_q4 := eqo_tr (subw_cons (.head _) (subw_cons (.tail _ (.head _)) (subw_cons (.tail _ (.tail _ (.head _))) (subw_cons (.tail _ (.tail _ (.tail _ (.head _)))) (subw_cons (.tail _ (.tail _ (.tail _ (.tail _ (.head _))))) (subw_cons (.tail _ (.tail _ (.tail _ (.tail _ (.tail _ (.head _)))))) (subw_cons (.tail _ (.tail _ (.tail _ (.tail _ (.tail _ (.tail _ (.head _))))))) subw_nil))))))) h_q2 g_q4
        refine par_ltI fun x5 => ?_
        exact par_some h_q4
    · exact par_some h_M
  · exact par_some h_M
theorem fr_RR_walkedBy {f : Nat} {o1 : Nat} {M : oM} {B : oM} (h_M : eqo [(o1, 3), (o1, 4), (o1, 5), (o1, 6), (o1, 7), (o1 + 1, (-1)), (o1 + 3, (-1))] B M) : par (p_RR_walkedBy f o1 M) (fun s => eqo [(o1, 3), (o1, 4), (o1, 5), (o1, 6), (o1, 7), (o1 + 1, (-1)), (o1 + 3, (-1))] B s.2) := by
  unfold p_RR_walkedBy
  exact par_iter (fun s hs => fr_RR_walkedBy_L2 s hs) _ h_M
theorem fr_O_route {f : Nat} {l1 : Int} {l2 : Int} {M : oM} {B : oM} (h_M : eqo [(1, 1), (1, 2), (1, 3), (1, 4), (14, 3), (14, 4), (14, 5), (14, 6), (14, 7), (14, 8), (14, 9), (14, 10), (14, 11), (15, (-1)), (16, (-1)), (17, (-1)), (39, 2), (40, (-1))] B M) : par (p_O_route f l1 l2 M) (fun s => eqo [(1, 1), (1, 2), (1, 3), (1, 4), (14, 3), (14, 4), (14, 5), (14, 6), (14, 7), (14, 8), (14, 9), (14, 10), (14, 11), (15, (-1)), (16, (-1)), (17, (-1)), (39, 2), (40, (-1))] B s.2) := by
  unfold p_O_route
  refine par_ite ?_ ?_
  · exact par_some h_M
  · refine par_ite ?_ ?_
    · exact par_some h_M
    · refine par_bind (fr_T_opens (eqo_rfl _ _)) fun q1 g_q1 => ?_
      have h_q1 := eqo_tr (subw_cons (.tail _ (.head _)) (subw_cons (.tail _ (.tail _ (.head _))) (subw_cons (.tail _ (.tail _ (.tail _ (.head _)))) subw_nil))) h_M g_q1
      refine par_ite ?_ ?_
      · exact par_some h_q1
      · refine par_bind (fr_O_readRoute (eqo_rfl _ _)) fun q2 g_q2 => ?_
        have h_q2 := eqo_tr (subw_cons (.head _) (subw_cons (.tail _ (.tail _ (.head _))) (subw_cons (.tail _ (.tail _ (.tail _ (.head _)))) (subw_cons (.tail _ (.tail _ (.tail _ (.tail _ (.tail _ (.tail _ (.tail _ (.tail _ (.tail _ (.tail _ (.tail _ (.tail _ (.tail _ (.tail _ (.tail _ (.tail _ (.head _))))))))))))))))) (subw_cons (.tail _ (.tail _ (.tail _ (.tail _ (.tail _ (.tail _ (.tail _ (.tail _ (.tail _ (.tail _ (.tail _ (.tail _ (.tail _ (.tail _ (.tail _ (.tail _ (.tail _ (.head _)))))))))))))))))) subw_nil))))) h_q1 g_q2
        refine par_ite ?_ ?_
        · refine par_bind (fr_D_takeFrom (eqo_rfl _ _)) fun q3 g_q3 => ?_
          have h_q3 := eqo_tr (subw_cons (.tail _ (.tail _ (.tail _ (.tail _ (.head _))))) (subw_cons (.tail _ (.tail _ (.tail _ (.tail _ (.tail _ (.head _)))))) (subw_cons (.tail _ (.tail _ (.tail _ (.tail _ (.tail _ (.tail _ (.head _))))))) (subw_cons (.tail _ (.tail _ (.tail _ (.tail _ (.tail _ (.tail _ (.tail _ (.head _)))))))) (subw_cons (.tail _ (.tail _ (.tail _ (.tail _ (.tail _ (.tail _ (.tail _ (.tail _ (.head _))))))))) (subw_cons (.tail _ (.tail _ (.tail _ (.tail _ (.tail _ (.tail _ (.tail _ (.tail _ (.tail _ (.head _)))))))))) (subw_cons (.tail _ (.tail _ (.tail _ (.tail _ (.tail _ (.tail _ (.tail _ (.tail _ (.tail _ (.tail _ (.head _))))))))))) (subw_cons (.tail _ (.tail _ (.tail _ (.tail _ (.tail _ (.tail _ (.tail _ (.tail _ (.tail _ (.tail _ (.tail _ (.head _)))))))))))) (subw_cons (.tail _ (.tail _ (.tail _ (.tail _ (.tail _ (.tail _ (.tail _ (.tail _ (.tail _ (.tail _ (.tail _ (.tail _ (.head _))))))))))))) (subw_cons (.tail _ (.tail _ (.tail _ (.tail _ (.tail _ (.tail _ (.tail _ (.tail _ (.tail _ (.tail _ (.tail _ (.tail _ (.tail _ (.head _)))))))))))))) (subw_cons (.tail _ (.tail _ (.tail _ (.tail _ (.tail _ (.tail _ (.tail _ (.tail _ (.tail _ (.tail _ (.tail _ (.tail _ (.tail _ (.tail _ (.head _))))))))))))))) (subw_cons (.tail _ (.tail _ (.tail _ (.tail _ (.tail _ (.tail _ (.tail _ (.tail _ (.tail _ (.tail _ (.tail _ (.tail _ (.tail _ (.tail _ (.tail _ (.head _)))))))))))))))) subw_nil)))))))))))) h_q2 g_q3
          refine par_bind (fr_RR_walkedBy (eqo_rfl _ _)) fun q4 g_q4 => ?_
          have h_q4 := eqo_tr (subw_cons (.tail _ (.tail _ (.tail _ (.tail _ (.head _))))) (subw_cons (.tail _ (.tail _ (.tail _ (.tail _ (.tail _ (.head _)))))) (subw_cons (.tail _ (.tail _ (.tail _ (.tail _ (.tail _ (.tail _ (.head _))))))) (subw_cons (.tail _ (.tail _ (.tail _ (.tail _ (.tail _ (.tail _ (.tail _ (.head _)))))))) (subw_cons (.tail _ (.tail _ (.tail _ (.tail _ (.tail _ (.tail _ (.tail _ (.tail _ (.head _))))))))) (subw_cons (.tail _ (.tail _ (.tail _ (.tail _ (.tail _ (.tail _ (.tail _ (.tail _ (.tail _ (.tail _ (.tail _ (.tail _ (.tail _ (.head _)))))))))))))) (subw_cons (.tail _ (.tail _ (.tail _ (.tail _ (.tail _ (.tail _ (.tail _ (.tail _ (.tail _ (.tail _ (.tail _ (.tail _ (.tail _ (.tail _ (.tail _ (.head _)))))))))))))))) subw_nil))))))) h_q3 g_q4
          refine par_ite ?_ ?_
          · exact par_some h_q4
          · refine par_ite ?_ ?_
            · refine par_bind (fr_P_hoursOf (eqo_rfl _ _)) fun q5 g_q5 => ?_
              have h_q5 := eqo_tr subw_nil h_q4 g_q5
              exact par_some h_q5
            · exact par_some h_q4
        · exact par_some h_q2
theorem fr_O_walk {f : Nat} {l1 : Int} {M : oM} {B : oM} (h_M : eqo [(1, 1), (1, 2), (1, 3), (1, 4), (6, 3), (6, 4), (6, 5), (6, 6), (6, 7), (7, (-1)), (9, (-1)), (39, 2), (40, (-1))] B M) : par (p_O_walk f l1 M) (fun s => eqo [(1, 1), (1, 2), (1, 3), (1, 4), (6, 3), (6, 4), (6, 5), (6, 6), (6, 7), (7, (-1)), (9, (-1)), (39, 2), (40, (-1))] B s.2) := by
  unfold p_O_walk
  refine par_bind (fr_T_opens (eqo_rfl _ _)) fun q1 g_q1 => ?_
  have h_q1 := eqo_tr (subw_cons (.tail _ (.head _)) (subw_cons (.tail _ (.tail _ (.head _))) (subw_cons (.tail _ (.tail _ (.tail _ (.head _)))) subw_nil))) h_M g_q1
  refine par_ite ?_ ?_
  · exact par_some h_q1
  · refine par_bind (fr_O_readRoute (eqo_rfl _ _)) fun q2 g_q2 => ?_
    have h_q2 := eqo_tr (subw_cons (.head _) (subw_cons (.tail _ (.tail _ (.head _))) (subw_cons (.tail _ (.tail _ (.tail _ (.head _)))) (subw_cons (.tail _ (.tail _ (.tail _ (.tail _ (.tail _ (.tail _ (.tail _ (.tail _ (.tail _ (.tail _ (.tail _ (.head _)))))))))))) (subw_cons (.tail _ (.tail _ (.tail _ (.tail _ (.tail _ (.tail _ (.tail _ (.tail _ (.tail _ (.tail _ (.tail _ (.tail _ (.head _))))))))))))) subw_nil))))) h_q1 g_q2
    refine par_ite ?_ ?_
    · refine par_bind (fr_RR_walkedBy (eqo_rfl _ _)) fun q3 g_q3 => ?_
      have h_q3 := eqo_tr (subw_cons (.tail _ (.tail _ (.tail _ (.tail _ (.head _))))) (subw_cons (.tail _ (.tail _ (.tail _ (.tail _ (.tail _ (.head _)))))) (subw_cons (.tail _ (.tail _ (.tail _ (.tail _ (.tail _ (.tail _ (.head _))))))) (subw_cons (.tail _ (.tail _ (.tail _ (.tail _ (.tail _ (.tail _ (.tail _ (.head _)))))))) (subw_cons (.tail _ (.tail _ (.tail _ (.tail _ (.tail _ (.tail _ (.tail _ (.tail _ (.head _))))))))) (subw_cons (.tail _ (.tail _ (.tail _ (.tail _ (.tail _ (.tail _ (.tail _ (.tail _ (.tail _ (.head _)))))))))) (subw_cons (.tail _ (.tail _ (.tail _ (.tail _ (.tail _ (.tail _ (.tail _ (.tail _ (.tail _ (.tail _ (.head _))))))))))) subw_nil))))))) h_q2 g_q3
      exact par_some h_q3
    · exact par_some h_q2
theorem fr_R_paidBy_B27_4 {f : Nat} {o0 : Nat} {l1 : Int} {l2 : Int} {l3 : Int} {M : oM} {B : oM} (h_M : eqo [] B M) : par (p_R_paidBy_B27_4 f o0 l1 l2 l3 M) (psum (fun s => eqo [] B s.2.2) (fun s => eqo [] B s.2)) := by
  unfold p_R_paidBy_B27_4
  refine par_ltI fun x1 => ?_
  exact par_some h_M
theorem fr_R_paidBy_L4 {f : Nat} {o0 : Nat} {l1 : Int} {B : oM} : ∀ (s : Int × Int × oM), (fun s => eqo [] B s.2.2) s → par (p_R_paidBy_L4 f o0 l1 s) (psum (fun s => eqo [] B s.2.2) (fun s => eqo [] B s.2)) := by
  intro s hs
  obtain ⟨l2, l3, M⟩ := s
  have h_M : eqo [] B M := hs
  unfold p_R_paidBy_L4
  refine par_ite ?_ ?_
  · refine par_bnd fun i2 => ?_
    refine par_ite ?_ ?_
    · refine par_ltI fun x3 => ?_
      exact fr_R_paidBy_B27_4 h_M
    · exact fr_R_paidBy_B27_4 h_M
  · exact par_some h_M
theorem fr_R_paidBy {f : Nat} {o0 : Nat} {l1 : Int} {M : oM} {B : oM} (h_M : eqo [] B M) : par (p_R_paidBy f o0 l1 M) (fun s => eqo [] B s.2) := by
  unfold p_R_paidBy
  exact par_iter (fun s hs => fr_R_paidBy_L4 s hs) _ h_M
theorem fr_R_reachedFrom_X33 {f : Nat} {o0 : Nat} {l3 : Int} {l4 : Int} {l5 : Int} {B : oM} : ∀ (s : Int × oM), (fun s => eqo [] B s.2) s → par (p_R_reachedFrom_X33 f o0 l3 l4 l5 s) (psum (fun s => eqo [] B s.2.2.2) (fun s => eqo [] B s.2)) := by
  intro s hs
  obtain ⟨l2, M⟩ := s
  have h_M : eqo [] B M := hs
  unfold p_R_reachedFrom_X33
  refine par_ltI fun x1 => ?_
  exact par_some h_M
theorem fr_R_reachedFrom_B60_33 {f : Nat} {o0 : Nat} {l2 : Int} {l3 : Int} {l4 : Int} {l5 : Int} {l6 : Int} {M : oM} {B : oM} (h_M : eqo [] B M) : par (p_R_reachedFrom_B60_33 f o0 l2 l3 l4 l5 l6 M) (psum (fun s => eqo [] B s.2.2) (fun s => eqo [] B s.2)) := by
  unfold p_R_reachedFrom_B60_33
  refine par_ltI fun x2 => ?_
  exact par_some h_M
theorem fr_R_reachedFrom_L33 {f : Nat} {o0 : Nat} {l3 : Int} {l4 : Int} {l5 : Int} {B : oM} : ∀ (s : Int × Int × oM), (fun s => eqo [] B s.2.2) s → par (p_R_reachedFrom_L33 f o0 l3 l4 l5 s) (psum (fun s => eqo [] B s.2.2) (fun s => eqo [] B s.2)) := by
  intro s hs
  obtain ⟨l2, l6, M⟩ := s
  have h_M : eqo [] B M := hs
  unfold p_R_reachedFrom_L33
  refine par_ite ?_ ?_
  · refine par_ite ?_ ?_
    · refine par_bind (fr_R_paidBy (eqo_rfl _ _)) fun q3 g_q3 => ?_
      have h_q3 := eqo_tr subw_nil h_M g_q3
      refine par_ltI fun x4 => ?_
      exact fr_R_reachedFrom_B60_33 h_q3
    · exact fr_R_reachedFrom_B60_33 h_M
  · exact par_some h_M
theorem fr_R_reachedFrom_L9 {f : Nat} {o0 : Nat} {B : oM} : ∀ (s : Int × Int × Int × oM), (fun s => eqo [] B s.2.2.2) s → par (p_R_reachedFrom_L9 f o0 s) (psum (fun s => eqo [] B s.2.2.2) (fun s => eqo [] B s.2)) := by
  intro s hs
  obtain ⟨l2, l3, l4, M⟩ := s
  have h_M : eqo [] B M := hs
  unfold p_R_reachedFrom_L9
  refine par_ite ?_ ?_
  · refine par_ite ?_ ?_
    · exact par_some h_M
    · refine par_ltI fun x5 => ?_
      exact par_bind (par_iter (fun s hs => fr_R_reachedFrom_L33 s hs) _ h_M) fun s hs => fr_R_reachedFrom_X33 s hs
  · exact par_some h_M
theorem fr_R_reachedFrom {f : Nat} {o0 : Nat} {l1 : Int} {M : oM} {B : oM} (h_M : eqo [] B M) : par (p_R_reachedFrom f o0 l1 M) (fun s => eqo [] B s.2) := by
  unfold p_R_reachedFrom
  refine par_ltI fun x6 => ?_
  exact par_iter (fun s hs => fr_R_reachedFrom_L9 s hs) _ h_M
theorem fr_R_isOneRow_B93_4 {f : Nat} {o0 : Nat} {l1 : Int} {l3 : Int} {s0 : Int} {s1 : Int} {M : oM} {B : oM} (h_M : eqo [] B M) : par (p_R_isOneRow_B93_4 f o0 l1 l3 s0 s1 M) (psum (fun s => eqo [] B s.2.2) (fun s => eqo [] B s.2)) := by
  unfold p_R_isOneRow_B93_4
  refine par_ltI fun x1 => ?_
  refine par_ltI fun x2 => ?_
  exact par_some h_M
theorem fr_R_isOneRow_B74_4 {f : Nat} {o0 : Nat} {l1 : Int} {l2 : Int} {l3 : Int} {l4 : Int} {s0 : Int} {s1 : Int} {s2 : Int} {M : oM} {B : oM} (h_M : eqo [] B M) : par (p_R_isOneRow_B74_4 f o0 l1 l2 l3 l4 s0 s1 s2 M) (psum (fun s => eqo [] B s.2.2) (fun s => eqo [] B s.2)) := by
  unfold p_R_isOneRow_B74_4
  refine par_ite ?_ ?_
  · exact par_some h_M
  · refine par_ite ?_ ?_
    · exact fr_R_isOneRow_B93_4 h_M
    · exact fr_R_isOneRow_B93_4 h_M
theorem fr_R_isOneRow_X19 {f : Nat} {o0 : Nat} {l1 : Int} {l2 : Int} {l3 : Int} {B : oM} : ∀ (s : Int × Int × oM), (fun s => eqo [] B s.2.2) s → par (p_R_isOneRow_X19 f o0 l1 l2 l3 s) (psum (fun s => eqo [] B s.2.2) (fun s => eqo [] B s.2)) := by
  intro s hs
  obtain ⟨l4, l5, M⟩ := s
  have h_M : eqo [] B M := hs
  unfold p_R_isOneRow_X19
  refine par_ite ?_ ?_
  · exact fr_R_isOneRow_B74_4 h_M
  · exact fr_R_isOneRow_B74_4 h_M
theorem fr_R_isOneRow_L19 {f : Nat} {o0 : Nat} {l1 : Int} {l2 : Int} {l3 : Int} {B : oM} : ∀ (s : Int × Int × Int × oM), (fun s => eqo [] B s.2.2.2) s → par (p_R_isOneRow_L19 f o0 l1 l2 l3 s) (psum (fun s => eqo [] B s.2.2.2) (fun s => eqo [] B s.2.2)) := by
  intro s hs
  obtain ⟨l4, l5, l6, M⟩ := s
  have h_M : eqo [] B M := hs
  unfold p_R_isOneRow_L19
  refine par_ite ?_ ?_
  · refine par_bnd fun i3 => ?_
    refine par_ltI fun x4 => ?_
    refine par_bnd fun i5 => ?_
    refine par_ltI fun x6 => ?_
    refine par_ltI fun x7 => ?_
    exact par_some h_M
  · exact par_some h_M
theorem fr_R_isOneRow_L4 {f : Nat} {o0 : Nat} {l1 : Int} {B : oM} : ∀ (s : Int × Int × oM), (fun s => eqo [] B s.2.2) s → par (p_R_isOneRow_L4 f o0 l1 s) (psum (fun s => eqo [] B s.2.2) (fun s => eqo [] B s.2)) := by
  intro s hs
  obtain ⟨l2, l3, M⟩ := s
  have h_M : eqo [] B M := hs
  unfold p_R_isOneRow_L4
  refine par_ite ?_ ?_
  · exact par_bind (par_iter (fun s hs => fr_R_isOneRow_L19 s hs) _ h_M) fun s hs => fr_R_isOneRow_X19 s hs
  · refine par_bind (fr_R_reachedFrom (eqo_rfl _ _)) fun q8 g_q8 => ?_
    have h_q8 := eqo_tr subw_nil h_M g_q8
    refine par_ite ?_ ?_
    · exact par_some h_q8
    · exact par_some h_q8
theorem fr_R_isOneRow {f : Nat} {o0 : Nat} {l1 : Int} {M : oM} {B : oM} (h_M : eqo [] B M) : par (p_R_isOneRow f o0 l1 M) (fun s => eqo [] B s.2) := by
  unfold p_R_isOneRow
  exact par_iter (fun s hs => fr_R_isOneRow_L4 s hs) _ h_M
theorem fr_R_leastNext_B57_2 {f : Nat} {l1 : Int} {l2 : Int} {M : oM} {B : oM} (h_M : eqo [(43, (-1))] B M) : par (p_R_leastNext_B57_2 f l1 l2 M) (psum (fun s => eqo [(43, (-1))] B s.2) (fun s => eqo [(43, (-1))] B s.2)) := by
  unfold p_R_leastNext_B57_2
  refine par_ltI fun x1 => ?_
  exact par_some h_M
theorem fr_R_leastNext_L2 {f : Nat} {l1 : Int} {B : oM} : ∀ (s : Int × oM), (fun s => eqo [(43, (-1))] B s.2) s → par (p_R_leastNext_L2 f l1 s) (psum (fun s => eqo [(43, (-1))] B s.2) (fun s => eqo [(43, (-1))] B s.2)) := by
  intro s hs
  obtain ⟨l2, M⟩ := s
  have h_M : eqo [(43, (-1))] B M := hs
  unfold p_R_leastNext_L2
  refine par_ite ?_ ?_
  · refine par_ltI fun x2 => ?_
    refine par_bnd fun i3 => ?_
    refine par_ite ?_ ?_
    · refine par_bnd fun i4 => ?_
      refine par_bnd fun i5 => ?_
      refine par_lt (eqo_oUa (.head _) h_M) fun M6 h_M6 => ?_
      refine par_bind (fr_R_isOneRow (eqo_rfl _ _)) fun q7 g_q7 => ?_
      have h_q7 := eqo_tr subw_nil h_M6 g_q7
      refine par_ite ?_ ?_
      · refine par_bnd fun i8 => ?_
        refine par_bnd fun i9 => ?_
        refine par_lt (eqo_oUa (.head _) h_q7) fun M10 h_M10 => ?_
        exact fr_R_leastNext_B57_2 h_M10
      · exact par_some h_q7
    · exact fr_R_leastNext_B57_2 h_M
  · exact par_some h_M
theorem fr_R_leastNext {f : Nat} {l1 : Int} {M : oM} {B : oM} (h_M : eqo [(43, (-1))] B M) : par (p_R_leastNext f l1 M) (fun s => eqo [(43, (-1))] B s.2) := by
  unfold p_R_leastNext
  exact par_iter (fun s hs => fr_R_leastNext_L2 s hs) _ h_M
theorem fr_R_planTour_L18 {f : Nat} {l3 : Int} {B : oM} : ∀ (s : Int × Int × oM), (fun s => eqo [(43, (-1)), (47, (-1))] B s.2.2) s → par (p_R_planTour_L18 f l3 s) (psum (fun s => eqo [(43, (-1)), (47, (-1))] B s.2.2) (fun s => eqo [(43, (-1)), (47, (-1))] B s.2)) := by
  intro s hs
  obtain ⟨l4, l5, M⟩ := s
  have h_M : eqo [(43, (-1)), (47, (-1))] B M := hs
  unfold p_R_planTour_L18
  refine par_ite ?_ ?_
  · refine par_ite ?_ ?_
    · refine par_bind (fr_R_leastNext (eqo_rfl _ _)) fun q1 g_q1 => ?_
      have h_q1 := eqo_tr (subw_cons (.head _) subw_nil) h_M g_q1
      refine par_ite ?_ ?_
      · exact par_some h_q1
      · refine par_bnd fun i2 => ?_
        refine par_lt (eqo_oUa (.tail _ (.head _)) h_q1) fun M3 h_M3 => ?_
        refine par_ltI fun x4 => ?_
        exact par_some h_M3
    · exact par_some h_M
  · exact par_some h_M
theorem fr_R_planTour {f : Nat} {l2 : Int} {l3 : Int} {M : oM} {B : oM} (h_M : eqo [(43, (-1)), (47, (-1))] B M) : par (p_R_planTour f l2 l3 M) (fun s => eqo [(43, (-1)), (47, (-1))] B s.2) := by
  unfold p_R_planTour
  refine par_cpg ?_
  refine par_lt (eqo_ac (.head _) h_M) fun M5 h_M5 => ?_
  exact par_iter (fun s hs => fr_R_planTour_L18 s hs) _ h_M5
theorem fr_O_tour_B184 {f : Nat} {M : oM} {B : oM} (h_M : eqo [(43, (-1)), (47, (-1))] B M) : par (p_O_tour_B184 f M) (fun s => eqo [(43, (-1)), (47, (-1))] B s.2) := by
  unfold p_O_tour_B184
  exact par_some h_M
theorem fr_O_tour_B131 {f : Nat} {l1 : Int} {l3 : Int} {M : oM} {B : oM} (h_M : eqo [(43, (-1)), (47, (-1))] B M) : par (p_O_tour_B131 f l1 l3 M) (fun s => eqo [(43, (-1)), (47, (-1))] B s.2) := by
  unfold p_O_tour_B131
  refine par_bind (fr_R_planTour (eqo_rfl _ _)) fun q1 g_q1 => ?_
  have h_q1 := eqo_tr (subw_cons (.head _) (subw_cons (.tail _ (.head _)) subw_nil)) h_M g_q1
  refine par_ite ?_ ?_
  · refine par_ite ?_ ?_
    · exact fr_O_tour_B184 h_q1
    · refine par_bnd fun i3 => ?_
      refine par_ite ?_ ?_
      · exact fr_O_tour_B184 h_q1
      · exact par_some h_q1
  · refine par_bnd fun i2 => ?_
    exact par_some h_q1
theorem fr_O_tour_B40 {f : Nat} {l1 : Int} {l2 : Int} {M : oM} {B : oM} (h_M : eqo [(43, (-1)), (47, (-1))] B M) : par (p_O_tour_B40 f l1 l2 M) (fun s => eqo [(43, (-1)), (47, (-1))] B s.2) := by
  unfold p_O_tour_B40
  refine par_ite ?_ ?_
  · exact par_some h_M
  · refine par_bind (fr_D_owedInAll (eqo_rfl _ _)) fun q4 g_q4 => ?_
    have h_q4 := eqo_tr subw_nil h_M g_q4
    refine par_ite ?_ ?_
    · exact par_some h_q4
    · refine par_ite ?_ ?_
      · exact par_some h_q4
      · refine par_bind (fr_R_isOneRow (eqo_rfl _ _)) fun q5 g_q5 => ?_
        have h_q5 := eqo_tr subw_nil h_q4 g_q5
        refine par_ite ?_ ?_
        · refine par_ite ?_ ?_
          · exact par_some h_q5
          · exact par_some h_q5
        · refine par_ite ?_ ?_
          · exact par_some h_q5
          · refine par_ite ?_ ?_
            · exact fr_O_tour_B131 h_q5
            · refine par_ite ?_ ?_
              · exact fr_O_tour_B131 h_q5
              · exact par_some h_q5
theorem fr_O_tour_B15 {f : Nat} {l1 : Int} {s0 : Int} {M : oM} {B : oM} (h_M : eqo [(43, (-1)), (47, (-1))] B M) : par (p_O_tour_B15 f l1 s0 M) (fun s => eqo [(43, (-1)), (47, (-1))] B s.2) := by
  unfold p_O_tour_B15
  refine par_ite ?_ ?_
  · refine par_ite ?_ ?_
    · exact fr_O_tour_B40 h_M
    · refine par_ite ?_ ?_
      · exact fr_O_tour_B40 h_M
      · refine par_ite ?_ ?_
        · exact fr_O_tour_B40 h_M
        · exact par_some h_M
  · exact fr_O_tour_B40 h_M
theorem fr_O_tour_B14 {f : Nat} {l1 : Int} {M : oM} {B : oM} (h_M : eqo [(43, (-1)), (47, (-1))] B M) : par (p_O_tour_B14 f l1 M) (fun s => eqo [(43, (-1)), (47, (-1))] B s.2) := by
  unfold p_O_tour_B14
  exact fr_O_tour_B15 h_M
theorem fr_O_tour {f : Nat} {l1 : Int} {M : oM} {B : oM} (h_M : eqo [(43, (-1)), (47, (-1))] B M) : par (p_O_tour f l1 M) (fun s => eqo [(43, (-1)), (47, (-1))] B s.2) := by
  unfold p_O_tour
  refine par_ite ?_ ?_
  · exact fr_O_tour_B14 h_M
  · refine par_ite ?_ ?_
    · exact fr_O_tour_B15 h_M
    · exact fr_O_tour_B14 h_M
theorem fr_R_lengthen_B97_36 {f : Nat} {l1 : Int} {l2 : Int} {l3 : Int} {M : oM} {rec : Int → Int → oM → Option (Int × oM)} {B : oM} (hrec : ∀ (a0 a1 : Int) (B : oM), par (rec a0 a1 B) (fun s => eqo [(42, 7), (43, (-1)), (47, (-1)), (48, (-1))] B s.2)) (h_M : eqo [(42, 7), (43, (-1)), (47, (-1)), (48, (-1))] B M) : par (p_R_lengthen_B97_36 f rec l1 l2 l3 M) (psum (fun s => eqo [(42, 7), (43, (-1)), (47, (-1)), (48, (-1))] B s.2) (fun s => eqo [(42, 7), (43, (-1)), (47, (-1)), (48, (-1))] B s.2)) := by
  unfold p_R_lengthen_B97_36
  refine par_ltI fun x1 => ?_
  exact par_some h_M
theorem fr_R_lengthen_L36 {f : Nat} {l1 : Int} {l2 : Int} {rec : Int → Int → oM → Option (Int × oM)} {B : oM} (hrec : ∀ (a0 a1 : Int) (B : oM), par (rec a0 a1 B) (fun s => eqo [(42, 7), (43, (-1)), (47, (-1)), (48, (-1))] B s.2)) : ∀ (s : Int × oM), (fun s => eqo [(42, 7), (43, (-1)), (47, (-1)), (48, (-1))] B s.2) s → par (p_R_lengthen_L36 f rec l1 l2 s) (psum (fun s => eqo [(42, 7), (43, (-1)), (47, (-1)), (48, (-1))] B s.2) (fun s => eqo [(42, 7), (43, (-1)), (47, (-1)), (48, (-1))] B s.2)) := by
  intro s hs
  obtain ⟨l3, M⟩ := s
  have h_M : eqo [(42, 7), (43, (-1)), (47, (-1)), (48, (-1))] B M := hs
  unfold p_R_lengthen_L36
  refine par_ite ?_ ?_
  · refine par_ltI fun x2 => ?_
    refine par_bnd fun i3 => ?_
    refine par_ite ?_ ?_
    · refine par_bnd fun i4 => ?_
      refine par_bnd fun i5 => ?_
      refine par_lt (eqo_oUa (.tail _ (.head _)) h_M) fun M6 h_M6 => ?_
      refine par_bnd fun i7 => ?_
      refine par_lt (eqo_oUa (.tail _ (.tail _ (.head _))) h_M6) fun M8 h_M8 => ?_
      refine par_bind (hrec _ _ _) fun q9 g_q9 => ?_
      have h_q9 := eqo_tr (subw_cons (.head _) (subw_cons (.tail _ (.head _)) (subw_cons (.tail _ (.tail _ (.head _))) (subw_cons (.tail _ (.tail _ (.tail _ (.head _)))) subw_nil)))) h_M8 g_q9
      refine par_bnd fun i10 => ?_
      refine par_bnd fun i11 => ?_
      refine par_lt (eqo_oUa (.tail _ (.head _)) h_q9) fun M12 h_M12 => ?_
      exact fr_R_lengthen_B97_36 hrec h_M12
    · exact fr_R_lengthen_B97_36 hrec h_M
  · exact par_some h_M
theorem fr_R_lengthen_B27 {f : Nat} {l1 : Int} {l2 : Int} {M : oM} {rec : Int → Int → oM → Option (Int × oM)} {B : oM} (hrec : ∀ (a0 a1 : Int) (B : oM), par (rec a0 a1 B) (fun s => eqo [(42, 7), (43, (-1)), (47, (-1)), (48, (-1))] B s.2)) (h_M : eqo [(42, 7), (43, (-1)), (47, (-1)), (48, (-1))] B M) : par (p_R_lengthen_B27 f rec l1 l2 M) (fun s => eqo [(42, 7), (43, (-1)), (47, (-1)), (48, (-1))] B s.2) := by
  unfold p_R_lengthen_B27
  refine par_ite ?_ ?_
  · exact par_iter (fun s hs => fr_R_lengthen_L36 hrec s hs) _ h_M
  · exact par_some h_M
theorem fr_R_lengthen_F {f : Nat} {l1 : Int} {l2 : Int} {M : oM} {rec : Int → Int → oM → Option (Int × oM)} {B : oM} (hrec : ∀ (a0 a1 : Int) (B : oM), par (rec a0 a1 B) (fun s => eqo [(42, 7), (43, (-1)), (47, (-1)), (48, (-1))] B s.2)) (h_M : eqo [(42, 7), (43, (-1)), (47, (-1)), (48, (-1))] B M) : par (p_R_lengthen_F f rec l1 l2 M) (fun s => eqo [(42, 7), (43, (-1)), (47, (-1)), (48, (-1))] B s.2) := by
  unfold p_R_lengthen_F
  refine par_ite ?_ ?_
  · refine par_lt (eqo_oU (.head _) h_M) fun M13 h_M13 => ?_
    refine par_cpg ?_
    refine par_lt (eqo_ac (.tail _ (.tail _ (.tail _ (.head _)))) h_M13) fun M14 h_M14 => ?_
    exact fr_R_lengthen_B27 hrec h_M14
  · exact fr_R_lengthen_B27 hrec h_M
theorem fr_R_lengthen {f : Nat} : ∀ (n : Nat) (a0 a1 : Int) (B : oM), par (p_R_lengthen f n a0 a1 B) (fun s => eqo [(42, 7), (43, (-1)), (47, (-1)), (48, (-1))] B s.2) := by
  intro n
  induction n with
  | zero => intro a0 a1 B; exact par_none
  | succ n ih => intro a0 a1 B; exact fr_R_lengthen_F (fun a0 a1 B => ih a0 a1 B) (eqo_rfl _ _)
theorem fr_R_planMost {f : Nat} {l2 : Int} {M : oM} {B : oM} (h_M : eqo [(42, 7), (43, (-1)), (47, (-1)), (48, (-1))] B M) : par (p_R_planMost f l2 M) (fun s => eqo [(42, 7), (43, (-1)), (47, (-1)), (48, (-1))] B s.2) := by
  unfold p_R_planMost
  refine par_cpg ?_
  refine par_lt (eqo_ac (.tail _ (.head _)) h_M) fun M1 h_M1 => ?_
  refine par_lt (eqo_oU (.head _) h_M1) fun M2 h_M2 => ?_
  refine par_bind (fr_R_lengthen _ _ _ _) fun q3 g_q3 => ?_
  have h_q3 := eqo_tr (subw_cons (.head _) (subw_cons (.tail _ (.head _)) (subw_cons (.tail _ (.tail _ (.head _))) (subw_cons (.tail _ (.tail _ (.tail _ (.head _)))) subw_nil)))) h_M2 g_q3
  exact par_some h_q3
theorem fr_O_most_B28 {f : Nat} {l1 : Int} {l2 : Int} {M : oM} {B : oM} (h_M : eqo [(42, 7), (43, (-1)), (47, (-1)), (48, (-1))] B M) : par (p_O_most_B28 f l1 l2 M) (fun s => eqo [(42, 7), (43, (-1)), (47, (-1)), (48, (-1))] B s.2) := by
  unfold p_O_most_B28
  refine par_ite ?_ ?_
  · exact par_some h_M
  · refine par_bind (fr_D_owedInAll (eqo_rfl _ _)) fun q1 g_q1 => ?_
    have h_q1 := eqo_tr subw_nil h_M g_q1
    refine par_ite ?_ ?_
    · exact par_some h_q1
    · refine par_bind (fr_R_planMost (eqo_rfl _ _)) fun q2 g_q2 => ?_
      have h_q2 := eqo_tr (subw_cons (.head _) (subw_cons (.tail _ (.head _)) (subw_cons (.tail _ (.tail _ (.head _))) (subw_cons (.tail _ (.tail _ (.tail _ (.head _)))) subw_nil)))) h_q1 g_q2
      refine par_ite ?_ ?_
      · exact par_some h_q2
      · refine par_ite ?_ ?_
        · exact par_some h_q2
        · refine par_ite ?_ ?_
          · refine par_bnd fun i3 => ?_
            exact par_some h_q2
          · exact par_some h_q2
theorem fr_O_most_B15 {f : Nat} {l1 : Int} {s0 : Int} {M : oM} {B : oM} (h_M : eqo [(42, 7), (43, (-1)), (47, (-1)), (48, (-1))] B M) : par (p_O_most_B15 f l1 s0 M) (fun s => eqo [(42, 7), (43, (-1)), (47, (-1)), (48, (-1))] B s.2) := by
  unfold p_O_most_B15
  refine par_ite ?_ ?_
  · refine par_ite ?_ ?_
    · exact fr_O_most_B28 h_M
    · exact par_some h_M
  · exact fr_O_most_B28 h_M
theorem fr_O_most_B14 {f : Nat} {l1 : Int} {M : oM} {B : oM} (h_M : eqo [(42, 7), (43, (-1)), (47, (-1)), (48, (-1))] B M) : par (p_O_most_B14 f l1 M) (fun s => eqo [(42, 7), (43, (-1)), (47, (-1)), (48, (-1))] B s.2) := by
  unfold p_O_most_B14
  exact fr_O_most_B15 h_M
theorem fr_O_most {f : Nat} {l1 : Int} {M : oM} {B : oM} (h_M : eqo [(42, 7), (43, (-1)), (47, (-1)), (48, (-1))] B M) : par (p_O_most f l1 M) (fun s => eqo [(42, 7), (43, (-1)), (47, (-1)), (48, (-1))] B s.2) := by
  unfold p_O_most
  refine par_ite ?_ ?_
  · exact fr_O_most_B14 h_M
  · refine par_ite ?_ ?_
    · exact fr_O_most_B15 h_M
    · exact fr_O_most_B14 h_M
theorem fr_R_wayBack_X22 {f : Nat} {l2 : Int} {l3 : Int} {l4 : Int} {B : oM} : ∀ (s : oM), (fun s => eqo [(46, (-1))] B s) s → par (p_R_wayBack_X22 f l2 l3 l4 s) (psum (fun s => eqo [(46, (-1))] B s.2) (fun s => eqo [(46, (-1))] B s.2)) := by
  intro s hs
  revert s hs
  intro M hs
  have h_M : eqo [(46, (-1))] B M := hs
  unfold p_R_wayBack_X22
  refine par_ltI fun x1 => ?_
  exact par_some h_M
theorem fr_R_wayBack_B108_22 {f : Nat} {l2 : Int} {l3 : Int} {l4 : Int} {l5 : Int} {M : oM} {B : oM} (h_M : eqo [(46, (-1))] B M) : par (p_R_wayBack_B108_22 f l2 l3 l4 l5 M) (psum (fun s => eqo [(46, (-1))] B s.2) (fun s => eqo [(46, (-1))] B s)) := by
  unfold p_R_wayBack_B108_22
  refine par_ltI fun x2 => ?_
  exact par_some h_M
theorem fr_R_wayBack_B103_22 {f : Nat} {l2 : Int} {l3 : Int} {l4 : Int} {l5 : Int} {s1 : Int} {s2 : Int} {s3 : Int} {s4 : Int} {M : oM} {B : oM} (h_M : eqo [(46, (-1))] B M) : par (p_R_wayBack_B103_22 f l2 l3 l4 l5 s1 s2 s3 s4 M) (psum (fun s => eqo [(46, (-1))] B s.2) (fun s => eqo [(46, (-1))] B s)) := by
  unfold p_R_wayBack_B103_22
  refine par_bnd fun i3 => ?_
  refine par_lt (eqo_oUa (.head _) h_M) fun M4 h_M4 => ?_
  exact fr_R_wayBack_B108_22 h_M4
theorem fr_R_wayBack_B67_22 {f : Nat} {l2 : Int} {l3 : Int} {l4 : Int} {l5 : Int} {l6 : Int} {l7 : Int} {s0 : Int} {M : oM} {B : oM} (h_M : eqo [(46, (-1))] B M) : par (p_R_wayBack_B67_22 f l2 l3 l4 l5 l6 l7 s0 M) (psum (fun s => eqo [(46, (-1))] B s.2) (fun s => eqo [(46, (-1))] B s)) := by
  unfold p_R_wayBack_B67_22
  refine par_bnd fun i5 => ?_
  refine par_ite ?_ ?_
  · exact fr_R_wayBack_B103_22 h_M
  · refine par_bind (fr_P_way (eqo_rfl _ _)) fun q6 g_q6 => ?_
    have h_q6 := eqo_tr subw_nil h_M g_q6
    exact fr_R_wayBack_B103_22 h_q6
theorem fr_R_wayBack_L22 {f : Nat} {l2 : Int} {l3 : Int} {l4 : Int} {B : oM} : ∀ (s : Int × oM), (fun s => eqo [(46, (-1))] B s.2) s → par (p_R_wayBack_L22 f l2 l3 l4 s) (psum (fun s => eqo [(46, (-1))] B s.2) (fun s => eqo [(46, (-1))] B s)) := by
  intro s hs
  obtain ⟨l5, M⟩ := s
  have h_M : eqo [(46, (-1))] B M := hs
  unfold p_R_wayBack_L22
  refine par_ite ?_ ?_
  · refine par_nz fun z7 => ?_
    refine par_ltI fun x8 => ?_
    refine par_nz fun z9 => ?_
    refine par_ltI fun x10 => ?_
    refine par_bnd fun i11 => ?_
    refine par_ite ?_ ?_
    · refine par_ite ?_ ?_
      · exact fr_R_wayBack_B67_22 h_M
      · refine par_bnd fun i12 => ?_
        exact fr_R_wayBack_B67_22 h_M
    · exact fr_R_wayBack_B108_22 h_M
  · exact par_some h_M
theorem fr_R_wayBack_L12 {f : Nat} {l2 : Int} {l3 : Int} {B : oM} : ∀ (s : Int × oM), (fun s => eqo [(46, (-1))] B s.2) s → par (p_R_wayBack_L12 f l2 l3 s) (psum (fun s => eqo [(46, (-1))] B s.2) (fun s => eqo [(46, (-1))] B s.2)) := by
  intro s hs
  obtain ⟨l4, M⟩ := s
  have h_M : eqo [(46, (-1))] B M := hs
  unfold p_R_wayBack_L12
  refine par_ite ?_ ?_
  · exact par_bind (par_iter (fun s hs => fr_R_wayBack_L22 s hs) _ h_M) fun s hs => fr_R_wayBack_X22 s hs
  · refine par_bnd fun i13 => ?_
    exact par_some h_M
theorem fr_R_wayBack {f : Nat} {l2 : Int} {l3 : Int} {M : oM} {B : oM} (h_M : eqo [(46, (-1))] B M) : par (p_R_wayBack f l2 l3 M) (fun s => eqo [(46, (-1))] B s.2) := by
  unfold p_R_wayBack
  refine par_bind (fr_JA_fill (eqo_rfl _ _)) fun q14 g_q14 => ?_
  have h_q14 := eqo_tr (subw_cons (.head _) subw_nil) h_M g_q14
  exact par_iter (fun s hs => fr_R_wayBack_L12 s hs) _ h_q14
theorem fr_O_back_B44 {f : Nat} {s2 : Int} {s3 : Int} {M : oM} {B : oM} (h_M : eqo [(46, (-1))] B M) : par (p_O_back_B44 f s2 s3 M) (fun s => eqo [(46, (-1))] B s.2) := by
  unfold p_O_back_B44
  refine par_bind (fr_R_wayBack (eqo_rfl _ _)) fun q1 g_q1 => ?_
  have h_q1 := eqo_tr (subw_cons (.head _) subw_nil) h_M g_q1
  refine par_ite ?_ ?_
  · exact par_some h_q1
  · exact par_some h_q1
theorem fr_O_back_B22 {f : Nat} {l1 : Int} {l2 : Int} {M : oM} {B : oM} (h_M : eqo [(46, (-1))] B M) : par (p_O_back_B22 f l1 l2 M) (fun s => eqo [(46, (-1))] B s.2) := by
  unfold p_O_back_B22
  refine par_ite ?_ ?_
  · exact fr_O_back_B44 h_M
  · exact fr_O_back_B44 h_M
theorem fr_O_back {f : Nat} {l1 : Int} {l2 : Int} {M : oM} {B : oM} (h_M : eqo [(46, (-1))] B M) : par (p_O_back f l1 l2 M) (fun s => eqo [(46, (-1))] B s.2) := by
  unfold p_O_back
  refine par_bind (fr_P_has (eqo_rfl _ _)) fun q2 g_q2 => ?_
  have h_q2 := eqo_tr subw_nil h_M g_q2
  refine par_ite ?_ ?_
  · exact par_some h_q2
  · refine par_ite ?_ ?_
    · exact fr_O_back_B22 h_q2
    · refine par_ite ?_ ?_
      · exact fr_O_back_B22 h_q2
      · exact par_some h_q2
theorem fr_B_weigh_L2 {f : Nat} {B : oM} : ∀ (s : Int × oM), (fun s => eqo [(50, (-1))] B s.2) s → par (p_B_weigh_L2 f s) (psum (fun s => eqo [(50, (-1))] B s.2) (fun s => eqo [(50, (-1))] B s.2)) := by
  intro s hs
  obtain ⟨l2, M⟩ := s
  have h_M : eqo [(50, (-1))] B M := hs
  unfold p_B_weigh_L2
  refine par_ite ?_ ?_
  · refine par_bind (fr_D_owedTo (eqo_rfl _ _)) fun q1 g_q1 => ?_
    have h_q1 := eqo_tr subw_nil h_M g_q1
    refine par_bind (fr_D_owedBy (eqo_rfl _ _)) fun q2 g_q2 => ?_
    have h_q2 := eqo_tr subw_nil h_q1 g_q2
    refine par_bnd fun i3 => ?_
    refine par_lt (eqo_oUa (.head _) h_q2) fun M4 h_M4 => ?_
    refine par_ltI fun x5 => ?_
    exact par_some h_M4
  · exact par_some h_M
theorem fr_B_weigh {f : Nat} {M : oM} {B : oM} (h_M : eqo [(50, (-1))] B M) : par (p_B_weigh f M) (fun s => eqo [(50, (-1))] B s.2) := by
  unfold p_B_weigh
  exact par_iter (fun s hs => fr_B_weigh_L2 s hs) _ h_M
theorem fr_B_newDebts_L9 {f : Nat} {B : oM} : ∀ (s : Int × Int × oM), (fun s => eqo [(50, (-1))] B s.2.2) s → par (p_B_newDebts_L9 f s) (psum (fun s => eqo [(50, (-1))] B s.2.2) (fun s => eqo [(50, (-1))] B s.2)) := by
  intro s hs
  obtain ⟨l2, l3, M⟩ := s
  have h_M : eqo [(50, (-1))] B M := hs
  unfold p_B_newDebts_L9
  refine par_ite ?_ ?_
  · refine par_bnd fun i1 => ?_
    refine par_ltI fun x2 => ?_
    refine par_ltI fun x3 => ?_
    exact par_some h_M
  · exact par_some h_M
theorem fr_B_newDebts {f : Nat} {M : oM} {B : oM} (h_M : eqo [(50, (-1))] B M) : par (p_B_newDebts f M) (fun s => eqo [(50, (-1))] B s.2) := by
  unfold p_B_newDebts
  refine par_bind (fr_B_weigh (eqo_rfl _ _)) fun q4 g_q4 => ?_
  have h_q4 := eqo_tr (subw_cons (.head _) subw_nil) h_M g_q4
  exact par_iter (fun s hs => fr_B_newDebts_L9 s hs) _ h_q4
theorem fr_B_assign_B20 {f : Nat} {l3 : Int} {M : oM} {rec : Int → Int → Int → oM → Option (Int × oM)} {B : oM} (hrec : ∀ (a0 a1 a2 : Int) (B : oM), par (rec a0 a1 a2 B) (fun s => eqo [(49, 8), (50, (-1)), (53, (-1)), (54, (-1))] B s.2)) (h_M : eqo [(49, 8), (50, (-1)), (53, (-1)), (54, (-1))] B M) : par (p_B_assign_B20 f rec l3 M) (fun s => eqo [(49, 8), (50, (-1)), (53, (-1)), (54, (-1))] B s.2) := by
  unfold p_B_assign_B20
  refine par_lt (eqo_oU (.head _) h_M) fun M1 h_M1 => ?_
  refine par_cpg ?_
  refine par_lt (eqo_ac (.tail _ (.tail _ (.tail _ (.head _)))) h_M1) fun M2 h_M2 => ?_
  exact par_some h_M2
theorem fr_B_assign_B116_44 {f : Nat} {l1 : Int} {l2 : Int} {l3 : Int} {l4 : Int} {M : oM} {rec : Int → Int → Int → oM → Option (Int × oM)} {B : oM} (hrec : ∀ (a0 a1 a2 : Int) (B : oM), par (rec a0 a1 a2 B) (fun s => eqo [(49, 8), (50, (-1)), (53, (-1)), (54, (-1))] B s.2)) (h_M : eqo [(49, 8), (50, (-1)), (53, (-1)), (54, (-1))] B M) : par (p_B_assign_B116_44 f rec l1 l2 l3 l4 M) (psum (fun s => eqo [(49, 8), (50, (-1)), (53, (-1)), (54, (-1))] B s.2) (fun s => eqo [(49, 8), (50, (-1)), (53, (-1)), (54, (-1))] B s.2)) := by
  unfold p_B_assign_B116_44
  refine par_ltI fun x3 => ?_
  exact par_some h_M
theorem fr_B_assign_L44 {f : Nat} {l1 : Int} {l2 : Int} {l3 : Int} {rec : Int → Int → Int → oM → Option (Int × oM)} {B : oM} (hrec : ∀ (a0 a1 a2 : Int) (B : oM), par (rec a0 a1 a2 B) (fun s => eqo [(49, 8), (50, (-1)), (53, (-1)), (54, (-1))] B s.2)) : ∀ (s : Int × oM), (fun s => eqo [(49, 8), (50, (-1)), (53, (-1)), (54, (-1))] B s.2) s → par (p_B_assign_L44 f rec l1 l2 l3 s) (psum (fun s => eqo [(49, 8), (50, (-1)), (53, (-1)), (54, (-1))] B s.2) (fun s => eqo [(49, 8), (50, (-1)), (53, (-1)), (54, (-1))] B s.2)) := by
  intro s hs
  obtain ⟨l4, M⟩ := s
  have h_M : eqo [(49, 8), (50, (-1)), (53, (-1)), (54, (-1))] B M := hs
  unfold p_B_assign_L44
  refine par_ite ?_ ?_
  · refine par_bnd fun i4 => ?_
    refine par_ite ?_ ?_
    · refine par_bnd fun i5 => ?_
      refine par_bnd fun i6 => ?_
      refine par_lt (eqo_oUa (.tail _ (.head _)) h_M) fun M7 h_M7 => ?_
      refine par_bnd fun i8 => ?_
      refine par_lt (eqo_oUa (.tail _ (.tail _ (.head _))) h_M7) fun M9 h_M9 => ?_
      refine par_bnd fun i10 => ?_
      refine par_bind (fr_P_way (eqo_rfl _ _)) fun q11 g_q11 => ?_
      have h_q11 := eqo_tr subw_nil h_M9 g_q11
      refine par_bind (hrec _ _ _ _) fun q12 g_q12 => ?_
      have h_q12 := eqo_tr (subw_cons (.head _) (subw_cons (.tail _ (.head _)) (subw_cons (.tail _ (.tail _ (.head _))) (subw_cons (.tail _ (.tail _ (.tail _ (.head _)))) subw_nil)))) h_q11 g_q12
      refine par_bnd fun i13 => ?_
      refine par_bnd fun i14 => ?_
      refine par_lt (eqo_oUa (.tail _ (.head _)) h_q12) fun M15 h_M15 => ?_
      exact fr_B_assign_B116_44 hrec h_M15
    · exact fr_B_assign_B116_44 hrec h_M
  · exact par_some h_M
theorem fr_B_assign_F {f : Nat} {l1 : Int} {l2 : Int} {l3 : Int} {M : oM} {rec : Int → Int → Int → oM → Option (Int × oM)} {B : oM} (hrec : ∀ (a0 a1 a2 : Int) (B : oM), par (rec a0 a1 a2 B) (fun s => eqo [(49, 8), (50, (-1)), (53, (-1)), (54, (-1))] B s.2)) (h_M : eqo [(49, 8), (50, (-1)), (53, (-1)), (54, (-1))] B M) : par (p_B_assign_F f rec l1 l2 l3 M) (fun s => eqo [(49, 8), (50, (-1)), (53, (-1)), (54, (-1))] B s.2) := by
  unfold p_B_assign_F
  refine par_ite ?_ ?_
  · refine par_ite ?_ ?_
    · refine par_ite ?_ ?_
      · exact par_iter (fun s hs => fr_B_assign_L44 hrec s hs) _ h_M
      · exact fr_B_assign_B20 hrec h_M
    · exact fr_B_assign_B20 hrec h_M
  · exact par_some h_M
theorem fr_B_assign {f : Nat} : ∀ (n : Nat) (a0 a1 a2 : Int) (B : oM), par (p_B_assign f n a0 a1 a2 B) (fun s => eqo [(49, 8), (50, (-1)), (53, (-1)), (54, (-1))] B s.2) := by
  intro n
  induction n with
  | zero => intro a0 a1 a2 B; exact par_none
  | succ n ih => intro a0 a1 a2 B; exact fr_B_assign_F (fun a0 a1 a2 B => ih a0 a1 a2 B) (eqo_rfl _ _)
theorem fr_B_planNewDebts_X13 {f : Nat} {l1 : Int} {l3 : Int} {B : oM} : ∀ (s : Int × oM), (fun s => eqo [(49, 8), (50, (-1)), (52, (-1)), (53, (-1)), (54, (-1))] B s.2) s → par (p_B_planNewDebts_X13 f l1 l3 s) (psum (fun s => eqo [(49, 8), (50, (-1)), (52, (-1)), (53, (-1)), (54, (-1))] B s.2.2) (fun s => eqo [(49, 8), (50, (-1)), (52, (-1)), (53, (-1)), (54, (-1))] B s.2)) := by
  intro s hs
  obtain ⟨l2, M⟩ := s
  have h_M : eqo [(49, 8), (50, (-1)), (52, (-1)), (53, (-1)), (54, (-1))] B M := hs
  unfold p_B_planNewDebts_X13
  refine par_ltI fun x1 => ?_
  exact par_some h_M
theorem fr_B_planNewDebts_L13 {f : Nat} {l1 : Int} {l3 : Int} {B : oM} : ∀ (s : Int × Int × oM), (fun s => eqo [(49, 8), (50, (-1)), (52, (-1)), (53, (-1)), (54, (-1))] B s.2.2) s → par (p_B_planNewDebts_L13 f l1 l3 s) (psum (fun s => eqo [(49, 8), (50, (-1)), (52, (-1)), (53, (-1)), (54, (-1))] B s.2.2) (fun s => eqo [(49, 8), (50, (-1)), (52, (-1)), (53, (-1)), (54, (-1))] B s.2)) := by
  intro s hs
  obtain ⟨l2, l4, M⟩ := s
  have h_M : eqo [(49, 8), (50, (-1)), (52, (-1)), (53, (-1)), (54, (-1))] B M := hs
  unfold p_B_planNewDebts_L13
  refine par_bnd fun i2 => ?_
  refine par_ite ?_ ?_
  · refine par_ite ?_ ?_
    · refine par_bnd fun i3 => ?_
      refine par_lt (eqo_oUa (.tail _ (.tail _ (.head _))) h_M) fun M4 h_M4 => ?_
      refine par_ltI fun x5 => ?_
      refine par_ltI fun x6 => ?_
      exact par_some h_M4
    · exact par_some h_M
  · exact par_some h_M
theorem fr_B_planNewDebts_L4 {f : Nat} {l1 : Int} {B : oM} : ∀ (s : Int × Int × oM), (fun s => eqo [(49, 8), (50, (-1)), (52, (-1)), (53, (-1)), (54, (-1))] B s.2.2) s → par (p_B_planNewDebts_L4 f l1 s) (psum (fun s => eqo [(49, 8), (50, (-1)), (52, (-1)), (53, (-1)), (54, (-1))] B s.2.2) (fun s => eqo [(49, 8), (50, (-1)), (52, (-1)), (53, (-1)), (54, (-1))] B s.2)) := by
  intro s hs
  obtain ⟨l2, l3, M⟩ := s
  have h_M : eqo [(49, 8), (50, (-1)), (52, (-1)), (53, (-1)), (54, (-1))] B M := hs
  unfold p_B_planNewDebts_L4
  refine par_ite ?_ ?_
  · exact par_bind (par_iter (fun s hs => fr_B_planNewDebts_L13 s hs) _ h_M) fun s hs => fr_B_planNewDebts_X13 s hs
  · refine par_lt (eqo_oU (.head _) h_M) fun M7 h_M7 => ?_
    refine par_bind (fr_B_assign _ _ _ _ _) fun q8 g_q8 => ?_
    have h_q8 := eqo_tr (subw_cons (.head _) (subw_cons (.tail _ (.head _)) (subw_cons (.tail _ (.tail _ (.tail _ (.head _)))) (subw_cons (.tail _ (.tail _ (.tail _ (.tail _ (.head _))))) subw_nil)))) h_M7 g_q8
    exact par_some h_q8
theorem fr_B_planNewDebts {f : Nat} {l1 : Int} {M : oM} {B : oM} (h_M : eqo [(49, 8), (50, (-1)), (52, (-1)), (53, (-1)), (54, (-1))] B M) : par (p_B_planNewDebts f l1 M) (fun s => eqo [(49, 8), (50, (-1)), (52, (-1)), (53, (-1)), (54, (-1))] B s.2) := by
  unfold p_B_planNewDebts
  exact par_iter (fun s hs => fr_B_planNewDebts_L4 s hs) _ h_M
theorem fr_O_even_B75 {f : Nat} {l1 : Int} {l2 : Int} {l3 : Int} {M : oM} {B : oM} (h_M : eqo [(49, 8), (50, (-1)), (52, (-1)), (53, (-1)), (54, (-1))] B M) : par (p_O_even_B75 f l1 l2 l3 M) (fun s => eqo [(49, 8), (50, (-1)), (52, (-1)), (53, (-1)), (54, (-1))] B s.2) := by
  unfold p_O_even_B75
  refine par_bind (fr_B_planNewDebts (eqo_rfl _ _)) fun q1 g_q1 => ?_
  have h_q1 := eqo_tr (subw_cons (.head _) (subw_cons (.tail _ (.head _)) (subw_cons (.tail _ (.tail _ (.head _))) (subw_cons (.tail _ (.tail _ (.tail _ (.head _)))) (subw_cons (.tail _ (.tail _ (.tail _ (.tail _ (.head _))))) subw_nil))))) h_M g_q1
  refine par_ite ?_ ?_
  · exact par_some h_q1
  · refine par_bnd fun i2 => ?_
    exact par_some h_q1
theorem fr_O_even_B34 {f : Nat} {l1 : Int} {l2 : Int} {M : oM} {B : oM} (h_M : eqo [(49, 8), (50, (-1)), (52, (-1)), (53, (-1)), (54, (-1))] B M) : par (p_O_even_B34 f l1 l2 M) (fun s => eqo [(49, 8), (50, (-1)), (52, (-1)), (53, (-1)), (54, (-1))] B s.2) := by
  unfold p_O_even_B34
  refine par_bind (fr_B_newDebts (eqo_rfl _ _)) fun q3 g_q3 => ?_
  have h_q3 := eqo_tr (subw_cons (.tail _ (.head _)) subw_nil) h_M g_q3
  refine par_ite ?_ ?_
  · exact par_some h_q3
  · refine par_ite ?_ ?_
    · exact par_some h_q3
    · refine par_ite ?_ ?_
      · exact fr_O_even_B75 h_q3
      · refine par_ite ?_ ?_
        · exact fr_O_even_B75 h_q3
        · exact par_some h_q3
theorem fr_O_even_B15 {f : Nat} {l1 : Int} {s0 : Int} {M : oM} {B : oM} (h_M : eqo [(49, 8), (50, (-1)), (52, (-1)), (53, (-1)), (54, (-1))] B M) : par (p_O_even_B15 f l1 s0 M) (fun s => eqo [(49, 8), (50, (-1)), (52, (-1)), (53, (-1)), (54, (-1))] B s.2) := by
  unfold p_O_even_B15
  refine par_ite ?_ ?_
  · refine par_ite ?_ ?_
    · exact fr_O_even_B34 h_M
    · refine par_ite ?_ ?_
      · exact fr_O_even_B34 h_M
      · exact par_some h_M
  · exact fr_O_even_B34 h_M
theorem fr_O_even_B14 {f : Nat} {l1 : Int} {M : oM} {B : oM} (h_M : eqo [(49, 8), (50, (-1)), (52, (-1)), (53, (-1)), (54, (-1))] B M) : par (p_O_even_B14 f l1 M) (fun s => eqo [(49, 8), (50, (-1)), (52, (-1)), (53, (-1)), (54, (-1))] B s.2) := by
  unfold p_O_even_B14
  exact fr_O_even_B15 h_M
theorem fr_O_even {f : Nat} {l1 : Int} {M : oM} {B : oM} (h_M : eqo [(49, 8), (50, (-1)), (52, (-1)), (53, (-1)), (54, (-1))] B M) : par (p_O_even f l1 M) (fun s => eqo [(49, 8), (50, (-1)), (52, (-1)), (53, (-1)), (54, (-1))] B s.2) := by
  unfold p_O_even
  refine par_ite ?_ ?_
  · exact fr_O_even_B14 h_M
  · refine par_ite ?_ ?_
    · exact fr_O_even_B15 h_M
    · exact fr_O_even_B14 h_M
theorem fr_B_isEvenTurned_L81 {f : Nat} {B : oM} : ∀ (s : Int × oM), (fun s => eqo [(51, (-1))] B s.2) s → par (p_B_isEvenTurned_L81 f s) (psum (fun s => eqo [(51, (-1))] B s.2) (fun s => eqo [(51, (-1))] B s.2)) := by
  intro s hs
  obtain ⟨l3, M⟩ := s
  have h_M : eqo [(51, (-1))] B M := hs
  unfold p_B_isEvenTurned_L81
  refine par_ite ?_ ?_
  · refine par_bnd fun i1 => ?_
    refine par_ite ?_ ?_
    · refine par_ltI fun x2 => ?_
      exact par_some h_M
    · exact par_some h_M
  · exact par_some h_M
theorem fr_B_isEvenTurned_X17 {f : Nat} {l1 : Int} {l2 : Int} {B : oM} : ∀ (s : oM), (fun s => eqo [(51, (-1))] B s) s → par (p_B_isEvenTurned_X17 f l1 l2 s) (fun s => eqo [(51, (-1))] B s.2) := by
  intro s hs
  revert s hs
  intro M hs
  have h_M : eqo [(51, (-1))] B M := hs
  unfold p_B_isEvenTurned_X17
  exact par_iter (fun s hs => fr_B_isEvenTurned_L81 s hs) _ h_M
theorem fr_B_isEvenTurned_B73_17 {f : Nat} {l1 : Int} {l2 : Int} {l3 : Int} {M : oM} {B : oM} (h_M : eqo [(51, (-1))] B M) : par (p_B_isEvenTurned_B73_17 f l1 l2 l3 M) (psum (fun s => eqo [(51, (-1))] B s.2) (fun s => eqo [(51, (-1))] B s)) := by
  unfold p_B_isEvenTurned_B73_17
  refine par_ltI fun x3 => ?_
  exact par_some h_M
theorem fr_B_isEvenTurned_L17 {f : Nat} {l1 : Int} {l2 : Int} {B : oM} : ∀ (s : Int × oM), (fun s => eqo [(51, (-1))] B s.2) s → par (p_B_isEvenTurned_L17 f l1 l2 s) (psum (fun s => eqo [(51, (-1))] B s.2) (fun s => eqo [(51, (-1))] B s)) := by
  intro s hs
  obtain ⟨l3, M⟩ := s
  have h_M : eqo [(51, (-1))] B M := hs
  unfold p_B_isEvenTurned_L17
  refine par_ite ?_ ?_
  · refine par_ite ?_ ?_
    · refine par_ite ?_ ?_
      · refine par_bnd fun i4 => ?_
        refine par_nz fun z5 => ?_
        refine par_bnd fun i6 => ?_
        refine par_bnd fun i7 => ?_
        refine par_lt (eqo_oUa (.head _) h_M) fun M8 h_M8 => ?_
        refine par_bnd fun i9 => ?_
        refine par_nz fun z10 => ?_
        refine par_bnd fun i11 => ?_
        refine par_bnd fun i12 => ?_
        refine par_lt (eqo_oUa (.head _) h_M8) fun M13 h_M13 => ?_
        exact fr_B_isEvenTurned_B73_17 h_M13
      · exact fr_B_isEvenTurned_B73_17 h_M
    · exact par_some h_M
  · exact par_some h_M
theorem fr_B_isEvenTurned {f : Nat} {l1 : Int} {l2 : Int} {M : oM} {B : oM} (h_M : eqo [(51, (-1))] B M) : par (p_B_isEvenTurned f l1 l2 M) (fun s => eqo [(51, (-1))] B s.2) := by
  unfold p_B_isEvenTurned
  refine par_cpg ?_
  refine par_lt (eqo_ac (.head _) h_M) fun M14 h_M14 => ?_
  exact par_bind (par_iter (fun s hs => fr_B_isEvenTurned_L17 s hs) _ h_M14) fun s hs => fr_B_isEvenTurned_X17 s hs
theorem fr_D_listCoins_X13 {f : Nat} {o1 : Nat} {n1 : Int} {l3 : Int} {B : oM} : ∀ (s : Int × oM), (fun s => eqo [(o1, (-1))] B s.2) s → par (p_D_listCoins_X13 f o1 n1 l3 s) (psum (fun s => eqo [(o1, (-1))] B s.2.2) (fun s => eqo [(o1, (-1))] B s.2)) := by
  intro s hs
  obtain ⟨l2, M⟩ := s
  have h_M : eqo [(o1, (-1))] B M := hs
  unfold p_D_listCoins_X13
  refine par_ltI fun x1 => ?_
  exact par_some h_M
theorem fr_D_listCoins_L13 {f : Nat} {o1 : Nat} {n1 : Int} {l3 : Int} {B : oM} : ∀ (s : Int × Int × oM), (fun s => eqo [(o1, (-1))] B s.2.2) s → par (p_D_listCoins_L13 f o1 n1 l3 s) (psum (fun s => eqo [(o1, (-1))] B s.2.2) (fun s => eqo [(o1, (-1))] B s.2)) := by
  intro s hs
  obtain ⟨l2, l4, M⟩ := s
  have h_M : eqo [(o1, (-1))] B M := hs
  unfold p_D_listCoins_L13
  refine par_bnd fun i2 => ?_
  refine par_ite ?_ ?_
  · refine par_ite ?_ ?_
    · refine par_bnd fun i3 => ?_
      refine par_lt (eqo_oUa (.head _) h_M) fun M4 h_M4 => ?_
      refine par_ltI fun x5 => ?_
      refine par_ltI fun x6 => ?_
      exact par_some h_M4
    · exact par_some h_M
  · exact par_some h_M
theorem fr_D_listCoins_L4 {f : Nat} {o1 : Nat} {n1 : Int} {B : oM} : ∀ (s : Int × Int × oM), (fun s => eqo [(o1, (-1))] B s.2.2) s → par (p_D_listCoins_L4 f o1 n1 s) (psum (fun s => eqo [(o1, (-1))] B s.2.2) (fun s => eqo [(o1, (-1))] B s.2)) := by
  intro s hs
  obtain ⟨l2, l3, M⟩ := s
  have h_M : eqo [(o1, (-1))] B M := hs
  unfold p_D_listCoins_L4
  refine par_ite ?_ ?_
  · exact par_bind (par_iter (fun s hs => fr_D_listCoins_L13 s hs) _ h_M) fun s hs => fr_D_listCoins_X13 s hs
  · exact par_some h_M
theorem fr_D_listCoins {f : Nat} {o1 : Nat} {n1 : Int} {M : oM} {B : oM} (h_M : eqo [(o1, (-1))] B M) : par (p_D_listCoins f o1 n1 M) (fun s => eqo [(o1, (-1))] B s.2) := by
  unfold p_D_listCoins
  exact par_iter (fun s hs => fr_D_listCoins_L4 s hs) _ h_M
theorem fr_JI_bitCount {f : Nat} {l0 : Int} {M : oM} {B : oM} (h_M : eqo [] B M) : par (p_JI_bitCount f l0 M) (fun s => eqo [] B s.2) := by
  unfold p_JI_bitCount
  refine par_ltI fun x1 => ?_
  refine par_ltI fun x2 => ?_
  refine par_ltI fun x3 => ?_
  refine par_ltI fun x4 => ?_
  refine par_ltI fun x5 => ?_
  exact par_some h_M
theorem fr_B_leastTurned_B61_23 {f : Nat} {l2 : Int} {l3 : Int} {l4 : Int} {l5 : Int} {M : oM} {B : oM} (h_M : eqo [(50, (-1)), (51, (-1)), (55, (-1))] B M) : par (p_B_leastTurned_B61_23 f l2 l3 l4 l5 M) (psum (fun s => eqo [(50, (-1)), (51, (-1)), (55, (-1))] B s.2.2.2) (fun s => eqo [(50, (-1)), (51, (-1)), (55, (-1))] B s.2)) := by
  unfold p_B_leastTurned_B61_23
  refine par_ltI fun x1 => ?_
  exact par_some h_M
theorem fr_B_leastTurned_L23 {f : Nat} {l2 : Int} {B : oM} : ∀ (s : Int × Int × Int × oM), (fun s => eqo [(50, (-1)), (51, (-1)), (55, (-1))] B s.2.2.2) s → par (p_B_leastTurned_L23 f l2 s) (psum (fun s => eqo [(50, (-1)), (51, (-1)), (55, (-1))] B s.2.2.2) (fun s => eqo [(50, (-1)), (51, (-1)), (55, (-1))] B s.2)) := by
  intro s hs
  obtain ⟨l3, l4, l5, M⟩ := s
  have h_M : eqo [(50, (-1)), (51, (-1)), (55, (-1))] B M := hs
  unfold p_B_leastTurned_L23
  refine par_ite ?_ ?_
  · refine par_bind (fr_JI_bitCount (eqo_rfl _ _)) fun q2 g_q2 => ?_
    have h_q2 := eqo_tr subw_nil h_M g_q2
    refine par_ite ?_ ?_
    · refine par_bind (fr_B_isEvenTurned (eqo_rfl _ _)) fun q3 g_q3 => ?_
      have h_q3 := eqo_tr (subw_cons (.tail _ (.head _)) subw_nil) h_q2 g_q3
      refine par_ite ?_ ?_
      · exact fr_B_leastTurned_B61_23 h_q3
      · refine par_bind (fr_JI_bitCount (eqo_rfl _ _)) fun q4 g_q4 => ?_
        have h_q4 := eqo_tr subw_nil h_q3 g_q4
        exact fr_B_leastTurned_B61_23 h_q4
    · exact fr_B_leastTurned_B61_23 h_q2
  · exact par_some h_M
theorem fr_B_leastTurned {f : Nat} {M : oM} {B : oM} (h_M : eqo [(50, (-1)), (51, (-1)), (55, (-1))] B M) : par (p_B_leastTurned f M) (fun s => eqo [(50, (-1)), (51, (-1)), (55, (-1))] B s.2) := by
  unfold p_B_leastTurned
  refine par_bind (fr_B_weigh (eqo_rfl _ _)) fun q5 g_q5 => ?_
  have h_q5 := eqo_tr (subw_cons (.head _) subw_nil) h_M g_q5
  refine par_bind (fr_D_listCoins (eqo_rfl _ _)) fun q6 g_q6 => ?_
  have h_q6 := eqo_tr (subw_cons (.tail _ (.tail _ (.head _))) subw_nil) h_q5 g_q6
  exact par_iter (fun s hs => fr_B_leastTurned_L23 s hs) _ h_q6
theorem fr_O_turned_B11 {f : Nat} {l1 : Int} {M : oM} {B : oM} (h_M : eqo [(50, (-1)), (51, (-1)), (55, (-1))] B M) : par (p_O_turned_B11 f l1 M) (fun s => eqo [(50, (-1)), (51, (-1)), (55, (-1))] B s.2) := by
  unfold p_O_turned_B11
  refine par_bind (fr_D_owedInAll (eqo_rfl _ _)) fun q1 g_q1 => ?_
  have h_q1 := eqo_tr subw_nil h_M g_q1
  refine par_ite ?_ ?_
  · exact par_some h_q1
  · refine par_bind (fr_B_leastTurned (eqo_rfl _ _)) fun q2 g_q2 => ?_
    have h_q2 := eqo_tr (subw_cons (.head _) (subw_cons (.tail _ (.head _)) (subw_cons (.tail _ (.tail _ (.head _))) subw_nil))) h_q1 g_q2
    refine par_ite ?_ ?_
    · exact par_some h_q2
    · refine par_ite ?_ ?_
      · exact par_some h_q2
      · refine par_bind (fr_JI_bitCount (eqo_rfl _ _)) fun q3 g_q3 => ?_
        have h_q3 := eqo_tr subw_nil h_q2 g_q3
        exact par_some h_q3
theorem fr_O_turned {f : Nat} {l1 : Int} {M : oM} {B : oM} (h_M : eqo [(50, (-1)), (51, (-1)), (55, (-1))] B M) : par (p_O_turned f l1 M) (fun s => eqo [(50, (-1)), (51, (-1)), (55, (-1))] B s.2) := by
  unfold p_O_turned
  refine par_ite ?_ ?_
  · exact fr_O_turned_B11 h_M
  · refine par_ite ?_ ?_
    · exact fr_O_turned_B11 h_M
    · exact par_some h_M
theorem fr_O_setOff {f : Nat} {l1 : Int} {M : oM} {B : oM} (h_M : eqo [] B M) : par (p_O_setOff f l1 M) (fun s => eqo [] B s.2) := by
  unfold p_O_setOff
  refine par_bind (fr_P_has (eqo_rfl _ _)) fun q1 g_q1 => ?_
  have h_q1 := eqo_tr subw_nil h_M g_q1
  refine par_ite ?_ ?_
  · exact par_some h_q1
  · refine par_bind (fr_D_owedTo (eqo_rfl _ _)) fun q2 g_q2 => ?_
    have h_q2 := eqo_tr subw_nil h_q1 g_q2
    refine par_bind (fr_D_owedBy (eqo_rfl _ _)) fun q3 g_q3 => ?_
    have h_q3 := eqo_tr subw_nil h_q2 g_q3
    exact par_some h_q3
theorem fr_B_fewestPayings_B93_7 {f : Nat} {l2 : Int} {s1 : Int} {s2 : Int} {M : oM} {B : oM} (h_M : eqo [(50, (-1)), (56, (-1))] B M) : par (p_B_fewestPayings_B93_7 f l2 s1 s2 M) (psum (fun s => eqo [(50, (-1)), (56, (-1))] B s.2) (fun s => eqo [(50, (-1)), (56, (-1))] B s.2)) := by
  unfold p_B_fewestPayings_B93_7
  refine par_bnd fun i1 => ?_
  refine par_lt (eqo_oUa (.tail _ (.head _)) h_M) fun M2 h_M2 => ?_
  refine par_ltI fun x3 => ?_
  exact par_some h_M2
theorem fr_B_fewestPayings_X22 {f : Nat} {l2 : Int} {B : oM} : ∀ (s : Int × Int × oM), (fun s => eqo [(50, (-1)), (56, (-1))] B s.2.2) s → par (p_B_fewestPayings_X22 f l2 s) (psum (fun s => eqo [(50, (-1)), (56, (-1))] B s.2) (fun s => eqo [(50, (-1)), (56, (-1))] B s.2)) := by
  intro s hs
  obtain ⟨l3, l4, M⟩ := s
  have h_M : eqo [(50, (-1)), (56, (-1))] B M := hs
  unfold p_B_fewestPayings_X22
  refine par_ite ?_ ?_
  · exact fr_B_fewestPayings_B93_7 h_M
  · exact fr_B_fewestPayings_B93_7 h_M
theorem fr_B_fewestPayings_B69_22 {f : Nat} {l2 : Int} {l3 : Int} {l4 : Int} {l5 : Int} {M : oM} {B : oM} (h_M : eqo [(50, (-1)), (56, (-1))] B M) : par (p_B_fewestPayings_B69_22 f l2 l3 l4 l5 M) (psum (fun s => eqo [(50, (-1)), (56, (-1))] B s.2.2.2) (fun s => eqo [(50, (-1)), (56, (-1))] B s.2.2)) := by
  unfold p_B_fewestPayings_B69_22
  refine par_ltI fun x4 => ?_
  exact par_some h_M
theorem fr_B_fewestPayings_L22 {f : Nat} {l2 : Int} {B : oM} : ∀ (s : Int × Int × Int × oM), (fun s => eqo [(50, (-1)), (56, (-1))] B s.2.2.2) s → par (p_B_fewestPayings_L22 f l2 s) (psum (fun s => eqo [(50, (-1)), (56, (-1))] B s.2.2.2) (fun s => eqo [(50, (-1)), (56, (-1))] B s.2.2)) := by
  intro s hs
  obtain ⟨l3, l4, l5, M⟩ := s
  have h_M : eqo [(50, (-1)), (56, (-1))] B M := hs
  unfold p_B_fewestPayings_L22
  refine par_ite ?_ ?_
  · refine par_ite ?_ ?_
    · refine par_bnd fun i5 => ?_
      refine par_ltI fun x6 => ?_
      refine par_bnd fun i7 => ?_
      refine par_ltI fun x8 => ?_
      exact fr_B_fewestPayings_B69_22 h_M
    · exact fr_B_fewestPayings_B69_22 h_M
  · exact par_some h_M
theorem fr_B_fewestPayings_L7 {f : Nat} {B : oM} : ∀ (s : Int × oM), (fun s => eqo [(50, (-1)), (56, (-1))] B s.2) s → par (p_B_fewestPayings_L7 f s) (psum (fun s => eqo [(50, (-1)), (56, (-1))] B s.2) (fun s => eqo [(50, (-1)), (56, (-1))] B s.2)) := by
  intro s hs
  obtain ⟨l2, M⟩ := s
  have h_M : eqo [(50, (-1)), (56, (-1))] B M := hs
  unfold p_B_fewestPayings_L7
  refine par_ite ?_ ?_
  · exact par_bind (par_iter (fun s hs => fr_B_fewestPayings_L22 s hs) _ h_M) fun s hs => fr_B_fewestPayings_X22 s hs
  · refine par_bnd fun i9 => ?_
    exact par_some h_M
theorem fr_B_fewestPayings {f : Nat} {M : oM} {B : oM} (h_M : eqo [(50, (-1)), (56, (-1))] B M) : par (p_B_fewestPayings f M) (fun s => eqo [(50, (-1)), (56, (-1))] B s.2) := by
  unfold p_B_fewestPayings
  refine par_bind (fr_B_weigh (eqo_rfl _ _)) fun q10 g_q10 => ?_
  have h_q10 := eqo_tr (subw_cons (.head _) subw_nil) h_M g_q10
  exact par_iter (fun s hs => fr_B_fewestPayings_L7 s hs) _ h_q10
theorem fr_O_fewest {f : Nat} {M : oM} {B : oM} (h_M : eqo [(50, (-1)), (56, (-1))] B M) : par (p_O_fewest f M) (fun s => eqo [(50, (-1)), (56, (-1))] B s.2) := by
  unfold p_O_fewest
  refine par_bind (fr_B_fewestPayings (eqo_rfl _ _)) fun q1 g_q1 => ?_
  have h_q1 := eqo_tr (subw_cons (.head _) (subw_cons (.tail _ (.head _)) subw_nil)) h_M g_q1
  exact par_some h_q1
theorem fr_R_ringOf_B49_11 {f : Nat} {l1 : Int} {l2 : Int} {l3 : Int} {l4 : Int} {M : oM} {B : oM} (h_M : eqo [] B M) : par (p_R_ringOf_B49_11 f l1 l2 l3 l4 M) (psum (fun s => eqo [] B s.2.2) (fun s => eqo [] B s.2)) := by
  unfold p_R_ringOf_B49_11
  refine par_ltI fun x1 => ?_
  exact par_some h_M
theorem fr_R_ringOf_L11 {f : Nat} {l1 : Int} {l3 : Int} {B : oM} : ∀ (s : Int × Int × oM), (fun s => eqo [] B s.2.2) s → par (p_R_ringOf_L11 f l1 l3 s) (psum (fun s => eqo [] B s.2.2) (fun s => eqo [] B s.2)) := by
  intro s hs
  obtain ⟨l2, l4, M⟩ := s
  have h_M : eqo [] B M := hs
  unfold p_R_ringOf_L11
  refine par_ite ?_ ?_
  · refine par_ite ?_ ?_
    · refine par_bind (fr_R_reachedFrom (eqo_rfl _ _)) fun q2 g_q2 => ?_
      have h_q2 := eqo_tr subw_nil h_M g_q2
      refine par_ite ?_ ?_
      · refine par_ltI fun x3 => ?_
        exact fr_R_ringOf_B49_11 h_q2
      · exact fr_R_ringOf_B49_11 h_q2
    · exact fr_R_ringOf_B49_11 h_M
  · exact par_some h_M
theorem fr_R_ringOf {f : Nat} {l1 : Int} {M : oM} {B : oM} (h_M : eqo [] B M) : par (p_R_ringOf f l1 M) (fun s => eqo [] B s.2) := by
  unfold p_R_ringOf
  refine par_bind (fr_R_reachedFrom (eqo_rfl _ _)) fun q4 g_q4 => ?_
  have h_q4 := eqo_tr subw_nil h_M g_q4
  exact par_iter (fun s hs => fr_R_ringOf_L11 s hs) _ h_q4
theorem fr_O_rings_B77_37 {f : Nat} {l2 : Int} {l3 : Int} {M : oM} {B : oM} (h_M : eqo [] B M) : par (p_O_rings_B77_37 f l2 l3 M) (psum (fun s => eqo [] B s.2.2) (fun s => eqo [] B s.2)) := by
  unfold p_O_rings_B77_37
  refine par_ltI fun x1 => ?_
  exact par_some h_M
theorem fr_O_rings_L37 {f : Nat} {B : oM} : ∀ (s : Int × Int × oM), (fun s => eqo [] B s.2.2) s → par (p_O_rings_L37 f s) (psum (fun s => eqo [] B s.2.2) (fun s => eqo [] B s.2)) := by
  intro s hs
  obtain ⟨l2, l3, M⟩ := s
  have h_M : eqo [] B M := hs
  unfold p_O_rings_L37
  refine par_ite ?_ ?_
  · refine par_bind (fr_P_has (eqo_rfl _ _)) fun q2 g_q2 => ?_
    have h_q2 := eqo_tr subw_nil h_M g_q2
    refine par_ite ?_ ?_
    · exact fr_O_rings_B77_37 h_q2
    · refine par_bind (fr_R_ringOf (eqo_rfl _ _)) fun q3 g_q3 => ?_
      have h_q3 := eqo_tr subw_nil h_q2 g_q3
      refine par_ite ?_ ?_
      · refine par_ltI fun x4 => ?_
        exact fr_O_rings_B77_37 h_q3
      · exact fr_O_rings_B77_37 h_q3
  · exact par_some h_M
theorem fr_O_rings {f : Nat} {l1 : Int} {M : oM} {B : oM} (h_M : eqo [] B M) : par (p_O_rings f l1 M) (fun s => eqo [] B s.2) := by
  unfold p_O_rings
  refine par_ite ?_ ?_
  · exact par_iter (fun s hs => fr_O_rings_L37 s hs) _ h_M
  · refine par_bind (fr_P_has (eqo_rfl _ _)) fun q5 g_q5 => ?_
    have h_q5 := eqo_tr subw_nil h_M g_q5
    refine par_ite ?_ ?_
    · exact par_some h_q5
    · refine par_bind (fr_R_ringOf (eqo_rfl _ _)) fun q6 g_q6 => ?_
      have h_q6 := eqo_tr subw_nil h_q5 g_q6
      exact par_some h_q6
theorem fr_O_off {f : Nat} {M : oM} {B : oM} (h_M : eqo [] B M) : par (p_O_off f M) (fun s => eqo [] B s.2) := by
  unfold p_O_off
  refine par_ite ?_ ?_
  · exact par_some h_M
  · refine par_bind (fr_R_reachedFrom (eqo_rfl _ _)) fun q1 g_q1 => ?_
    have h_q1 := eqo_tr subw_nil h_M g_q1
    exact par_some h_q1
theorem fr_O_when_L46 {f : Nat} {l1 : Int} {l2 : Int} {B : oM} : ∀ (s : Int × oM), (fun s => eqo [(14, 3), (14, 4), (14, 5), (14, 6), (14, 7), (14, 8), (14, 9), (14, 10), (14, 11), (15, (-1)), (16, (-1)), (17, (-1)), (25, (-1)), (26, (-1)), (41, 2), (41, 3), (41, 4), (41, 5)] B s.2) s → par (p_O_when_L46 f l1 l2 s) (psum (fun s => eqo [(14, 3), (14, 4), (14, 5), (14, 6), (14, 7), (14, 8), (14, 9), (14, 10), (14, 11), (15, (-1)), (16, (-1)), (17, (-1)), (25, (-1)), (26, (-1)), (41, 2), (41, 3), (41, 4), (41, 5)] B s.2) (fun s => eqo [(14, 3), (14, 4), (14, 5), (14, 6), (14, 7), (14, 8), (14, 9), (14, 10), (14, 11), (15, (-1)), (16, (-1)), (17, (-1)), (25, (-1)), (26, (-1)), (41, 2), (41, 3), (41, 4), (41, 5)] B s.2)) := by
  intro s hs
  obtain ⟨l3, M⟩ := s
  have h_M : eqo [(14, 3), (14, 4), (14, 5), (14, 6), (14, 7), (14, 8), (14, 9), (14, 10), (14, 11), (15, (-1)), (16, (-1)), (17, (-1)), (25, (-1)), (26, (-1)), (41, 2), (41, 3), (41, 4), (41, 5)] B M := hs
  unfold p_O_when_L46
  refine par_ite ?_ ?_
  · exact par_some h_M
  · refine par_bind (fr_C_tick (eqo_rfl _ _)) fun q1 g_q1 => ?_
    have h_q1 := eqo_tr (subw_cons (.tail _ (.tail _ (.tail _ (.tail _ (.tail _ (.tail _ (.tail _ (.tail _ (.tail _ (.tail _ (.tail _ (.tail _ (.head _))))))))))))) (subw_cons (.tail _ (.tail _ (.tail _ (.tail _ (.tail _ (.tail _ (.tail _ (.tail _ (.tail _ (.tail _ (.tail _ (.tail _ (.tail _ (.head _)))))))))))))) (subw_cons (.tail _ (.tail _ (.tail _ (.tail _ (.tail _ (.tail _ (.tail _ (.tail _ (.tail _ (.tail _ (.tail _ (.tail _ (.tail _ (.tail _ (.head _))))))))))))))) (subw_cons (.tail _ (.tail _ (.tail _ (.tail _ (.tail _ (.tail _ (.tail _ (.tail _ (.tail _ (.tail _ (.tail _ (.tail _ (.tail _ (.tail _ (.tail _ (.head _)))))))))))))))) (subw_cons (.tail _ (.tail _ (.tail _ (.tail _ (.tail _ (.tail _ (.tail _ (.tail _ (.tail _ (.tail _ (.tail _ (.tail _ (.tail _ (.tail _ (.tail _ (.tail _ (.head _))))))))))))))))) (subw_cons (.tail _ (.tail _ (.tail _ (.tail _ (.tail _ (.tail _ (.tail _ (.tail _ (.tail _ (.tail _ (.tail _ (.tail _ (.tail _ (.tail _ (.tail _ (.tail _ (.tail _ (.head _)))))))))))))))))) (subw_cons (.head _) (subw_cons (.tail _ (.head _)) (subw_cons (.tail _ (.tail _ (.head _))) (subw_cons (.tail _ (.tail _ (.tail _ (.head _)))) (subw_cons (.tail _ (.tail _ (.tail _ (.tail _ (.head _))))) (subw_cons (.tail _ (.tail _ (.tail _ (.tail _ (.tail _ (.head _)))))) (subw_cons (.tail _ (.tail _ (.tail _ (.tail _ (.tail _ (.tail _ (.head _))))))) (subw_cons (.tail _ (.tail _ (.tail _ (.tail _ (.tail _ (.tail _ (.tail _ (.head _)))))))) (subw_cons (.tail _ (.tail _ (.tail _ (.tail _ (.tail _ (.tail _ (.tail _ (.tail _ (.head _))))))))) (subw_cons (.tail _ (.tail _ (.tail _ (.tail _ (.tail _ (.tail _ (.tail _ (.tail _ (.tail _ (.head _)))))))))) (subw_cons (.tail _ (.tail _ (.tail _ (.tail _ (.tail _ (.tail _ (.tail _ (.tail _ (.tail _ (.tail _ (.head _))))))))))) (subw_cons (.tail _ (.tail _ (.tail _ (.tail _ (.tail _ (.tail _ (.tail _ (.tail _ (.tail _ (.tail _ (.tail _ (.head _)))))))))))) subw_nil)))))))))))))))))) h_M g_q1
    refine par_ite ?_ ?_
    · exact par_some h_q1
    · refine par_ltI fun x2 => ?_
      exact par_some h_q1
theorem fr_O_when {f : Nat} {l1 : Int} {l2 : Int} {M : oM} {B : oM} (h_M : eqo [(14, 3), (14, 4), (14, 5), (14, 6), (14, 7), (14, 8), (14, 9), (14, 10), (14, 11), (15, (-1)), (16, (-1)), (17, (-1)), (25, (-1)), (26, (-1)), (41, 2), (41, 3), (41, 4), (41, 5)] B M) : par (p_O_when f l1 l2 M) (fun s => eqo [(14, 3), (14, 4), (14, 5), (14, 6), (14, 7), (14, 8), (14, 9), (14, 10), (14, 11), (15, (-1)), (16, (-1)), (17, (-1)), (25, (-1)), (26, (-1)), (41, 2), (41, 3), (41, 4), (41, 5)] B s.2) := by
  unfold p_O_when
  refine par_bind (fr_P_has (eqo_rfl _ _)) fun q3 g_q3 => ?_
  have h_q3 := eqo_tr subw_nil h_M g_q3
  refine par_ite ?_ ?_
  · exact par_some h_q3
  · refine par_bind (fr_O_areHours (eqo_rfl _ _)) fun q4 g_q4 => ?_
    have h_q4 := eqo_tr subw_nil h_q3 g_q4
    refine par_ite ?_ ?_
    · exact par_some h_q4
    · refine par_ite ?_ ?_
      · exact par_some h_q4
      · refine par_bind (fr_D_takeFrom (eqo_rfl _ _)) fun q5 g_q5 => ?_
        have h_q5 := eqo_tr (subw_cons (.head _) (subw_cons (.tail _ (.head _)) (subw_cons (.tail _ (.tail _ (.head _))) (subw_cons (.tail _ (.tail _ (.tail _ (.head _)))) (subw_cons (.tail _ (.tail _ (.tail _ (.tail _ (.head _))))) (subw_cons (.tail _ (.tail _ (.tail _ (.tail _ (.tail _ (.head _)))))) (subw_cons (.tail _ (.tail _ (.tail _ (.tail _ (.tail _ (.tail _ (.head _))))))) (subw_cons (.tail _ (.tail _ (.tail _ (.tail _ (.tail _ (.tail _ (.tail _ (.head _)))))))) (subw_cons (.tail _ (.tail _ (.tail _ (.tail _ (.tail _ (.tail _ (.tail _ (.tail _ (.head _))))))))) (subw_cons (.tail _ (.tail _ (.tail _ (.tail _ (.tail _ (.tail _ (.tail _ (.tail _ (.tail _ (.head _)))))))))) (subw_cons (.tail _ (.tail _ (.tail _ (.tail _ (.tail _ (.tail _ (.tail _ (.tail _ (.tail _ (.tail _ (.head _))))))))))) (subw_cons (.tail _ (.tail _ (.tail _ (.tail _ (.tail _ (.tail _ (.tail _ (.tail _ (.tail _ (.tail _ (.tail _ (.head _)))))))))))) subw_nil)))))))))))) h_q4 g_q5
        exact par_iter (fun s hs => fr_O_when_L46 s hs) _ h_q5
theorem fr_O_wedding_B117_41 {f : Nat} {l1 : Int} {l2 : Int} {l3 : Int} {l4 : Int} {l5 : Int} {l6 : Int} {M : oM} {B : oM} (h_M : eqo [(14, 3), (14, 4), (14, 5), (14, 6), (14, 7), (14, 8), (14, 9), (14, 10), (14, 11), (15, (-1)), (16, (-1)), (17, (-1)), (25, (-1)), (26, (-1)), (41, 2), (41, 3), (41, 4), (41, 5)] B M) : par (p_O_wedding_B117_41 f l1 l2 l3 l4 l5 l6 M) (psum (fun s => eqo [(14, 3), (14, 4), (14, 5), (14, 6), (14, 7), (14, 8), (14, 9), (14, 10), (14, 11), (15, (-1)), (16, (-1)), (17, (-1)), (25, (-1)), (26, (-1)), (41, 2), (41, 3), (41, 4), (41, 5)] B s.2.2.2) (fun s => eqo [(14, 3), (14, 4), (14, 5), (14, 6), (14, 7), (14, 8), (14, 9), (14, 10), (14, 11), (15, (-1)), (16, (-1)), (17, (-1)), (25, (-1)), (26, (-1)), (41, 2), (41, 3), (41, 4), (41, 5)] B s.2)) := by
  unfold p_O_wedding_B117_41
  refine par_ltI fun x1 => ?_
  exact par_some h_M
theorem fr_O_wedding_B100_41 {f : Nat} {l1 : Int} {l2 : Int} {l3 : Int} {l4 : Int} {l5 : Int} {l6 : Int} {l7 : Int} {M : oM} {B : oM} (h_M : eqo [(14, 3), (14, 4), (14, 5), (14, 6), (14, 7), (14, 8), (14, 9), (14, 10), (14, 11), (15, (-1)), (16, (-1)), (17, (-1)), (25, (-1)), (26, (-1)), (41, 2), (41, 3), (41, 4), (41, 5)] B M) : par (p_O_wedding_B100_41 f l1 l2 l3 l4 l5 l6 l7 M) (psum (fun s => eqo [(14, 3), (14, 4), (14, 5), (14, 6), (14, 7), (14, 8), (14, 9), (14, 10), (14, 11), (15, (-1)), (16, (-1)), (17, (-1)), (25, (-1)), (26, (-1)), (41, 2), (41, 3), (41, 4), (41, 5)] B s.2.2.2) (fun s => eqo [(14, 3), (14, 4), (14, 5), (14, 6), (14, 7), (14, 8), (14, 9), (14, 10), (14, 11), (15, (-1)), (16, (-1)), (17, (-1)), (25, (-1)), (26, (-1)), (41, 2), (41, 3), (41, 4), (41, 5)] B s.2)) := by
  unfold p_O_wedding_B100_41
  refine par_ite ?_ ?_
  · refine par_ite ?_ ?_
    · exact par_some h_M
    · exact fr_O_wedding_B117_41 h_M
  · exact fr_O_wedding_B117_41 h_M
theorem fr_O_wedding_L41 {f : Nat} {l1 : Int} {l2 : Int} {l3 : Int} {B : oM} : ∀ (s : Int × Int × Int × oM), (fun s => eqo [(14, 3), (14, 4), (14, 5), (14, 6), (14, 7), (14, 8), (14, 9), (14, 10), (14, 11), (15, (-1)), (16, (-1)), (17, (-1)), (25, (-1)), (26, (-1)), (41, 2), (41, 3), (41, 4), (41, 5)] B s.2.2.2) s → par (p_O_wedding_L41 f l1 l2 l3 s) (psum (fun s => eqo [(14, 3), (14, 4), (14, 5), (14, 6), (14, 7), (14, 8), (14, 9), (14, 10), (14, 11), (15, (-1)), (16, (-1)), (17, (-1)), (25, (-1)), (26, (-1)), (41, 2), (41, 3), (41, 4), (41, 5)] B s.2.2.2) (fun s => eqo [(14, 3), (14, 4), (14, 5), (14, 6), (14, 7), (14, 8), (14, 9), (14, 10), (14, 11), (15, (-1)), (16, (-1)), (17, (-1)), (25, (-1)), (26, (-1)), (41, 2), (41, 3), (41, 4), (41, 5)] B s.2)) := by
  intro s hs
  obtain ⟨l4, l5, l6, M⟩ := s
  have h_M : eqo [(14, 3), (14, 4), (14, 5), (14, 6), (14, 7), (14, 8), (14, 9), (14, 10), (14, 11), (15, (-1)), (16, (-1)), (17, (-1)), (25, (-1)), (26, (-1)), (41, 2), (41, 3), (41, 4), (41, 5)] B M := hs
  unfold p_O_wedding_L41
  refine par_ite ?_ ?_
  · refine par_ltI fun x2 => ?_
    refine par_bind (fr_C_tick (eqo_rfl _ _)) fun q3 g_q3 => ?_
    have h_q3 := eqo_tr (subw_cons (.tail _ (.tail _ (.tail _ (.tail _ (.tail _ (.tail _ (.tail _ (.tail _ (.tail _ (.tail _ (.tail _ (.tail _ (.head _))))))))))))) (subw_cons (.tail _ (.tail _ (.tail _ (.tail _ (.tail _ (.tail _ (.tail _ (.tail _ (.tail _ (.tail _ (.tail _ (.tail _ (.tail _ (.head _)))))))))))))) (subw_cons (.tail _ (.tail _ (.tail _ (.tail _ (.tail _ (.tail _ (.tail _ (.tail _ (.tail _ (.tail _ (.tail _ (.tail _ (.tail _ (.tail _ (.head _))))))))))))))) (subw_cons (.tail _ (.tail _ (.tail _ (.tail _ (.tail _ (.tail _ (.tail _ (.tail _ (.tail _ (.tail _ (.tail _ (.tail _ (.tail _ (.tail _ (.tail _ (.head _)))))))))))))))) (subw_cons (.tail _ (.tail _ (.tail _ (.tail _ (.tail _ (.tail _ (.tail _ (.tail _ (.tail _ (.tail _ (.tail _ (.tail _ (.tail _ (.tail _ (.tail _ (.tail _ (.head _))))))))))))))))) (subw_cons (.tail _ (.tail _ (.tail _ (.tail _ (.tail _ (.tail _ (.tail _ (.tail _ (.tail _ (.tail _ (.tail _ (.tail _ (.tail _ (.tail _ (.tail _ (.tail _ (.tail _ (.head _)))))))))))))))))) (subw_cons (.head _) (subw_cons (.tail _ (.head _)) (subw_cons (.tail _ (.tail _ (.head _))) (subw_cons (.tail _ (.tail _ (.tail _ (.head _)))) (subw_cons (.tail _ (.tail _ (.tail _ (.tail _ (.head _))))) (subw_cons (.tail _ (.tail _ (.tail _ (.tail _ (.tail _ (.head _)))))) (subw_cons (.tail _ (.tail _ (.tail _ (.tail _ (.tail _ (.tail _ (.head _))))))) (subw_cons (.tail _ (.tail _ (.tail _ (.tail _ (.tail _ (.tail _ (.tail _ (.head _)))))))) (subw_cons (.tail _ (.tail _ (.tail _ (.tail _ (.tail _ (.tail _ (.tail _ (.tail _ (.head _))))))))) (subw_cons (.tail _ (.tail _ (.tail _ (.tail _ (.tail _ (.tail _ (.tail _ (.tail _ (.tail _ (.head _)))))))))) (subw_cons (.tail _ (.tail _ (.tail _ (.tail _ (.tail _ (.tail _ (.tail _ (.tail _ (.tail _ (.tail _ (.head _))))))))))) (subw_cons (.tail _ (.tail _ (.tail _ (.tail _ (.tail _ (.tail _ (.tail _ (.tail _ (.tail _ (.tail _ (.tail _ (.head _)))))))))))) subw_nil)))))))))))))))))) h_M g_q3
    refine par_ite ?_ ?_
    · exact fr_O_wedding_B100_41 h_q3
    · refine par_ite ?_ ?_
      · exact fr_O_wedding_B100_41 h_q3
      · exact fr_O_wedding_B100_41 h_q3
  · exact par_some h_M
theorem fr_O_wedding {f : Nat} {l1 : Int} {l2 : Int} {l3 : Int} {M : oM} {B : oM} (h_M : eqo [(14, 3), (14, 4), (14, 5), (14, 6), (14, 7), (14, 8), (14, 9), (14, 10), (14, 11), (15, (-1)), (16, (-1)), (17, (-1)), (25, (-1)), (26, (-1)), (41, 2), (41, 3), (41, 4), (41, 5)] B M) : par (p_O_wedding f l1 l2 l3 M) (fun s => eqo [(14, 3), (14, 4), (14, 5), (14, 6), (14, 7), (14, 8), (14, 9), (14, 10), (14, 11), (15, (-1)), (16, (-1)), (17, (-1)), (25, (-1)), (26, (-1)), (41, 2), (41, 3), (41, 4), (41, 5)] B s.2) := by
  unfold p_O_wedding
  refine par_bind (fr_P_hasBoth (eqo_rfl _ _)) fun q4 g_q4 => ?_
  have h_q4 := eqo_tr subw_nil h_M g_q4
  refine par_ite ?_ ?_
  · exact par_some h_q4
  · refine par_bind (fr_O_areHours (eqo_rfl _ _)) fun q5 g_q5 => ?_
    have h_q5 := eqo_tr subw_nil h_q4 g_q5
    refine par_ite ?_ ?_
    · exact par_some h_q5
    · refine par_bind (fr_D_takeFrom (eqo_rfl _ _)) fun q6 g_q6 => ?_
      have h_q6 := eqo_tr (subw_cons (.head _) (subw_cons (.tail _ (.head _)) (subw_cons (.tail _ (.tail _ (.head _))) (subw_cons (.tail _ (.tail _ (.tail _ (.head _)))) (subw_cons (.tail _ (.tail _ (.tail _ (.tail _ (.head _))))) (subw_cons (.tail _ (.tail _ (.tail _ (.tail _ (.tail _ (.head _)))))) (subw_cons (.tail _ (.tail _ (.tail _ (.tail _ (.tail _ (.tail _ (.head _))))))) (subw_cons (.tail _ (.tail _ (.tail _ (.tail _ (.tail _ (.tail _ (.tail _ (.head _)))))))) (subw_cons (.tail _ (.tail _ (.tail _ (.tail _ (.tail _ (.tail _ (.tail _ (.tail _ (.head _))))))))) (subw_cons (.tail _ (.tail _ (.tail _ (.tail _ (.tail _ (.tail _ (.tail _ (.tail _ (.tail _ (.head _)))))))))) (subw_cons (.tail _ (.tail _ (.tail _ (.tail _ (.tail _ (.tail _ (.tail _ (.tail _ (.tail _ (.tail _ (.head _))))))))))) (subw_cons (.tail _ (.tail _ (.tail _ (.tail _ (.tail _ (.tail _ (.tail _ (.tail _ (.tail _ (.tail _ (.tail _ (.head _)))))))))))) subw_nil)))))))))))) h_q5 g_q6
      exact par_iter (fun s hs => fr_O_wedding_L41 s hs) _ h_q6
theorem fr_O_longest_B33_4 {f : Nat} {l1 : Int} {l2 : Int} {M : oM} {B : oM} (h_M : eqo [] B M) : par (p_O_longest_B33_4 f l1 l2 M) (psum (fun s => eqo [] B s.2.2) (fun s => eqo [] B s.2)) := by
  unfold p_O_longest_B33_4
  refine par_ltI fun x1 => ?_
  exact par_some h_M
theorem fr_O_longest_L4 {f : Nat} {B : oM} : ∀ (s : Int × Int × oM), (fun s => eqo [] B s.2.2) s → par (p_O_longest_L4 f s) (psum (fun s => eqo [] B s.2.2) (fun s => eqo [] B s.2)) := by
  intro s hs
  obtain ⟨l1, l2, M⟩ := s
  have h_M : eqo [] B M := hs
  unfold p_O_longest_L4
  refine par_ite ?_ ?_
  · refine par_bnd fun i3 => ?_
    refine par_bnd fun i4 => ?_
    refine par_ite ?_ ?_
    · exact fr_O_longest_B33_4 h_M
    · exact fr_O_longest_B33_4 h_M
  · refine par_bnd fun i2 => ?_
    refine par_ite ?_ ?_
    · exact par_some h_M
    · exact par_some h_M
theorem fr_O_longest {f : Nat} {M : oM} {B : oM} (h_M : eqo [] B M) : par (p_O_longest f M) (fun s => eqo [] B s.2) := by
  unfold p_O_longest
  exact par_iter (fun s hs => fr_O_longest_L4 s hs) _ h_M
theorem fr_O_chalk {f : Nat} {l1 : Int} {M : oM} {B : oM} (h_M : eqo [] B M) : par (p_O_chalk f l1 M) (fun s => eqo [] B s.2) := by
  unfold p_O_chalk
  refine par_ite ?_ ?_
  · exact par_some h_M
  · refine par_ite ?_ ?_
    · refine par_ite ?_ ?_
      · refine par_bnd fun i1 => ?_
        exact par_some h_M
      · exact par_some h_M
    · exact par_some h_M
theorem fr_R_hoursOf_B58_5 {f : Nat} {l1 : Int} {l2 : Int} {l3 : Int} {l4 : Int} {M : oM} {B : oM} (h_M : eqo [] B M) : par (p_R_hoursOf_B58_5 f l1 l2 l3 l4 M) (psum (fun s => eqo [] B s.2.2) (fun s => eqo [] B s.2)) := by
  unfold p_R_hoursOf_B58_5
  refine par_ltI fun x1 => ?_
  exact par_some h_M
theorem fr_R_hoursOf_L5 {f : Nat} {l1 : Int} {l2 : Int} {B : oM} : ∀ (s : Int × Int × oM), (fun s => eqo [] B s.2.2) s → par (p_R_hoursOf_L5 f l1 l2 s) (psum (fun s => eqo [] B s.2.2) (fun s => eqo [] B s.2)) := by
  intro s hs
  obtain ⟨l3, l4, M⟩ := s
  have h_M : eqo [] B M := hs
  unfold p_R_hoursOf_L5
  refine par_ite ?_ ?_
  · refine par_ite ?_ ?_
    · refine par_ite ?_ ?_
      · refine par_bnd fun i2 => ?_
        refine par_nz fun z3 => ?_
        refine par_bnd fun i4 => ?_
        refine par_nz fun z5 => ?_
        refine par_bind (fr_P_way (eqo_rfl _ _)) fun q6 g_q6 => ?_
        have h_q6 := eqo_tr subw_nil h_M g_q6
        refine par_ltI fun x7 => ?_
        exact fr_R_hoursOf_B58_5 h_q6
      · exact fr_R_hoursOf_B58_5 h_M
    · exact par_some h_M
  · exact par_some h_M
theorem fr_R_hoursOf {f : Nat} {l1 : Int} {l2 : Int} {M : oM} {B : oM} (h_M : eqo [] B M) : par (p_R_hoursOf f l1 l2 M) (fun s => eqo [] B s.2) := by
  unfold p_R_hoursOf
  exact par_iter (fun s hs => fr_R_hoursOf_L5 s hs) _ h_M
theorem fr_R_setShare_B44_8 {f : Nat} {o1 : Nat} {l2 : Int} {l3 : Int} {l4 : Int} {M : oM} {B : oM} (h_M : eqo [(o1, (-1))] B M) : par (p_R_setShare_B44_8 f o1 l2 l3 l4 M) (psum (fun s => eqo [(o1, (-1))] B s.2) (fun s => eqo [(o1, (-1))] B s.2)) := by
  unfold p_R_setShare_B44_8
  refine par_ltI fun x1 => ?_
  exact par_some h_M
theorem fr_R_setShare_L8 {f : Nat} {o1 : Nat} {l2 : Int} {l3 : Int} {B : oM} : ∀ (s : Int × oM), (fun s => eqo [(o1, (-1))] B s.2) s → par (p_R_setShare_L8 f o1 l2 l3 s) (psum (fun s => eqo [(o1, (-1))] B s.2) (fun s => eqo [(o1, (-1))] B s.2)) := by
  intro s hs
  obtain ⟨l4, M⟩ := s
  have h_M : eqo [(o1, (-1))] B M := hs
  unfold p_R_setShare_L8
  refine par_ite ?_ ?_
  · refine par_ite ?_ ?_
    · refine par_ite ?_ ?_
      · refine par_bnd fun i2 => ?_
        refine par_bnd fun i3 => ?_
        refine par_bnd fun i4 => ?_
        refine par_lt (eqo_oUa (.head _) h_M) fun M5 h_M5 => ?_
        exact fr_R_setShare_B44_8 h_M5
      · exact fr_R_setShare_B44_8 h_M
    · exact par_some h_M
  · exact par_some h_M
theorem fr_R_setShare {f : Nat} {o1 : Nat} {l2 : Int} {l3 : Int} {M : oM} {B : oM} (h_M : eqo [(o1, (-1))] B M) : par (p_R_setShare f o1 l2 l3 M) (fun s => eqo [(o1, (-1))] B s.2) := by
  unfold p_R_setShare
  refine par_bind (fr_JA_fill (eqo_rfl _ _)) fun q6 g_q6 => ?_
  have h_q6 := eqo_tr (subw_cons (.head _) subw_nil) h_M g_q6
  exact par_iter (fun s hs => fr_R_setShare_L8 s hs) _ h_q6
theorem fr_R_sharedHours_B105_16 {f : Nat} {l2 : Int} {l3 : Int} {l4 : Int} {l5 : Int} {M : oM} {B : oM} (h_M : eqo [(43, (-1)), (44, (-1)), (45, (-1))] B M) : par (p_R_sharedHours_B105_16 f l2 l3 l4 l5 M) (psum (fun s => eqo [(43, (-1)), (44, (-1)), (45, (-1))] B s.2.2) (fun s => eqo [(43, (-1)), (44, (-1)), (45, (-1))] B s.2)) := by
  unfold p_R_sharedHours_B105_16
  refine par_ltI fun x1 => ?_
  exact par_some h_M
theorem fr_R_sharedHours_L16 {f : Nat} {l2 : Int} {l3 : Int} {B : oM} : ∀ (s : Int × Int × oM), (fun s => eqo [(43, (-1)), (44, (-1)), (45, (-1))] B s.2.2) s → par (p_R_sharedHours_L16 f l2 l3 s) (psum (fun s => eqo [(43, (-1)), (44, (-1)), (45, (-1))] B s.2.2) (fun s => eqo [(43, (-1)), (44, (-1)), (45, (-1))] B s.2)) := by
  intro s hs
  obtain ⟨l4, l5, M⟩ := s
  have h_M : eqo [(43, (-1)), (44, (-1)), (45, (-1))] B M := hs
  unfold p_R_sharedHours_L16
  refine par_ite ?_ ?_
  · refine par_bind (fr_R_hoursOf (eqo_rfl _ _)) fun q2 g_q2 => ?_
    have h_q2 := eqo_tr subw_nil h_M g_q2
    refine par_bind (fr_R_hoursOf (eqo_rfl _ _)) fun q3 g_q3 => ?_
    have h_q3 := eqo_tr subw_nil h_q2 g_q3
    refine par_ltI fun x4 => ?_
    refine par_ite ?_ ?_
    · refine par_bind (fr_R_setShare (eqo_rfl _ _)) fun q5 g_q5 => ?_
      have h_q5 := eqo_tr (subw_cons (.head _) subw_nil) h_q3 g_q5
      refine par_bind (fr_R_setShare (eqo_rfl _ _)) fun q6 g_q6 => ?_
      have h_q6 := eqo_tr (subw_cons (.tail _ (.head _)) subw_nil) h_q5 g_q6
      refine par_bind (fr_R_isOneRow (eqo_rfl _ _)) fun q7 g_q7 => ?_
      have h_q7 := eqo_tr subw_nil h_q6 g_q7
      refine par_ite ?_ ?_
      · exact fr_R_sharedHours_B105_16 h_q7
      · refine par_bind (fr_R_isOneRow (eqo_rfl _ _)) fun q8 g_q8 => ?_
        have h_q8 := eqo_tr subw_nil h_q7 g_q8
        refine par_ite ?_ ?_
        · exact fr_R_sharedHours_B105_16 h_q8
        · exact fr_R_sharedHours_B105_16 h_q8
    · exact fr_R_sharedHours_B105_16 h_q3
  · exact par_some h_M
theorem fr_R_sharedHours {f : Nat} {l2 : Int} {M : oM} {B : oM} (h_M : eqo [(43, (-1)), (44, (-1)), (45, (-1))] B M) : par (p_R_sharedHours f l2 M) (fun s => eqo [(43, (-1)), (44, (-1)), (45, (-1))] B s.2) := by
  unfold p_R_sharedHours
  refine par_bind (fr_D_listCoins (eqo_rfl _ _)) fun q9 g_q9 => ?_
  have h_q9 := eqo_tr (subw_cons (.tail _ (.tail _ (.head _))) subw_nil) h_M g_q9
  exact par_iter (fun s hs => fr_R_sharedHours_L16 s hs) _ h_q9
theorem fr_O_two {f : Nat} {l1 : Int} {M : oM} {B : oM} (h_M : eqo [(43, (-1)), (44, (-1)), (45, (-1))] B M) : par (p_O_two f l1 M) (fun s => eqo [(43, (-1)), (44, (-1)), (45, (-1))] B s.2) := by
  unfold p_O_two
  refine par_bind (fr_P_has (eqo_rfl _ _)) fun q1 g_q1 => ?_
  have h_q1 := eqo_tr subw_nil h_M g_q1
  refine par_ite ?_ ?_
  · exact par_some h_q1
  · refine par_ite ?_ ?_
    · exact par_some h_q1
    · refine par_bind (fr_D_owedInAll (eqo_rfl _ _)) fun q2 g_q2 => ?_
      have h_q2 := eqo_tr subw_nil h_q1 g_q2
      refine par_ite ?_ ?_
      · exact par_some h_q2
      · refine par_bind (fr_R_sharedHours (eqo_rfl _ _)) fun q3 g_q3 => ?_
        have h_q3 := eqo_tr (subw_cons (.head _) (subw_cons (.tail _ (.head _)) (subw_cons (.tail _ (.tail _ (.head _))) subw_nil))) h_q2 g_q3
        refine par_ite ?_ ?_
        · exact par_some h_q3
        · exact par_some h_q3
theorem fr_O_commonDivisor_L7 {f : Nat} {B : oM} : ∀ (s : Int × Int × Int × oM), (fun s => eqo [] B s.2.2.2) s → par (p_O_commonDivisor_L7 f s) (psum (fun s => eqo [] B s.2.2.2) (fun s => eqo [] B s.2)) := by
  intro s hs
  obtain ⟨l2, l3, l4, M⟩ := s
  have h_M : eqo [] B M := hs
  unfold p_O_commonDivisor_L7
  refine par_ite ?_ ?_
  · refine par_ite ?_ ?_
    · exact par_some h_M
    · refine par_nz fun z1 => ?_
      refine par_ltI fun x2 => ?_
      refine par_ltI fun x3 => ?_
      exact par_some h_M
  · exact par_some h_M
theorem fr_O_commonDivisor {f : Nat} {l0 : Int} {l1 : Int} {M : oM} {B : oM} (h_M : eqo [] B M) : par (p_O_commonDivisor f l0 l1 M) (fun s => eqo [] B s.2) := by
  unfold p_O_commonDivisor
  exact par_iter (fun s hs => fr_O_commonDivisor_L7 s hs) _ h_M
theorem fr_O_dry_L46 {f : Nat} {l1 : Int} {l2 : Int} {l3 : Int} {B : oM} : ∀ (s : Int × Int × Int × oM), (fun s => eqo [(25, (-1)), (26, (-1))] B s.2.2.2) s → par (p_O_dry_L46 f l1 l2 l3 s) (psum (fun s => eqo [(25, (-1)), (26, (-1))] B s.2.2.2) (fun s => eqo [(25, (-1)), (26, (-1))] B s.2)) := by
  intro s hs
  obtain ⟨l4, l5, l6, M⟩ := s
  have h_M : eqo [(25, (-1)), (26, (-1))] B M := hs
  unfold p_O_dry_L46
  refine par_ite ?_ ?_
  · refine par_ltI fun x4 => ?_
    refine par_ltI fun x5 => ?_
    refine par_ltI fun x6 => ?_
    exact par_some h_M
  · refine par_bind (fr_O_commonDivisor (eqo_rfl _ _)) fun q1 g_q1 => ?_
    have h_q1 := eqo_tr subw_nil h_M g_q1
    refine par_ite ?_ ?_
    · refine par_ite ?_ ?_
      · refine par_nz fun z3 => ?_
        exact par_some h_q1
      · refine par_nz fun z2 => ?_
        exact par_some h_q1
    · exact par_some h_q1
theorem fr_O_dry_B22 {f : Nat} {l1 : Int} {l2 : Int} {M : oM} {B : oM} (h_M : eqo [(25, (-1)), (26, (-1))] B M) : par (p_O_dry_B22 f l1 l2 M) (fun s => eqo [(25, (-1)), (26, (-1))] B s.2) := by
  unfold p_O_dry_B22
  refine par_bind (fr_L_rain (eqo_rfl _ _)) fun q7 g_q7 => ?_
  have h_q7 := eqo_tr (subw_cons (.head _) (subw_cons (.tail _ (.head _)) subw_nil)) h_M g_q7
  exact par_iter (fun s hs => fr_O_dry_L46 s hs) _ h_q7
theorem fr_O_dry {f : Nat} {l1 : Int} {l2 : Int} {M : oM} {B : oM} (h_M : eqo [(25, (-1)), (26, (-1))] B M) : par (p_O_dry f l1 l2 M) (fun s => eqo [(25, (-1)), (26, (-1))] B s.2) := by
  unfold p_O_dry
  refine par_ite ?_ ?_
  · exact par_some h_M
  · refine par_ite ?_ ?_
    · exact par_some h_M
    · refine par_ite ?_ ?_
      · exact fr_O_dry_B22 h_M
      · refine par_ite ?_ ?_
        · exact fr_O_dry_B22 h_M
        · exact par_some h_M
theorem fr_O_seed {f : Nat} {l1 : Int} {M : oM} {B : oM} (h_M : eqo [(6, 11)] B M) : par (p_O_seed f l1 M) (fun s => eqo [(6, 11)] B s.2) := by
  unfold p_O_seed
  refine par_ite ?_ ?_
  · exact par_some h_M
  · refine par_ite ?_ ?_
    · exact par_some h_M
    · refine par_lt (eqo_oU (.head _) h_M) fun M1 h_M1 => ?_
      exact par_some h_M1
theorem fr_O_keep {f : Nat} {M : oM} {B : oM} (h_M : eqo [(0, 13), (10, 3), (10, 4), (10, 5), (10, 6), (10, 7), (10, 8), (10, 9), (10, 10), (10, 11), (11, (-1)), (12, (-1)), (13, (-1))] B M) : par (p_O_keep f M) (fun s => eqo [(0, 13), (10, 3), (10, 4), (10, 5), (10, 6), (10, 7), (10, 8), (10, 9), (10, 10), (10, 11), (11, (-1)), (12, (-1)), (13, (-1))] B s.2) := by
  unfold p_O_keep
  refine par_bind (fr_D_takeFrom (eqo_rfl _ _)) fun q1 g_q1 => ?_
  have h_q1 := eqo_tr (subw_cons (.tail _ (.head _)) (subw_cons (.tail _ (.tail _ (.head _))) (subw_cons (.tail _ (.tail _ (.tail _ (.head _)))) (subw_cons (.tail _ (.tail _ (.tail _ (.tail _ (.head _))))) (subw_cons (.tail _ (.tail _ (.tail _ (.tail _ (.tail _ (.head _)))))) (subw_cons (.tail _ (.tail _ (.tail _ (.tail _ (.tail _ (.tail _ (.head _))))))) (subw_cons (.tail _ (.tail _ (.tail _ (.tail _ (.tail _ (.tail _ (.tail _ (.head _)))))))) (subw_cons (.tail _ (.tail _ (.tail _ (.tail _ (.tail _ (.tail _ (.tail _ (.tail _ (.head _))))))))) (subw_cons (.tail _ (.tail _ (.tail _ (.tail _ (.tail _ (.tail _ (.tail _ (.tail _ (.tail _ (.head _)))))))))) (subw_cons (.tail _ (.tail _ (.tail _ (.tail _ (.tail _ (.tail _ (.tail _ (.tail _ (.tail _ (.tail _ (.head _))))))))))) (subw_cons (.tail _ (.tail _ (.tail _ (.tail _ (.tail _ (.tail _ (.tail _ (.tail _ (.tail _ (.tail _ (.tail _ (.head _)))))))))))) (subw_cons (.tail _ (.tail _ (.tail _ (.tail _ (.tail _ (.tail _ (.tail _ (.tail _ (.tail _ (.tail _ (.tail _ (.tail _ (.head _))))))))))))) subw_nil)))))))))))) h_M g_q1
  refine par_lt (eqo_oU (.head _) h_q1) fun M2 h_M2 => ?_
  refine par_bind (fr_D_owedInAll (eqo_rfl _ _)) fun q3 g_q3 => ?_
  have h_q3 := eqo_tr subw_nil h_M2 g_q3
  exact par_some h_q3
theorem fr_O_undo {f : Nat} {M : oM} {B : oM} (h_M : eqo [(6, 3), (6, 4), (6, 5), (6, 6), (6, 7), (6, 8), (6, 9), (6, 10), (6, 11), (7, (-1)), (8, (-1)), (9, (-1))] B M) : par (p_O_undo f M) (fun s => eqo [(6, 3), (6, 4), (6, 5), (6, 6), (6, 7), (6, 8), (6, 9), (6, 10), (6, 11), (7, (-1)), (8, (-1)), (9, (-1))] B s.2) := by
  unfold p_O_undo
  refine par_ite ?_ ?_
  · refine par_bnd fun b1 => ?_
    exact par_some h_M
  · refine par_bind (fr_D_takeFrom (eqo_rfl _ _)) fun q2 g_q2 => ?_
    have h_q2 := eqo_tr (subw_cons (.head _) (subw_cons (.tail _ (.head _)) (subw_cons (.tail _ (.tail _ (.head _))) (subw_cons (.tail _ (.tail _ (.tail _ (.head _)))) (subw_cons (.tail _ (.tail _ (.tail _ (.tail _ (.head _))))) (subw_cons (.tail _ (.tail _ (.tail _ (.tail _ (.tail _ (.head _)))))) (subw_cons (.tail _ (.tail _ (.tail _ (.tail _ (.tail _ (.tail _ (.head _))))))) (subw_cons (.tail _ (.tail _ (.tail _ (.tail _ (.tail _ (.tail _ (.tail _ (.head _)))))))) (subw_cons (.tail _ (.tail _ (.tail _ (.tail _ (.tail _ (.tail _ (.tail _ (.tail _ (.head _))))))))) (subw_cons (.tail _ (.tail _ (.tail _ (.tail _ (.tail _ (.tail _ (.tail _ (.tail _ (.tail _ (.head _)))))))))) (subw_cons (.tail _ (.tail _ (.tail _ (.tail _ (.tail _ (.tail _ (.tail _ (.tail _ (.tail _ (.tail _ (.head _))))))))))) (subw_cons (.tail _ (.tail _ (.tail _ (.tail _ (.tail _ (.tail _ (.tail _ (.tail _ (.tail _ (.tail _ (.tail _ (.head _)))))))))))) subw_nil)))))))))))) h_M g_q2
    refine par_bnd fun b3 => ?_
    exact par_some h_q2
theorem fr_O_check_B70_21 {f : Nat} {l2 : Int} {M : oM} {B : oM} (h_M : eqo [(1, 1), (1, 2), (1, 3), (1, 4)] B M) : par (p_O_check_B70_21 f l2 M) (psum (fun s => eqo [(1, 1), (1, 2), (1, 3), (1, 4)] B s.2.2) (fun s => eqo [(1, 1), (1, 2), (1, 3), (1, 4)] B s.2)) := by
  unfold p_O_check_B70_21
  refine par_bind (fr_T_clear (eqo_rfl _ _)) fun q1 g_q1 => ?_
  have h_q1 := eqo_tr (subw_cons (.head _) subw_nil) h_M g_q1
  exact par_some h_q1
theorem fr_O_check_B57_21 {f : Nat} {l1 : Int} {l2 : Int} {l3 : Int} {M : oM} {B : oM} (h_M : eqo [(1, 1), (1, 2), (1, 3), (1, 4)] B M) : par (p_O_check_B57_21 f l1 l2 l3 M) (psum (fun s => eqo [(1, 1), (1, 2), (1, 3), (1, 4)] B s.2.2) (fun s => eqo [(1, 1), (1, 2), (1, 3), (1, 4)] B s.2)) := by
  unfold p_O_check_B57_21
  refine par_bind (fr_T_step (eqo_rfl _ _)) fun q2 g_q2 => ?_
  have h_q2 := eqo_tr (subw_cons (.tail _ (.tail _ (.head _))) (subw_cons (.tail _ (.tail _ (.tail _ (.head _)))) subw_nil)) h_M g_q2
  refine par_ltI fun x3 => ?_
  exact par_some h_q2
theorem fr_O_check_L21 {f : Nat} {l1 : Int} {B : oM} : ∀ (s : Int × Int × oM), (fun s => eqo [(1, 1), (1, 2), (1, 3), (1, 4)] B s.2.2) s → par (p_O_check_L21 f l1 s) (psum (fun s => eqo [(1, 1), (1, 2), (1, 3), (1, 4)] B s.2.2) (fun s => eqo [(1, 1), (1, 2), (1, 3), (1, 4)] B s.2)) := by
  intro s hs
  obtain ⟨l2, l3, M⟩ := s
  have h_M : eqo [(1, 1), (1, 2), (1, 3), (1, 4)] B M := hs
  unfold p_O_check_L21
  refine par_ite ?_ ?_
  · refine par_ite ?_ ?_
    · refine par_bind (fr_T_next (eqo_rfl _ _)) fun q4 g_q4 => ?_
      have h_q4 := eqo_tr subw_nil h_M g_q4
      refine par_bind (fr_D_owedBy (eqo_rfl _ _)) fun q5 g_q5 => ?_
      have h_q5 := eqo_tr subw_nil h_q4 g_q5
      refine par_ite ?_ ?_
      · exact fr_O_check_B57_21 h_q5
      · exact fr_O_check_B57_21 h_q5
    · exact fr_O_check_B70_21 h_M
  · exact fr_O_check_B70_21 h_M
theorem fr_O_check {f : Nat} {l1 : Int} {M : oM} {B : oM} (h_M : eqo [(1, 1), (1, 2), (1, 3), (1, 4)] B M) : par (p_O_check f l1 M) (fun s => eqo [(1, 1), (1, 2), (1, 3), (1, 4)] B s.2) := by
  unfold p_O_check
  refine par_bind (fr_T_opens (eqo_rfl _ _)) fun q6 g_q6 => ?_
  have h_q6 := eqo_tr (subw_cons (.tail _ (.head _)) (subw_cons (.tail _ (.tail _ (.head _))) (subw_cons (.tail _ (.tail _ (.tail _ (.head _)))) subw_nil))) h_M g_q6
  refine par_ite ?_ ?_
  · exact par_some h_q6
  · exact par_iter (fun s hs => fr_O_check_L21 s hs) _ h_q6
theorem fr_O_count {f : Nat} {l1 : Int} {M : oM} {B : oM} (h_M : eqo [] B M) : par (p_O_count f l1 M) (fun s => eqo [] B s.2) := by
  unfold p_O_count
  refine par_ite ?_ ?_
  · exact par_some h_M
  · refine par_ite ?_ ?_
    · refine par_bind (fr_D_owedInAll (eqo_rfl _ _)) fun q1 g_q1 => ?_
      have h_q1 := eqo_tr subw_nil h_M g_q1
      exact par_some h_q1
    · refine par_ite ?_ ?_
      · refine par_ite ?_ ?_
        · exact par_some h_M
        · exact par_some h_M
      · refine par_ite ?_ ?_
        · refine par_ite ?_ ?_
          · exact par_some h_M
          · exact par_some h_M
        · refine par_ite ?_ ?_
          · exact par_some h_M
          · refine par_ite ?_ ?_
            · exact par_some h_M
            · refine par_ite ?_ ?_
              · exact par_some h_M
              · refine par_ite ?_ ?_
                · refine par_ite ?_ ?_
                  · exact par_some h_M
                  · exact par_some h_M
                · refine par_ite ?_ ?_
                  · exact par_some h_M
                  · refine par_ite ?_ ?_
                    · exact par_some h_M
                    · refine par_ite ?_ ?_
                      · refine par_bind (fr_T_size (eqo_rfl _ _)) fun q2 g_q2 => ?_
                        have h_q2 := eqo_tr subw_nil h_M g_q2
                        exact par_some h_q2
                      · refine par_ite ?_ ?_
                        · exact par_some h_M
                        · exact par_some h_M
theorem fr_M_in {f : Nat} {l0 : Int} {l1 : Int} {l2 : Int} {M : oM} {B : oM} (h_M : eqo [] B M) : par (p_M_in f l0 l1 l2 M) (fun s => eqo [] B s.2) := by
  unfold p_M_in
  refine par_ite ?_ ?_
  · exact par_some h_M
  · refine par_ite ?_ ?_
    · exact par_some h_M
    · exact par_some h_M
theorem fr_M_person {f : Nat} {l1 : Int} {l2 : Int} {l3 : Int} {M : oM} {B : oM} (h_M : eqo [(57, 5), (61, (-1)), (62, (-1))] B M) : par (p_M_person f l1 l2 l3 M) (fun s => eqo [(57, 5), (61, (-1)), (62, (-1))] B s.2) := by
  unfold p_M_person
  refine par_bind (fr_M_in (eqo_rfl _ _)) fun q1 g_q1 => ?_
  have h_q1 := eqo_tr subw_nil h_M g_q1
  refine par_ite ?_ ?_
  · exact par_some h_q1
  · refine par_bind (fr_M_in (eqo_rfl _ _)) fun q2 g_q2 => ?_
    have h_q2 := eqo_tr subw_nil h_q1 g_q2
    refine par_ite ?_ ?_
    · exact par_some h_q2
    · refine par_bind (fr_M_in (eqo_rfl _ _)) fun q3 g_q3 => ?_
      have h_q3 := eqo_tr subw_nil h_q2 g_q3
      refine par_ite ?_ ?_
      · exact par_some h_q3
      · refine par_lt (eqo_oU (.head _) h_q3) fun M4 h_M4 => ?_
        refine par_bnd fun i5 => ?_
        refine par_lt (eqo_oUa (.tail _ (.head _)) h_M4) fun M6 h_M6 => ?_
        refine par_bnd fun i7 => ?_
        refine par_lt (eqo_oUa (.tail _ (.tail _ (.head _))) h_M6) fun M8 h_M8 => ?_
        exact par_some h_M8
theorem fr_M_has {f : Nat} {l0 : Int} {l1 : Int} {M : oM} {B : oM} (h_M : eqo [] B M) : par (p_M_has f l0 l1 M) (fun s => eqo [] B s.2) := by
  unfold p_M_has
  refine par_ite ?_ ?_
  · exact par_some h_M
  · exact par_some h_M
theorem fr_M_isPerson {f : Nat} {l1 : Int} {M : oM} {B : oM} (h_M : eqo [] B M) : par (p_M_isPerson f l1 M) (fun s => eqo [] B s.2) := by
  unfold p_M_isPerson
  refine par_bind (fr_M_in (eqo_rfl _ _)) fun q1 g_q1 => ?_
  have h_q1 := eqo_tr subw_nil h_M g_q1
  refine par_ite ?_ ?_
  · exact par_some h_q1
  · refine par_bind (fr_M_has (eqo_rfl _ _)) fun q2 g_q2 => ?_
    have h_q2 := eqo_tr subw_nil h_q1 g_q2
    refine par_ite ?_ ?_
    · exact par_some h_q2
    · exact par_some h_q2
theorem fr_M_areTwo {f : Nat} {l1 : Int} {l2 : Int} {M : oM} {B : oM} (h_M : eqo [] B M) : par (p_M_areTwo f l1 l2 M) (fun s => eqo [] B s.2) := by
  unfold p_M_areTwo
  refine par_bind (fr_M_isPerson (eqo_rfl _ _)) fun q1 g_q1 => ?_
  have h_q1 := eqo_tr subw_nil h_M g_q1
  refine par_ite ?_ ?_
  · exact par_some h_q1
  · refine par_bind (fr_M_isPerson (eqo_rfl _ _)) fun q2 g_q2 => ?_
    have h_q2 := eqo_tr subw_nil h_q1 g_q2
    refine par_ite ?_ ?_
    · exact par_some h_q2
    · refine par_ite ?_ ?_
      · exact par_some h_q2
      · exact par_some h_q2
theorem fr_M_debt {f : Nat} {l1 : Int} {l2 : Int} {l3 : Int} {M : oM} {B : oM} (h_M : eqo [(58, (-1))] B M) : par (p_M_debt f l1 l2 l3 M) (fun s => eqo [(58, (-1))] B s.2) := by
  unfold p_M_debt
  refine par_bind (fr_M_areTwo (eqo_rfl _ _)) fun q1 g_q1 => ?_
  have h_q1 := eqo_tr subw_nil h_M g_q1
  refine par_ite ?_ ?_
  · exact par_some h_q1
  · refine par_bind (fr_M_in (eqo_rfl _ _)) fun q2 g_q2 => ?_
    have h_q2 := eqo_tr subw_nil h_q1 g_q2
    refine par_ite ?_ ?_
    · exact par_some h_q2
    · refine par_bnd fun i3 => ?_
      refine par_lt (eqo_oUa (.head _) h_q2) fun M4 h_M4 => ?_
      exact par_some h_M4
theorem fr_M_rests {f : Nat} {l1 : Int} {M : oM} {B : oM} (h_M : eqo [(58, (-1))] B M) : par (p_M_rests f l1 M) (fun s => eqo [(58, (-1))] B s.2) := by
  unfold p_M_rests
  refine par_bnd fun i1 => ?_
  refine par_lt (eqo_oUa (.head _) h_M) fun M2 h_M2 => ?_
  refine par_bnd fun i3 => ?_
  refine par_lt (eqo_oUa (.head _) h_M2) fun M4 h_M4 => ?_
  refine par_bnd fun i5 => ?_
  refine par_lt (eqo_oUa (.head _) h_M4) fun M6 h_M6 => ?_
  exact par_some h_M6
theorem fr_M_coin {f : Nat} {l1 : Int} {M : oM} {B : oM} (h_M : eqo [(58, (-1))] B M) : par (p_M_coin f l1 M) (fun s => eqo [(58, (-1))] B s.2) := by
  unfold p_M_coin
  refine par_bind (fr_M_isPerson (eqo_rfl _ _)) fun q1 g_q1 => ?_
  have h_q1 := eqo_tr subw_nil h_M g_q1
  refine par_ite ?_ ?_
  · exact par_some h_q1
  · refine par_bind (fr_M_rests (eqo_rfl _ _)) fun q2 g_q2 => ?_
    have h_q2 := eqo_tr (subw_cons (.head _) subw_nil) h_q1 g_q2
    exact par_some h_q2
theorem fr_M_types_L2 {f : Nat} {l1 : Int} {B : oM} : ∀ (s : Int × oM), (fun s => eqo [(57, 7), (63, (-1))] B s.2) s → par (p_M_types_L2 f l1 s) (psum (fun s => eqo [(57, 7), (63, (-1))] B s.2) (fun s => eqo [(57, 7), (63, (-1))] B s.2)) := by
  intro s hs
  obtain ⟨l2, M⟩ := s
  have h_M : eqo [(57, 7), (63, (-1))] B M := hs
  unfold p_M_types_L2
  refine par_ite ?_ ?_
  · exact par_some h_M
  · refine par_bnd fun i1 => ?_
    refine par_lt (eqo_oUa (.tail _ (.head _)) h_M) fun M2 h_M2 => ?_
    refine par_lt (eqo_oU (.head _) h_M2) fun M3 h_M3 => ?_
    refine par_ltI fun x4 => ?_
    exact par_some h_M3
theorem fr_M_types {f : Nat} {l1 : Int} {M : oM} {B : oM} (h_M : eqo [(57, 7), (63, (-1))] B M) : par (p_M_types f l1 M) (fun s => eqo [(57, 7), (63, (-1))] B s.2) := by
  unfold p_M_types
  exact par_iter (fun s hs => fr_M_types_L2 s hs) _ h_M
theorem fr_M_feed {f : Nat} {l1 : Int} {l2 : Int} {l3 : Int} {l4 : Int} {l5 : Int} {M : oM} {B : oM} (h_M : eqo [(57, 7), (63, (-1))] B M) : par (p_M_feed f l1 l2 l3 l4 l5 M) (fun s => eqo [(57, 7), (63, (-1))] B s.2) := by
  unfold p_M_feed
  refine par_ite ?_ ?_
  · exact par_some h_M
  · refine par_bind (fr_M_types (eqo_rfl _ _)) fun q1 g_q1 => ?_
    have h_q1 := eqo_tr (subw_cons (.head _) (subw_cons (.tail _ (.head _)) subw_nil)) h_M g_q1
    refine par_bind (fr_M_types (eqo_rfl _ _)) fun q2 g_q2 => ?_
    have h_q2 := eqo_tr (subw_cons (.head _) (subw_cons (.tail _ (.head _)) subw_nil)) h_q1 g_q2
    refine par_bind (fr_M_types (eqo_rfl _ _)) fun q3 g_q3 => ?_
    have h_q3 := eqo_tr (subw_cons (.head _) (subw_cons (.tail _ (.head _)) subw_nil)) h_q2 g_q3
    refine par_bind (fr_M_types (eqo_rfl _ _)) fun q4 g_q4 => ?_
    have h_q4 := eqo_tr (subw_cons (.head _) (subw_cons (.tail _ (.head _)) subw_nil)) h_q3 g_q4
    refine par_bind (fr_M_types (eqo_rfl _ _)) fun q5 g_q5 => ?_
    have h_q5 := eqo_tr (subw_cons (.head _) (subw_cons (.tail _ (.head _)) subw_nil)) h_q4 g_q5
    exact par_some h_q5
theorem fr_M_here {f : Nat} {M : oM} {B : oM} (h_M : eqo [] B M) : par (p_M_here f M) (fun s => eqo [] B s.2) := by
  unfold p_M_here
  refine par_ite ?_ ?_
  · refine par_bnd fun i1 => ?_
    exact par_some h_M
  · exact par_some h_M
theorem fr_M_notes {f : Nat} {l1 : Int} {l2 : Int} {M : oM} {B : oM} (h_M : eqo [(57, 13), (64, (-1))] B M) : par (p_M_notes f l1 l2 M) (fun s => eqo [(57, 13), (64, (-1))] B s.2) := by
  unfold p_M_notes
  refine par_bnd fun i1 => ?_
  refine par_lt (eqo_oUa (.tail _ (.head _)) h_M) fun M2 h_M2 => ?_
  refine par_lt (eqo_oU (.head _) h_M2) fun M3 h_M3 => ?_
  exact par_some h_M3
theorem fr_M_waitTop {f : Nat} {M : oM} {B : oM} (h_M : eqo [] B M) : par (p_M_waitTop f M) (fun s => eqo [] B s.2) := by
  unfold p_M_waitTop
  refine par_ite ?_ ?_
  · exact par_some h_M
  · refine par_bnd fun i1 => ?_
    refine par_nz fun z2 => ?_
    exact par_some h_M
theorem fr_M_endsPiece_L0 {f : Nat} {B : oM} : ∀ (s : oM), (fun s => eqo [(57, 12), (57, 13), (57, 14), (64, (-1))] B s) s → par (p_M_endsPiece_L0 f s) (psum (fun s => eqo [(57, 12), (57, 13), (57, 14), (64, (-1))] B s) (fun s => eqo [(57, 12), (57, 13), (57, 14), (64, (-1))] B s.2)) := by
  intro s hs
  revert s hs
  intro M hs
  have h_M : eqo [(57, 12), (57, 13), (57, 14), (64, (-1))] B M := hs
  unfold p_M_endsPiece_L0
  refine par_bind (fr_M_waitTop (eqo_rfl _ _)) fun q1 g_q1 => ?_
  have h_q1 := eqo_tr subw_nil h_M g_q1
  refine par_ite ?_ ?_
  · refine par_bind (fr_M_notes (eqo_rfl _ _)) fun q2 g_q2 => ?_
    have h_q2 := eqo_tr (subw_cons (.tail _ (.head _)) (subw_cons (.tail _ (.tail _ (.tail _ (.head _)))) subw_nil)) h_q1 g_q2
    refine par_lt (eqo_oU (.tail _ (.tail _ (.head _))) h_q2) fun M3 h_M3 => ?_
    refine par_lt (eqo_oU (.head _) h_M3) fun M4 h_M4 => ?_
    exact par_some h_M4
  · exact par_some h_q1
theorem fr_M_endsPiece {f : Nat} {M : oM} {B : oM} (h_M : eqo [(57, 12), (57, 13), (57, 14), (64, (-1))] B M) : par (p_M_endsPiece f M) (fun s => eqo [(57, 12), (57, 13), (57, 14), (64, (-1))] B s.2) := by
  unfold p_M_endsPiece
  exact par_iter (fun s hs => fr_M_endsPiece_L0 s hs) _ h_M
theorem fr_M_jumps {f : Nat} {l1 : Int} {M : oM} {B : oM} (h_M : eqo [(57, 8), (57, 13), (57, 14), (64, (-1)), (65, (-1))] B M) : par (p_M_jumps f l1 M) (fun s => eqo [(57, 8), (57, 13), (57, 14), (64, (-1)), (65, (-1))] B s.2) := by
  unfold p_M_jumps
  refine par_bnd fun i1 => ?_
  refine par_lt (eqo_oUa (.tail _ (.tail _ (.tail _ (.tail _ (.head _))))) h_M) fun M2 h_M2 => ?_
  refine par_lt (eqo_oU (.tail _ (.tail _ (.head _))) h_M2) fun M3 h_M3 => ?_
  refine par_bind (fr_M_notes (eqo_rfl _ _)) fun q4 g_q4 => ?_
  have h_q4 := eqo_tr (subw_cons (.tail _ (.head _)) (subw_cons (.tail _ (.tail _ (.tail _ (.head _)))) subw_nil)) h_M3 g_q4
  refine par_lt (eqo_oU (.head _) h_q4) fun M5 h_M5 => ?_
  exact par_some h_M5
theorem fr_M_lands_B22_0 {f : Nat} {l1 : Int} {M : oM} {B : oM} (h_M : eqo [(57, 14), (64, (-1))] B M) : par (p_M_lands_B22_0 f l1 M) (psum (fun s => eqo [(57, 14), (64, (-1))] B s) (fun s => eqo [(57, 14), (64, (-1))] B s.2)) := by
  unfold p_M_lands_B22_0
  refine par_bnd fun i1 => ?_
  refine par_nz fun z2 => ?_
  refine par_ltI fun x3 => ?_
  refine par_bnd fun i4 => ?_
  refine par_nz fun z5 => ?_
  refine par_bnd fun i6 => ?_
  refine par_lt (eqo_oUa (.tail _ (.head _)) h_M) fun M7 h_M7 => ?_
  refine par_lt (eqo_oU (.head _) h_M7) fun M8 h_M8 => ?_
  exact par_some h_M8
theorem fr_M_lands_L0 {f : Nat} {l1 : Int} {B : oM} : ∀ (s : oM), (fun s => eqo [(57, 14), (64, (-1))] B s) s → par (p_M_lands_L0 f l1 s) (psum (fun s => eqo [(57, 14), (64, (-1))] B s) (fun s => eqo [(57, 14), (64, (-1))] B s.2)) := by
  intro s hs
  revert s hs
  intro M hs
  have h_M : eqo [(57, 14), (64, (-1))] B M := hs
  unfold p_M_lands_L0
  refine par_bind (fr_M_waitTop (eqo_rfl _ _)) fun q9 g_q9 => ?_
  have h_q9 := eqo_tr subw_nil h_M g_q9
  refine par_ite ?_ ?_
  · exact fr_M_lands_B22_0 h_q9
  · refine par_ite ?_ ?_
    · exact par_some h_q9
    · refine par_bind (fr_M_waitTop (eqo_rfl _ _)) fun q10 g_q10 => ?_
      have h_q10 := eqo_tr subw_nil h_q9 g_q10
      refine par_ite ?_ ?_
      · exact fr_M_lands_B22_0 h_q10
      · exact par_some h_q10
theorem fr_M_lands {f : Nat} {l1 : Int} {M : oM} {B : oM} (h_M : eqo [(57, 14), (64, (-1))] B M) : par (p_M_lands f l1 M) (fun s => eqo [(57, 14), (64, (-1))] B s.2) := by
  unfold p_M_lands
  exact par_iter (fun s hs => fr_M_lands_L0 s hs) _ h_M
theorem fr_M_wrongAt {f : Nat} {l1 : Int} {l2 : Int} {M : oM} {B : oM} (h_M : eqo [(57, 10)] B M) : par (p_M_wrongAt f l1 l2 M) (fun s => eqo [(57, 10)] B s.2) := by
  unfold p_M_wrongAt
  refine par_lt (eqo_oU (.head _) h_M) fun M1 h_M1 => ?_
  exact par_some h_M1
theorem fr_M_opens {f : Nat} {l1 : Int} {M : oM} {B : oM} (h_M : eqo [(57, 8), (57, 10), (57, 12), (57, 14), (65, (-1))] B M) : par (p_M_opens f l1 M) (fun s => eqo [(57, 8), (57, 10), (57, 12), (57, 14), (65, (-1))] B s.2) := by
  unfold p_M_opens
  refine par_ite ?_ ?_
  · refine par_bind (fr_M_wrongAt (eqo_rfl _ _)) fun q6 g_q6 => ?_
    have h_q6 := eqo_tr (subw_cons (.tail _ (.head _)) subw_nil) h_M g_q6
    refine par_bnd fun b7 => ?_
    exact par_some h_q6
  · refine par_lt (eqo_oU (.tail _ (.tail _ (.head _))) h_M) fun M1 h_M1 => ?_
    refine par_bnd fun i2 => ?_
    refine par_lt (eqo_oUa (.tail _ (.tail _ (.tail _ (.tail _ (.head _))))) h_M1) fun M3 h_M3 => ?_
    refine par_lt (eqo_oU (.tail _ (.tail _ (.tail _ (.head _)))) h_M3) fun M4 h_M4 => ?_
    refine par_lt (eqo_oU (.head _) h_M4) fun M5 h_M5 => ?_
    exact par_some h_M5
theorem fr_M_closesSums_B37_0 {f : Nat} {l1 : Int} {M : oM} {B : oM} (h_M : eqo [(57, 13), (57, 14), (64, (-1))] B M) : par (p_M_closesSums_B37_0 f l1 M) (psum (fun s => eqo [(57, 13), (57, 14), (64, (-1))] B s) (fun s => eqo [(57, 13), (57, 14), (64, (-1))] B s.2)) := by
  unfold p_M_closesSums_B37_0
  refine par_bind (fr_M_waitTop (eqo_rfl _ _)) fun q1 g_q1 => ?_
  have h_q1 := eqo_tr subw_nil h_M g_q1
  refine par_bind (fr_M_notes (eqo_rfl _ _)) fun q2 g_q2 => ?_
  have h_q2 := eqo_tr (subw_cons (.head _) (subw_cons (.tail _ (.tail _ (.head _))) subw_nil)) h_q1 g_q2
  refine par_lt (eqo_oU (.tail _ (.head _)) h_q2) fun M3 h_M3 => ?_
  exact par_some h_M3
theorem fr_M_closesSums_B17_0 {f : Nat} {l1 : Int} {M : oM} {B : oM} (h_M : eqo [(57, 13), (57, 14), (64, (-1))] B M) : par (p_M_closesSums_B17_0 f l1 M) (psum (fun s => eqo [(57, 13), (57, 14), (64, (-1))] B s) (fun s => eqo [(57, 13), (57, 14), (64, (-1))] B s.2)) := by
  unfold p_M_closesSums_B17_0
  refine par_ite ?_ ?_
  · exact par_some h_M
  · refine par_bind (fr_M_waitTop (eqo_rfl _ _)) fun q4 g_q4 => ?_
    have h_q4 := eqo_tr subw_nil h_M g_q4
    refine par_ite ?_ ?_
    · exact fr_M_closesSums_B37_0 h_q4
    · refine par_bind (fr_M_waitTop (eqo_rfl _ _)) fun q5 g_q5 => ?_
      have h_q5 := eqo_tr subw_nil h_q4 g_q5
      refine par_ite ?_ ?_
      · exact fr_M_closesSums_B37_0 h_q5
      · exact par_some h_q5
theorem fr_M_closesSums_L0 {f : Nat} {l1 : Int} {B : oM} : ∀ (s : oM), (fun s => eqo [(57, 13), (57, 14), (64, (-1))] B s) s → par (p_M_closesSums_L0 f l1 s) (psum (fun s => eqo [(57, 13), (57, 14), (64, (-1))] B s) (fun s => eqo [(57, 13), (57, 14), (64, (-1))] B s.2)) := by
  intro s hs
  revert s hs
  intro M hs
  have h_M : eqo [(57, 13), (57, 14), (64, (-1))] B M := hs
  unfold p_M_closesSums_L0
  refine par_bind (fr_M_waitTop (eqo_rfl _ _)) fun q6 g_q6 => ?_
  have h_q6 := eqo_tr subw_nil h_M g_q6
  refine par_ite ?_ ?_
  · exact fr_M_closesSums_B17_0 h_q6
  · refine par_bind (fr_M_waitTop (eqo_rfl _ _)) fun q7 g_q7 => ?_
    have h_q7 := eqo_tr subw_nil h_q6 g_q7
    refine par_ite ?_ ?_
    · exact fr_M_closesSums_B17_0 h_q7
    · exact fr_M_closesSums_B37_0 h_q7
theorem fr_M_closesSums {f : Nat} {l1 : Int} {M : oM} {B : oM} (h_M : eqo [(57, 13), (57, 14), (64, (-1))] B M) : par (p_M_closesSums f l1 M) (fun s => eqo [(57, 13), (57, 14), (64, (-1))] B s.2) := by
  unfold p_M_closesSums
  exact par_iter (fun s hs => fr_M_closesSums_L0 s hs) _ h_M
theorem fr_M_hasOpenSum_L2 {f : Nat} {B : oM} : ∀ (s : Int × oM), (fun s => eqo [] B s.2) s → par (p_M_hasOpenSum_L2 f s) (psum (fun s => eqo [] B s.2) (fun s => eqo [] B s.2)) := by
  intro s hs
  obtain ⟨l2, M⟩ := s
  have h_M : eqo [] B M := hs
  unfold p_M_hasOpenSum_L2
  refine par_ite ?_ ?_
  · refine par_bnd fun i1 => ?_
    refine par_nz fun z2 => ?_
    refine par_ite ?_ ?_
    · exact par_some h_M
    · refine par_ltI fun x3 => ?_
      exact par_some h_M
  · exact par_some h_M
theorem fr_M_hasOpenSum {f : Nat} {l1 : Int} {M : oM} {B : oM} (h_M : eqo [] B M) : par (p_M_hasOpenSum f l1 M) (fun s => eqo [] B s.2) := by
  unfold p_M_hasOpenSum
  exact par_iter (fun s hs => fr_M_hasOpenSum_L2 s hs) _ h_M
theorem fr_M_factOf {f : Nat} {l0 : Int} {M : oM} {B : oM} (h_M : eqo [] B M) : par (p_M_factOf f l0 M) (fun s => eqo [] B s.2) := by
  unfold p_M_factOf
  refine par_ite ?_ ?_
  · exact par_some h_M
  · refine par_ite ?_ ?_
    · exact par_some h_M
    · refine par_ite ?_ ?_
      · exact par_some h_M
      · refine par_ite ?_ ?_
        · exact par_some h_M
        · refine par_ite ?_ ?_
          · exact par_some h_M
          · refine par_ite ?_ ?_
            · exact par_some h_M
            · refine par_ite ?_ ?_
              · exact par_some h_M
              · refine par_ite ?_ ?_
                · exact par_some h_M
                · refine par_ite ?_ ?_
                  · exact par_some h_M
                  · refine par_ite ?_ ?_
                    · exact par_some h_M
                    · refine par_ite ?_ ?_
                      · exact par_some h_M
                      · refine par_ite ?_ ?_
                        · exact par_some h_M
                        · refine par_ite ?_ ?_
                          · exact par_some h_M
                          · refine par_ite ?_ ?_
                            · exact par_some h_M
                            · refine par_ite ?_ ?_
                              · exact par_some h_M
                              · refine par_ite ?_ ?_
                                · exact par_some h_M
                                · refine par_ite ?_ ?_
                                  · exact par_some h_M
                                  · refine par_ite ?_ ?_
                                    · exact par_some h_M
                                    · refine par_ite ?_ ?_
                                      · exact par_some h_M
                                      · refine par_ite ?_ ?_
                                        · exact par_some h_M
                                        · refine par_ite ?_ ?_
                                          · exact par_some h_M
                                          · refine par_ite ?_ ?_
                                            · exact par_some h_M
                                            · refine par_ite ?_ ?_
                                              · exact par_some h_M
                                              · exact par_some h_M
theorem fr_M_isDigit {f : Nat} {M : oM} {B : oM} (h_M : eqo [] B M) : par (p_M_isDigit f M) (fun s => eqo [] B s.2) := by
  unfold p_M_isDigit
  refine par_bind (fr_M_here (eqo_rfl _ _)) fun q1 g_q1 => ?_
  have h_q1 := eqo_tr subw_nil h_M g_q1
  refine par_ite ?_ ?_
  · exact par_some h_q1
  · refine par_bind (fr_M_here (eqo_rfl _ _)) fun q2 g_q2 => ?_
    have h_q2 := eqo_tr subw_nil h_q1 g_q2
    refine par_ite ?_ ?_
    · exact par_some h_q2
    · exact par_some h_q2
theorem fr_M_readsNumber_L10 {f : Nat} {l1 : Int} {B : oM} : ∀ (s : oM), (fun s => eqo [(57, 8), (57, 10), (57, 11)] B s) s → par (p_M_readsNumber_L10 f l1 s) (psum (fun s => eqo [(57, 8), (57, 10), (57, 11)] B s) (fun s => eqo [(57, 8), (57, 10), (57, 11)] B s.2)) := by
  intro s hs
  revert s hs
  intro M hs
  have h_M : eqo [(57, 8), (57, 10), (57, 11)] B M := hs
  unfold p_M_readsNumber_L10
  refine par_bind (fr_M_isDigit (eqo_rfl _ _)) fun q1 g_q1 => ?_
  have h_q1 := eqo_tr subw_nil h_M g_q1
  refine par_ite ?_ ?_
  · exact par_some h_q1
  · refine par_ite ?_ ?_
    · refine par_bind (fr_M_wrongAt (eqo_rfl _ _)) fun q5 g_q5 => ?_
      have h_q5 := eqo_tr (subw_cons (.tail _ (.head _)) subw_nil) h_q1 g_q5
      refine par_bnd fun b6 => ?_
      exact par_some h_q5
    · refine par_bind (fr_M_here (eqo_rfl _ _)) fun q2 g_q2 => ?_
      have h_q2 := eqo_tr subw_nil h_q1 g_q2
      refine par_lt (eqo_oU (.tail _ (.tail _ (.head _))) h_q2) fun M3 h_M3 => ?_
      refine par_lt (eqo_oU (.head _) h_M3) fun M4 h_M4 => ?_
      exact par_some h_M4
theorem fr_M_readsNumber {f : Nat} {M : oM} {B : oM} (h_M : eqo [(57, 8), (57, 10), (57, 11)] B M) : par (p_M_readsNumber f M) (fun s => eqo [(57, 8), (57, 10), (57, 11)] B s.2) := by
  unfold p_M_readsNumber
  refine par_ltI fun x7 => ?_
  refine par_lt (eqo_oU (.tail _ (.tail _ (.head _))) h_M) fun M8 h_M8 => ?_
  exact par_iter (fun s hs => fr_M_readsNumber_L10 s hs) _ h_M8
theorem fr_M_readsFactor_L0 {f : Nat} {B : oM} : ∀ (s : oM), (fun s => eqo [(57, 8), (57, 10), (57, 11), (57, 12), (57, 13), (57, 14), (64, (-1)), (65, (-1))] B s) s → par (p_M_readsFactor_L0 f s) (psum (fun s => eqo [(57, 8), (57, 10), (57, 11), (57, 12), (57, 13), (57, 14), (64, (-1)), (65, (-1))] B s) (fun s => eqo [(57, 8), (57, 10), (57, 11), (57, 12), (57, 13), (57, 14), (64, (-1)), (65, (-1))] B s.2)) := by
  intro s hs
  revert s hs
  intro M hs
  have h_M : eqo [(57, 8), (57, 10), (57, 11), (57, 12), (57, 13), (57, 14), (64, (-1)), (65, (-1))] B M := hs
  unfold p_M_readsFactor_L0
  refine par_bind (fr_M_here (eqo_rfl _ _)) fun q1 g_q1 => ?_
  have h_q1 := eqo_tr subw_nil h_M g_q1
  refine par_ite ?_ ?_
  · refine par_bind (fr_M_opens (eqo_rfl _ _)) fun q11 g_q11 => ?_
    have h_q11 := eqo_tr (subw_cons (.head _) (subw_cons (.tail _ (.head _)) (subw_cons (.tail _ (.tail _ (.tail _ (.head _)))) (subw_cons (.tail _ (.tail _ (.tail _ (.tail _ (.tail _ (.head _)))))) (subw_cons (.tail _ (.tail _ (.tail _ (.tail _ (.tail _ (.tail _ (.tail _ (.head _)))))))) subw_nil))))) h_q1 g_q11
    refine par_ite ?_ ?_
    · exact par_some h_q11
    · exact par_some h_q11
  · refine par_bind (fr_M_isDigit (eqo_rfl _ _)) fun q2 g_q2 => ?_
    have h_q2 := eqo_tr subw_nil h_q1 g_q2
    refine par_ite ?_ ?_
    · refine par_bind (fr_M_here (eqo_rfl _ _)) fun q3 g_q3 => ?_
      have h_q3 := eqo_tr subw_nil h_q2 g_q3
      refine par_bind (fr_M_factOf (eqo_rfl _ _)) fun q4 g_q4 => ?_
      have h_q4 := eqo_tr subw_nil h_q3 g_q4
      refine par_ite ?_ ?_
      · refine par_bind (fr_M_wrongAt (eqo_rfl _ _)) fun q7 g_q7 => ?_
        have h_q7 := eqo_tr (subw_cons (.tail _ (.head _)) subw_nil) h_q4 g_q7
        refine par_bnd fun b8 => ?_
        exact par_some h_q7
      · refine par_bind (fr_M_notes (eqo_rfl _ _)) fun q5 g_q5 => ?_
        have h_q5 := eqo_tr (subw_cons (.tail _ (.tail _ (.tail _ (.tail _ (.head _))))) (subw_cons (.tail _ (.tail _ (.tail _ (.tail _ (.tail _ (.tail _ (.head _))))))) subw_nil)) h_q4 g_q5
        refine par_lt (eqo_oU (.head _) h_q5) fun M6 h_M6 => ?_
        exact par_some h_M6
    · refine par_bind (fr_M_readsNumber (eqo_rfl _ _)) fun q9 g_q9 => ?_
      have h_q9 := eqo_tr (subw_cons (.head _) (subw_cons (.tail _ (.head _)) (subw_cons (.tail _ (.tail _ (.head _))) subw_nil))) h_q2 g_q9
      refine par_ite ?_ ?_
      · exact par_some h_q9
      · refine par_bind (fr_M_notes (eqo_rfl _ _)) fun q10 g_q10 => ?_
        have h_q10 := eqo_tr (subw_cons (.tail _ (.tail _ (.tail _ (.tail _ (.head _))))) (subw_cons (.tail _ (.tail _ (.tail _ (.tail _ (.tail _ (.tail _ (.head _))))))) subw_nil)) h_q9 g_q10
        exact par_some h_q10
theorem fr_M_readsFactor {f : Nat} {M : oM} {B : oM} (h_M : eqo [(57, 8), (57, 10), (57, 11), (57, 12), (57, 13), (57, 14), (64, (-1)), (65, (-1))] B M) : par (p_M_readsFactor f M) (fun s => eqo [(57, 8), (57, 10), (57, 11), (57, 12), (57, 13), (57, 14), (64, (-1)), (65, (-1))] B s.2) := by
  unfold p_M_readsFactor
  exact par_iter (fun s hs => fr_M_readsFactor_L0 s hs) _ h_M
theorem fr_M_sumSign {f : Nat} {l0 : Int} {M : oM} {B : oM} (h_M : eqo [] B M) : par (p_M_sumSign f l0 M) (fun s => eqo [] B s.2) := by
  unfold p_M_sumSign
  refine par_ite ?_ ?_
  · exact par_some h_M
  · refine par_ite ?_ ?_
    · exact par_some h_M
    · refine par_ite ?_ ?_
      · exact par_some h_M
      · refine par_ite ?_ ?_
        · exact par_some h_M
        · refine par_ite ?_ ?_
          · exact par_some h_M
          · exact par_some h_M
theorem fr_M_readsSum_B138_14 {f : Nat} {l1 : Int} {M : oM} {B : oM} (h_M : eqo [(57, 8), (57, 10), (57, 11), (57, 12), (57, 13), (57, 14), (64, (-1)), (65, (-1))] B M) : par (p_M_readsSum_B138_14 f l1 M) (psum (fun s => eqo [(57, 8), (57, 10), (57, 11), (57, 12), (57, 13), (57, 14), (64, (-1)), (65, (-1))] B s) (fun s => eqo [(57, 8), (57, 10), (57, 11), (57, 12), (57, 13), (57, 14), (64, (-1)), (65, (-1))] B s.2)) := by
  unfold p_M_readsSum_B138_14
  refine par_bind (fr_M_hasOpenSum (eqo_rfl _ _)) fun q1 g_q1 => ?_
  have h_q1 := eqo_tr subw_nil h_M g_q1
  refine par_ite ?_ ?_
  · refine par_bind (fr_M_closesSums (eqo_rfl _ _)) fun q2 g_q2 => ?_
    have h_q2 := eqo_tr (subw_cons (.tail _ (.tail _ (.tail _ (.tail _ (.head _))))) (subw_cons (.tail _ (.tail _ (.tail _ (.tail _ (.tail _ (.head _)))))) (subw_cons (.tail _ (.tail _ (.tail _ (.tail _ (.tail _ (.tail _ (.head _))))))) subw_nil))) h_q1 g_q2
    exact par_some h_q2
  · refine par_bind (fr_M_wrongAt (eqo_rfl _ _)) fun q3 g_q3 => ?_
    have h_q3 := eqo_tr (subw_cons (.tail _ (.head _)) subw_nil) h_q1 g_q3
    refine par_bnd fun b4 => ?_
    exact par_some h_q3
theorem fr_M_readsSum_B163_14 {f : Nat} {l1 : Int} {M : oM} {B : oM} (h_M : eqo [(57, 8), (57, 10), (57, 11), (57, 12), (57, 13), (57, 14), (64, (-1)), (65, (-1))] B M) : par (p_M_readsSum_B163_14 f l1 M) (psum (fun s => eqo [(57, 8), (57, 10), (57, 11), (57, 12), (57, 13), (57, 14), (64, (-1)), (65, (-1))] B s) (fun s => eqo [(57, 8), (57, 10), (57, 11), (57, 12), (57, 13), (57, 14), (64, (-1)), (65, (-1))] B s.2)) := by
  unfold p_M_readsSum_B163_14
  exact par_some h_M
theorem fr_M_readsSum_B38_14 {f : Nat} {l1 : Int} {l2 : Int} {s1 : Int} {M : oM} {B : oM} (h_M : eqo [(57, 8), (57, 10), (57, 11), (57, 12), (57, 13), (57, 14), (64, (-1)), (65, (-1))] B M) : par (p_M_readsSum_B38_14 f l1 l2 s1 M) (psum (fun s => eqo [(57, 8), (57, 10), (57, 11), (57, 12), (57, 13), (57, 14), (64, (-1)), (65, (-1))] B s) (fun s => eqo [(57, 8), (57, 10), (57, 11), (57, 12), (57, 13), (57, 14), (64, (-1)), (65, (-1))] B s.2)) := by
  unfold p_M_readsSum_B38_14
  refine par_bind (fr_M_closesSums (eqo_rfl _ _)) fun q5 g_q5 => ?_
  have h_q5 := eqo_tr (subw_cons (.tail _ (.tail _ (.tail _ (.tail _ (.head _))))) (subw_cons (.tail _ (.tail _ (.tail _ (.tail _ (.tail _ (.head _)))))) (subw_cons (.tail _ (.tail _ (.tail _ (.tail _ (.tail _ (.tail _ (.head _))))))) subw_nil))) h_M g_q5
  refine par_bnd fun i6 => ?_
  refine par_lt (eqo_oUa (.tail _ (.tail _ (.tail _ (.tail _ (.tail _ (.tail _ (.tail _ (.head _)))))))) h_q5) fun M7 h_M7 => ?_
  refine par_lt (eqo_oU (.tail _ (.tail _ (.tail _ (.tail _ (.tail _ (.head _)))))) h_M7) fun M8 h_M8 => ?_
  refine par_lt (eqo_oU (.head _) h_M8) fun M9 h_M9 => ?_
  refine par_bind (fr_M_readsFactor (eqo_rfl _ _)) fun q10 g_q10 => ?_
  have h_q10 := eqo_tr (subw_cons (.head _) (subw_cons (.tail _ (.head _)) (subw_cons (.tail _ (.tail _ (.head _))) (subw_cons (.tail _ (.tail _ (.tail _ (.head _)))) (subw_cons (.tail _ (.tail _ (.tail _ (.tail _ (.head _))))) (subw_cons (.tail _ (.tail _ (.tail _ (.tail _ (.tail _ (.head _)))))) (subw_cons (.tail _ (.tail _ (.tail _ (.tail _ (.tail _ (.tail _ (.head _))))))) (subw_cons (.tail _ (.tail _ (.tail _ (.tail _ (.tail _ (.tail _ (.tail _ (.head _)))))))) subw_nil)))))))) h_M9 g_q10
  refine par_ite ?_ ?_
  · exact par_some h_q10
  · exact fr_M_readsSum_B163_14 h_q10
theorem fr_M_readsSum_L14 {f : Nat} {l1 : Int} {B : oM} : ∀ (s : oM), (fun s => eqo [(57, 8), (57, 10), (57, 11), (57, 12), (57, 13), (57, 14), (64, (-1)), (65, (-1))] B s) s → par (p_M_readsSum_L14 f l1 s) (psum (fun s => eqo [(57, 8), (57, 10), (57, 11), (57, 12), (57, 13), (57, 14), (64, (-1)), (65, (-1))] B s) (fun s => eqo [(57, 8), (57, 10), (57, 11), (57, 12), (57, 13), (57, 14), (64, (-1)), (65, (-1))] B s.2)) := by
  intro s hs
  revert s hs
  intro M hs
  have h_M : eqo [(57, 8), (57, 10), (57, 11), (57, 12), (57, 13), (57, 14), (64, (-1)), (65, (-1))] B M := hs
  unfold p_M_readsSum_L14
  refine par_bind (fr_M_here (eqo_rfl _ _)) fun q11 g_q11 => ?_
  have h_q11 := eqo_tr subw_nil h_M g_q11
  refine par_bind (fr_M_sumSign (eqo_rfl _ _)) fun q12 g_q12 => ?_
  have h_q12 := eqo_tr subw_nil h_q11 g_q12
  refine par_ite ?_ ?_
  · refine par_bind (fr_M_here (eqo_rfl _ _)) fun q13 g_q13 => ?_
    have h_q13 := eqo_tr subw_nil h_q12 g_q13
    refine par_ite ?_ ?_
    · refine par_bind (fr_M_hasOpenSum (eqo_rfl _ _)) fun q14 g_q14 => ?_
      have h_q14 := eqo_tr subw_nil h_q13 g_q14
      refine par_ite ?_ ?_
      · exact fr_M_readsSum_B138_14 h_q14
      · refine par_bind (fr_M_closesSums (eqo_rfl _ _)) fun q15 g_q15 => ?_
        have h_q15 := eqo_tr (subw_cons (.tail _ (.tail _ (.tail _ (.tail _ (.head _))))) (subw_cons (.tail _ (.tail _ (.tail _ (.tail _ (.tail _ (.head _)))))) (subw_cons (.tail _ (.tail _ (.tail _ (.tail _ (.tail _ (.tail _ (.head _))))))) subw_nil))) h_q14 g_q15
        refine par_lt (eqo_oU (.tail _ (.tail _ (.tail _ (.tail _ (.tail _ (.head _)))))) h_q15) fun M16 h_M16 => ?_
        refine par_lt (eqo_oU (.tail _ (.tail _ (.tail _ (.head _)))) h_M16) fun M17 h_M17 => ?_
        refine par_lt (eqo_oU (.head _) h_M17) fun M18 h_M18 => ?_
        exact fr_M_readsSum_B163_14 h_M18
    · exact fr_M_readsSum_B138_14 h_q13
  · refine par_ite ?_ ?_
    · exact fr_M_readsSum_B38_14 h_q12
    · exact fr_M_readsSum_B38_14 h_q12
theorem fr_M_readsSum {f : Nat} {M : oM} {B : oM} (h_M : eqo [(57, 8), (57, 10), (57, 11), (57, 12), (57, 13), (57, 14), (64, (-1)), (65, (-1))] B M) : par (p_M_readsSum f M) (fun s => eqo [(57, 8), (57, 10), (57, 11), (57, 12), (57, 13), (57, 14), (64, (-1)), (65, (-1))] B s.2) := by
  unfold p_M_readsSum
  refine par_ltI fun x19 => ?_
  refine par_bind (fr_M_readsFactor (eqo_rfl _ _)) fun q20 g_q20 => ?_
  have h_q20 := eqo_tr (subw_cons (.head _) (subw_cons (.tail _ (.head _)) (subw_cons (.tail _ (.tail _ (.head _))) (subw_cons (.tail _ (.tail _ (.tail _ (.head _)))) (subw_cons (.tail _ (.tail _ (.tail _ (.tail _ (.head _))))) (subw_cons (.tail _ (.tail _ (.tail _ (.tail _ (.tail _ (.head _)))))) (subw_cons (.tail _ (.tail _ (.tail _ (.tail _ (.tail _ (.tail _ (.head _))))))) (subw_cons (.tail _ (.tail _ (.tail _ (.tail _ (.tail _ (.tail _ (.tail _ (.head _)))))))) subw_nil)))))))) h_M g_q20
  refine par_ite ?_ ?_
  · exact par_some h_q20
  · exact par_iter (fun s hs => fr_M_readsSum_L14 s hs) _ h_q20
theorem fr_M_readsCompared_B52 {f : Nat} {s0 : Int} {M : oM} {B : oM} (h_M : eqo [(57, 8), (57, 10), (57, 11), (57, 12), (57, 13), (57, 14), (64, (-1)), (65, (-1))] B M) : par (p_M_readsCompared_B52 f s0 M) (fun s => eqo [(57, 8), (57, 10), (57, 11), (57, 12), (57, 13), (57, 14), (64, (-1)), (65, (-1))] B s.2) := by
  unfold p_M_readsCompared_B52
  refine par_ite ?_ ?_
  · refine par_bind (fr_M_wrongAt (eqo_rfl _ _)) fun q5 g_q5 => ?_
    have h_q5 := eqo_tr (subw_cons (.tail _ (.head _)) subw_nil) h_M g_q5
    refine par_bnd fun b6 => ?_
    exact par_some h_q5
  · refine par_lt (eqo_oU (.head _) h_M) fun M1 h_M1 => ?_
    refine par_bind (fr_M_readsSum (eqo_rfl _ _)) fun q2 g_q2 => ?_
    have h_q2 := eqo_tr (subw_cons (.head _) (subw_cons (.tail _ (.head _)) (subw_cons (.tail _ (.tail _ (.head _))) (subw_cons (.tail _ (.tail _ (.tail _ (.head _)))) (subw_cons (.tail _ (.tail _ (.tail _ (.tail _ (.head _))))) (subw_cons (.tail _ (.tail _ (.tail _ (.tail _ (.tail _ (.head _)))))) (subw_cons (.tail _ (.tail _ (.tail _ (.tail _ (.tail _ (.tail _ (.head _))))))) (subw_cons (.tail _ (.tail _ (.tail _ (.tail _ (.tail _ (.tail _ (.tail _ (.head _)))))))) subw_nil)))))))) h_M1 g_q2
    refine par_ite ?_ ?_
    · exact par_some h_q2
    · refine par_bind (fr_M_notes (eqo_rfl _ _)) fun q3 g_q3 => ?_
      have h_q3 := eqo_tr (subw_cons (.tail _ (.tail _ (.tail _ (.tail _ (.head _))))) (subw_cons (.tail _ (.tail _ (.tail _ (.tail _ (.tail _ (.tail _ (.head _))))))) subw_nil)) h_q2 g_q3
      refine par_bind (fr_M_endsPiece (eqo_rfl _ _)) fun q4 g_q4 => ?_
      have h_q4 := eqo_tr (subw_cons (.tail _ (.tail _ (.tail _ (.head _)))) (subw_cons (.tail _ (.tail _ (.tail _ (.tail _ (.head _))))) (subw_cons (.tail _ (.tail _ (.tail _ (.tail _ (.tail _ (.head _)))))) (subw_cons (.tail _ (.tail _ (.tail _ (.tail _ (.tail _ (.tail _ (.head _))))))) subw_nil)))) h_q3 g_q4
      exact par_some h_q4
theorem fr_M_readsCompared {f : Nat} {M : oM} {B : oM} (h_M : eqo [(57, 8), (57, 10), (57, 11), (57, 12), (57, 13), (57, 14), (64, (-1)), (65, (-1))] B M) : par (p_M_readsCompared f M) (fun s => eqo [(57, 8), (57, 10), (57, 11), (57, 12), (57, 13), (57, 14), (64, (-1)), (65, (-1))] B s.2) := by
  unfold p_M_readsCompared
  refine par_bind (fr_M_readsSum (eqo_rfl _ _)) fun q7 g_q7 => ?_
  have h_q7 := eqo_tr (subw_cons (.head _) (subw_cons (.tail _ (.head _)) (subw_cons (.tail _ (.tail _ (.head _))) (subw_cons (.tail _ (.tail _ (.tail _ (.head _)))) (subw_cons (.tail _ (.tail _ (.tail _ (.tail _ (.head _))))) (subw_cons (.tail _ (.tail _ (.tail _ (.tail _ (.tail _ (.head _)))))) (subw_cons (.tail _ (.tail _ (.tail _ (.tail _ (.tail _ (.tail _ (.head _))))))) (subw_cons (.tail _ (.tail _ (.tail _ (.tail _ (.tail _ (.tail _ (.tail _ (.head _)))))))) subw_nil)))))))) h_M g_q7
  refine par_ite ?_ ?_
  · exact par_some h_q7
  · refine par_bind (fr_M_here (eqo_rfl _ _)) fun q8 g_q8 => ?_
    have h_q8 := eqo_tr subw_nil h_q7 g_q8
    refine par_ite ?_ ?_
    · exact fr_M_readsCompared_B52 h_q8
    · refine par_bind (fr_M_here (eqo_rfl _ _)) fun q9 g_q9 => ?_
      have h_q9 := eqo_tr subw_nil h_q8 g_q9
      refine par_ite ?_ ?_
      · exact fr_M_readsCompared_B52 h_q9
      · refine par_bind (fr_M_here (eqo_rfl _ _)) fun q10 g_q10 => ?_
        have h_q10 := eqo_tr subw_nil h_q9 g_q10
        refine par_ite ?_ ?_
        · exact fr_M_readsCompared_B52 h_q10
        · exact fr_M_readsCompared_B52 h_q10
theorem fr_M_readsCondition_B75_40 {f : Nat} {s1 : Int} {M : oM} {B : oM} (h_M : eqo [(57, 8), (57, 10), (57, 11), (57, 12), (57, 13), (57, 14), (64, (-1)), (65, (-1))] B M) : par (p_M_readsCondition_B75_40 f s1 M) (psum (fun s => eqo [(57, 8), (57, 10), (57, 11), (57, 12), (57, 13), (57, 14), (64, (-1)), (65, (-1))] B s) (fun s => eqo [(57, 8), (57, 10), (57, 11), (57, 12), (57, 13), (57, 14), (64, (-1)), (65, (-1))] B s.2)) := by
  unfold p_M_readsCondition_B75_40
  refine par_bind (fr_M_opens (eqo_rfl _ _)) fun q1 g_q1 => ?_
  have h_q1 := eqo_tr (subw_cons (.head _) (subw_cons (.tail _ (.head _)) (subw_cons (.tail _ (.tail _ (.tail _ (.head _)))) (subw_cons (.tail _ (.tail _ (.tail _ (.tail _ (.tail _ (.head _)))))) (subw_cons (.tail _ (.tail _ (.tail _ (.tail _ (.tail _ (.tail _ (.tail _ (.head _)))))))) subw_nil))))) h_M g_q1
  refine par_ite ?_ ?_
  · exact par_some h_q1
  · exact par_some h_q1
theorem fr_M_readsCondition_B58_40 {f : Nat} {M : oM} {B : oM} (h_M : eqo [(57, 8), (57, 10), (57, 11), (57, 12), (57, 13), (57, 14), (64, (-1)), (65, (-1))] B M) : par (p_M_readsCondition_B58_40 f M) (psum (fun s => eqo [(57, 8), (57, 10), (57, 11), (57, 12), (57, 13), (57, 14), (64, (-1)), (65, (-1))] B s) (fun s => eqo [(57, 8), (57, 10), (57, 11), (57, 12), (57, 13), (57, 14), (64, (-1)), (65, (-1))] B s.2)) := by
  unfold p_M_readsCondition_B58_40
  refine par_bind (fr_M_here (eqo_rfl _ _)) fun q2 g_q2 => ?_
  have h_q2 := eqo_tr subw_nil h_M g_q2
  refine par_ite ?_ ?_
  · exact fr_M_readsCondition_B75_40 h_q2
  · exact fr_M_readsCondition_B75_40 h_q2
theorem fr_M_readsCondition_B215_40 {f : Nat} {s1 : Int} {M : oM} {B : oM} (h_M : eqo [(57, 8), (57, 10), (57, 11), (57, 12), (57, 13), (57, 14), (64, (-1)), (65, (-1))] B M) : par (p_M_readsCondition_B215_40 f s1 M) (psum (fun s => eqo [(57, 8), (57, 10), (57, 11), (57, 12), (57, 13), (57, 14), (64, (-1)), (65, (-1))] B s) (fun s => eqo [(57, 8), (57, 10), (57, 11), (57, 12), (57, 13), (57, 14), (64, (-1)), (65, (-1))] B s.2)) := by
  unfold p_M_readsCondition_B215_40
  refine par_bind (fr_M_jumps (eqo_rfl _ _)) fun q3 g_q3 => ?_
  have h_q3 := eqo_tr (subw_cons (.head _) (subw_cons (.tail _ (.tail _ (.tail _ (.tail _ (.head _))))) (subw_cons (.tail _ (.tail _ (.tail _ (.tail _ (.tail _ (.head _)))))) (subw_cons (.tail _ (.tail _ (.tail _ (.tail _ (.tail _ (.tail _ (.head _))))))) (subw_cons (.tail _ (.tail _ (.tail _ (.tail _ (.tail _ (.tail _ (.tail _ (.head _)))))))) subw_nil))))) h_M g_q3
  exact par_some h_q3
theorem fr_M_readsCondition_B195_40 {f : Nat} {s1 : Int} {M : oM} {B : oM} (h_M : eqo [(57, 8), (57, 10), (57, 11), (57, 12), (57, 13), (57, 14), (64, (-1)), (65, (-1))] B M) : par (p_M_readsCondition_B195_40 f s1 M) (psum (fun s => eqo [(57, 8), (57, 10), (57, 11), (57, 12), (57, 13), (57, 14), (64, (-1)), (65, (-1))] B s) (fun s => eqo [(57, 8), (57, 10), (57, 11), (57, 12), (57, 13), (57, 14), (64, (-1)), (65, (-1))] B s.2)) := by
  unfold p_M_readsCondition_B195_40
  refine par_bind (fr_M_lands (eqo_rfl _ _)) fun q4 g_q4 => ?_
  have h_q4 := eqo_tr (subw_cons (.tail _ (.tail _ (.tail _ (.tail _ (.tail _ (.head _)))))) (subw_cons (.tail _ (.tail _ (.tail _ (.tail _ (.tail _ (.tail _ (.head _))))))) subw_nil)) h_M g_q4
  refine par_bind (fr_M_here (eqo_rfl _ _)) fun q5 g_q5 => ?_
  have h_q5 := eqo_tr subw_nil h_q4 g_q5
  refine par_ite ?_ ?_
  · exact fr_M_readsCondition_B215_40 h_q5
  · exact fr_M_readsCondition_B215_40 h_q5
theorem fr_M_readsCondition_B180_40 {f : Nat} {M : oM} {B : oM} (h_M : eqo [(57, 8), (57, 10), (57, 11), (57, 12), (57, 13), (57, 14), (64, (-1)), (65, (-1))] B M) : par (p_M_readsCondition_B180_40 f M) (psum (fun s => eqo [(57, 8), (57, 10), (57, 11), (57, 12), (57, 13), (57, 14), (64, (-1)), (65, (-1))] B s) (fun s => eqo [(57, 8), (57, 10), (57, 11), (57, 12), (57, 13), (57, 14), (64, (-1)), (65, (-1))] B s.2)) := by
  unfold p_M_readsCondition_B180_40
  refine par_bind (fr_M_here (eqo_rfl _ _)) fun q6 g_q6 => ?_
  have h_q6 := eqo_tr subw_nil h_M g_q6
  refine par_ite ?_ ?_
  · exact fr_M_readsCondition_B195_40 h_q6
  · exact fr_M_readsCondition_B195_40 h_q6
theorem fr_M_readsCondition_X92 {f : Nat} {B : oM} : ∀ (s : (Int × oM) ⊕ (oM)), (psum (fun s => eqo [(57, 8), (57, 10), (57, 11), (57, 12), (57, 13), (57, 14), (64, (-1)), (65, (-1))] B s.2) (fun s => eqo [(57, 8), (57, 10), (57, 11), (57, 12), (57, 13), (57, 14), (64, (-1)), (65, (-1))] B s)) s → par (p_M_readsCondition_X92 f s) (psum (fun s => eqo [(57, 8), (57, 10), (57, 11), (57, 12), (57, 13), (57, 14), (64, (-1)), (65, (-1))] B s) (fun s => eqo [(57, 8), (57, 10), (57, 11), (57, 12), (57, 13), (57, 14), (64, (-1)), (65, (-1))] B s.2)) := by
  intro s hs
  cases s with
  | inl s =>
    revert s hs
    intro q hs
    have h_q := hs
    unfold p_M_readsCondition_X92
    exact par_some h_q
  | inr s =>
    revert s hs
    intro M hs
    have h_M : eqo [(57, 8), (57, 10), (57, 11), (57, 12), (57, 13), (57, 14), (64, (-1)), (65, (-1))] B M := hs
    unfold p_M_readsCondition_X92
    refine par_bind (fr_M_here (eqo_rfl _ _)) fun q7 g_q7 => ?_
    have h_q7 := eqo_tr subw_nil h_M g_q7
    refine par_ite ?_ ?_
    · exact fr_M_readsCondition_B180_40 h_q7
    · refine par_bind (fr_M_here (eqo_rfl _ _)) fun q8 g_q8 => ?_
      have h_q8 := eqo_tr subw_nil h_q7 g_q8
      refine par_ite ?_ ?_
      · exact fr_M_readsCondition_B180_40 h_q8
      · refine par_bind (fr_M_wrongAt (eqo_rfl _ _)) fun q9 g_q9 => ?_
        have h_q9 := eqo_tr (subw_cons (.tail _ (.head _)) subw_nil) h_q8 g_q9
        refine par_bnd fun b10 => ?_
        exact par_some h_q9
theorem fr_M_readsCondition_L92 {f : Nat} {B : oM} : ∀ (s : oM), (fun s => eqo [(57, 8), (57, 10), (57, 11), (57, 12), (57, 13), (57, 14), (64, (-1)), (65, (-1))] B s) s → par (p_M_readsCondition_L92 f s) (psum (fun s => eqo [(57, 8), (57, 10), (57, 11), (57, 12), (57, 13), (57, 14), (64, (-1)), (65, (-1))] B s) (psum (fun s => eqo [(57, 8), (57, 10), (57, 11), (57, 12), (57, 13), (57, 14), (64, (-1)), (65, (-1))] B s.2) (fun s => eqo [(57, 8), (57, 10), (57, 11), (57, 12), (57, 13), (57, 14), (64, (-1)), (65, (-1))] B s))) := by
  intro s hs
  revert s hs
  intro M hs
  have h_M : eqo [(57, 8), (57, 10), (57, 11), (57, 12), (57, 13), (57, 14), (64, (-1)), (65, (-1))] B M := hs
  unfold p_M_readsCondition_L92
  refine par_bind (fr_M_here (eqo_rfl _ _)) fun q11 g_q11 => ?_
  have h_q11 := eqo_tr subw_nil h_M g_q11
  refine par_ite ?_ ?_
  · refine par_bind (fr_M_lands (eqo_rfl _ _)) fun q12 g_q12 => ?_
    have h_q12 := eqo_tr (subw_cons (.tail _ (.tail _ (.tail _ (.tail _ (.tail _ (.head _)))))) (subw_cons (.tail _ (.tail _ (.tail _ (.tail _ (.tail _ (.tail _ (.head _))))))) subw_nil)) h_q11 g_q12
    refine par_lt (eqo_oU (.tail _ (.tail _ (.tail _ (.tail _ (.tail _ (.head _)))))) h_q12) fun M13 h_M13 => ?_
    refine par_lt (eqo_oU (.tail _ (.tail _ (.tail _ (.head _)))) h_M13) fun M14 h_M14 => ?_
    refine par_lt (eqo_oU (.head _) h_M14) fun M15 h_M15 => ?_
    refine par_ite ?_ ?_
    · exact par_some h_M15
    · refine par_bind (fr_M_endsPiece (eqo_rfl _ _)) fun q16 g_q16 => ?_
      have h_q16 := eqo_tr (subw_cons (.tail _ (.tail _ (.tail _ (.head _)))) (subw_cons (.tail _ (.tail _ (.tail _ (.tail _ (.head _))))) (subw_cons (.tail _ (.tail _ (.tail _ (.tail _ (.tail _ (.head _)))))) (subw_cons (.tail _ (.tail _ (.tail _ (.tail _ (.tail _ (.tail _ (.head _))))))) subw_nil)))) h_M15 g_q16
      exact par_some h_q16
  · exact par_some h_q11
theorem fr_M_readsCondition_L40 {f : Nat} {B : oM} : ∀ (s : oM), (fun s => eqo [(57, 8), (57, 10), (57, 11), (57, 12), (57, 13), (57, 14), (64, (-1)), (65, (-1))] B s) s → par (p_M_readsCondition_L40 f s) (psum (fun s => eqo [(57, 8), (57, 10), (57, 11), (57, 12), (57, 13), (57, 14), (64, (-1)), (65, (-1))] B s) (fun s => eqo [(57, 8), (57, 10), (57, 11), (57, 12), (57, 13), (57, 14), (64, (-1)), (65, (-1))] B s.2)) := by
  intro s hs
  revert s hs
  intro M hs
  have h_M : eqo [(57, 8), (57, 10), (57, 11), (57, 12), (57, 13), (57, 14), (64, (-1)), (65, (-1))] B M := hs
  unfold p_M_readsCondition_L40
  refine par_bind (fr_M_here (eqo_rfl _ _)) fun q17 g_q17 => ?_
  have h_q17 := eqo_tr subw_nil h_M g_q17
  refine par_ite ?_ ?_
  · exact fr_M_readsCondition_B58_40 h_q17
  · refine par_bind (fr_M_here (eqo_rfl _ _)) fun q18 g_q18 => ?_
    have h_q18 := eqo_tr subw_nil h_q17 g_q18
    refine par_ite ?_ ?_
    · exact fr_M_readsCondition_B58_40 h_q18
    · refine par_bind (fr_M_readsCompared (eqo_rfl _ _)) fun q19 g_q19 => ?_
      have h_q19 := eqo_tr (subw_cons (.head _) (subw_cons (.tail _ (.head _)) (subw_cons (.tail _ (.tail _ (.head _))) (subw_cons (.tail _ (.tail _ (.tail _ (.head _)))) (subw_cons (.tail _ (.tail _ (.tail _ (.tail _ (.head _))))) (subw_cons (.tail _ (.tail _ (.tail _ (.tail _ (.tail _ (.head _)))))) (subw_cons (.tail _ (.tail _ (.tail _ (.tail _ (.tail _ (.tail _ (.head _))))))) (subw_cons (.tail _ (.tail _ (.tail _ (.tail _ (.tail _ (.tail _ (.tail _ (.head _)))))))) subw_nil)))))))) h_q18 g_q19
      refine par_ite ?_ ?_
      · exact par_some h_q19
      · exact par_bind (par_iter (fun s hs => fr_M_readsCondition_L92 s hs) _ h_q19) fun s hs => fr_M_readsCondition_X92 s hs
theorem fr_M_readsCondition {f : Nat} {M : oM} {B : oM} (h_M : eqo [(57, 8), (57, 10), (57, 11), (57, 12), (57, 13), (57, 14), (64, (-1)), (65, (-1))] B M) : par (p_M_readsCondition f M) (fun s => eqo [(57, 8), (57, 10), (57, 11), (57, 12), (57, 13), (57, 14), (64, (-1)), (65, (-1))] B s.2) := by
  unfold p_M_readsCondition
  refine par_bind (fr_M_here (eqo_rfl _ _)) fun q20 g_q20 => ?_
  have h_q20 := eqo_tr subw_nil h_M g_q20
  refine par_ite ?_ ?_
  · refine par_lt (eqo_oU (.tail _ (.tail _ (.tail _ (.head _)))) h_q20) fun M21 h_M21 => ?_
    refine par_lt (eqo_oU (.tail _ (.tail _ (.tail _ (.tail _ (.tail _ (.head _)))))) h_M21) fun M22 h_M22 => ?_
    refine par_bind (fr_M_opens (eqo_rfl _ _)) fun q23 g_q23 => ?_
    have h_q23 := eqo_tr (subw_cons (.head _) (subw_cons (.tail _ (.head _)) (subw_cons (.tail _ (.tail _ (.tail _ (.head _)))) (subw_cons (.tail _ (.tail _ (.tail _ (.tail _ (.tail _ (.head _)))))) (subw_cons (.tail _ (.tail _ (.tail _ (.tail _ (.tail _ (.tail _ (.tail _ (.head _)))))))) subw_nil))))) h_M22 g_q23
    refine par_ite ?_ ?_
    · exact par_some h_q23
    · exact par_iter (fun s hs => fr_M_readsCondition_L40 s hs) _ h_q23
  · refine par_bind (fr_M_wrongAt (eqo_rfl _ _)) fun q24 g_q24 => ?_
    have h_q24 := eqo_tr (subw_cons (.tail _ (.head _)) subw_nil) h_q20 g_q24
    refine par_bnd fun b25 => ?_
    exact par_some h_q24
theorem fr_M_readsRule_B116 {f : Nat} {M : oM} {B : oM} (h_M : eqo [(57, 8), (57, 10), (57, 11), (57, 12), (57, 13), (57, 14), (57, 15), (64, (-1)), (65, (-1)), (66, (-1)), (67, (-1)), (68, (-1)), (69, (-1))] B M) : par (p_M_readsRule_B116 f M) (fun s => eqo [(57, 8), (57, 10), (57, 11), (57, 12), (57, 13), (57, 14), (57, 15), (64, (-1)), (65, (-1)), (66, (-1)), (67, (-1)), (68, (-1)), (69, (-1))] B s.2) := by
  unfold p_M_readsRule_B116
  refine par_bnd fun i1 => ?_
  refine par_lt (eqo_oUa (.tail _ (.tail _ (.tail _ (.tail _ (.tail _ (.tail _ (.tail _ (.tail _ (.tail _ (.tail _ (.tail _ (.head _)))))))))))) h_M) fun M2 h_M2 => ?_
  refine par_bind (fr_M_readsCondition (eqo_rfl _ _)) fun q3 g_q3 => ?_
  have h_q3 := eqo_tr (subw_cons (.head _) (subw_cons (.tail _ (.head _)) (subw_cons (.tail _ (.tail _ (.head _))) (subw_cons (.tail _ (.tail _ (.tail _ (.head _)))) (subw_cons (.tail _ (.tail _ (.tail _ (.tail _ (.head _))))) (subw_cons (.tail _ (.tail _ (.tail _ (.tail _ (.tail _ (.head _)))))) (subw_cons (.tail _ (.tail _ (.tail _ (.tail _ (.tail _ (.tail _ (.tail _ (.head _)))))))) (subw_cons (.tail _ (.tail _ (.tail _ (.tail _ (.tail _ (.tail _ (.tail _ (.tail _ (.head _))))))))) subw_nil)))))))) h_M2 g_q3
  refine par_ite ?_ ?_
  · exact par_some h_q3
  · refine par_bnd fun i4 => ?_
    refine par_lt (eqo_oUa (.tail _ (.tail _ (.tail _ (.tail _ (.tail _ (.tail _ (.tail _ (.tail _ (.tail _ (.tail _ (.tail _ (.tail _ (.head _))))))))))))) h_q3) fun M5 h_M5 => ?_
    refine par_lt (eqo_oU (.tail _ (.tail _ (.tail _ (.tail _ (.tail _ (.tail _ (.head _))))))) h_M5) fun M6 h_M6 => ?_
    exact par_some h_M6
theorem fr_M_readsRule_B39 {f : Nat} {l1 : Int} {M : oM} {B : oM} (h_M : eqo [(57, 8), (57, 10), (57, 11), (57, 12), (57, 13), (57, 14), (57, 15), (64, (-1)), (65, (-1)), (66, (-1)), (67, (-1)), (68, (-1)), (69, (-1))] B M) : par (p_M_readsRule_B39 f l1 M) (fun s => eqo [(57, 8), (57, 10), (57, 11), (57, 12), (57, 13), (57, 14), (57, 15), (64, (-1)), (65, (-1)), (66, (-1)), (67, (-1)), (68, (-1)), (69, (-1))] B s.2) := by
  unfold p_M_readsRule_B39
  refine par_ite ?_ ?_
  · refine par_bind (fr_M_wrongAt (eqo_rfl _ _)) fun q15 g_q15 => ?_
    have h_q15 := eqo_tr (subw_cons (.tail _ (.head _)) subw_nil) h_M g_q15
    refine par_bnd fun b16 => ?_
    exact par_some h_q15
  · refine par_bnd fun i7 => ?_
    refine par_lt (eqo_oUa (.tail _ (.tail _ (.tail _ (.tail _ (.tail _ (.tail _ (.tail _ (.tail _ (.tail _ (.head _)))))))))) h_M) fun M8 h_M8 => ?_
    refine par_lt (eqo_oU (.head _) h_M8) fun M9 h_M9 => ?_
    refine par_bnd fun i10 => ?_
    refine par_lt (eqo_oUa (.tail _ (.tail _ (.tail _ (.tail _ (.tail _ (.tail _ (.tail _ (.tail _ (.tail _ (.tail _ (.head _))))))))))) h_M9) fun M11 h_M11 => ?_
    refine par_lt (eqo_oU (.tail _ (.tail _ (.tail _ (.head _)))) h_M11) fun M12 h_M12 => ?_
    refine par_lt (eqo_oU (.tail _ (.tail _ (.tail _ (.tail _ (.tail _ (.head _)))))) h_M12) fun M13 h_M13 => ?_
    refine par_ite ?_ ?_
    · exact fr_M_readsRule_B116 h_M13
    · refine par_bind (fr_M_readsSum (eqo_rfl _ _)) fun q14 g_q14 => ?_
      have h_q14 := eqo_tr (subw_cons (.head _) (subw_cons (.tail _ (.head _)) (subw_cons (.tail _ (.tail _ (.head _))) (subw_cons (.tail _ (.tail _ (.tail _ (.head _)))) (subw_cons (.tail _ (.tail _ (.tail _ (.tail _ (.head _))))) (subw_cons (.tail _ (.tail _ (.tail _ (.tail _ (.tail _ (.head _)))))) (subw_cons (.tail _ (.tail _ (.tail _ (.tail _ (.tail _ (.tail _ (.tail _ (.head _)))))))) (subw_cons (.tail _ (.tail _ (.tail _ (.tail _ (.tail _ (.tail _ (.tail _ (.tail _ (.head _))))))))) subw_nil)))))))) h_M13 g_q14
      refine par_ite ?_ ?_
      · exact par_some h_q14
      · exact fr_M_readsRule_B116 h_q14
theorem fr_M_readsRule {f : Nat} {M : oM} {B : oM} (h_M : eqo [(57, 8), (57, 10), (57, 11), (57, 12), (57, 13), (57, 14), (57, 15), (64, (-1)), (65, (-1)), (66, (-1)), (67, (-1)), (68, (-1)), (69, (-1))] B M) : par (p_M_readsRule f M) (fun s => eqo [(57, 8), (57, 10), (57, 11), (57, 12), (57, 13), (57, 14), (57, 15), (64, (-1)), (65, (-1)), (66, (-1)), (67, (-1)), (68, (-1)), (69, (-1))] B s.2) := by
  unfold p_M_readsRule
  refine par_bind (fr_M_here (eqo_rfl _ _)) fun q17 g_q17 => ?_
  have h_q17 := eqo_tr subw_nil h_M g_q17
  refine par_ite ?_ ?_
  · exact fr_M_readsRule_B39 h_q17
  · refine par_ite ?_ ?_
    · exact fr_M_readsRule_B39 h_q17
    · refine par_ite ?_ ?_
      · exact fr_M_readsRule_B39 h_q17
      · refine par_ite ?_ ?_
        · exact fr_M_readsRule_B39 h_q17
        · refine par_bind (fr_M_wrongAt (eqo_rfl _ _)) fun q18 g_q18 => ?_
          have h_q18 := eqo_tr (subw_cons (.tail _ (.head _)) subw_nil) h_q17 g_q18
          refine par_bnd fun b19 => ?_
          exact par_some h_q18
theorem fr_M_takes {f : Nat} {l1 : Int} {M : oM} {B : oM} (h_M : eqo [(57, 8), (57, 10)] B M) : par (p_M_takes f l1 M) (fun s => eqo [(57, 8), (57, 10)] B s.2) := by
  unfold p_M_takes
  refine par_bind (fr_M_here (eqo_rfl _ _)) fun q1 g_q1 => ?_
  have h_q1 := eqo_tr subw_nil h_M g_q1
  refine par_ite ?_ ?_
  · refine par_lt (eqo_oU (.head _) h_q1) fun M2 h_M2 => ?_
    exact par_some h_M2
  · refine par_bind (fr_M_wrongAt (eqo_rfl _ _)) fun q3 g_q3 => ?_
    have h_q3 := eqo_tr (subw_cons (.tail _ (.head _)) subw_nil) h_q1 g_q3
    refine par_bnd fun b4 => ?_
    exact par_some h_q3
theorem fr_M_law_L138 {f : Nat} {B : oM} : ∀ (s : Int × oM), (fun s => eqo [(57, 7), (57, 8), (57, 9), (57, 10), (57, 11), (57, 12), (57, 13), (57, 14), (57, 15), (57, 16), (64, (-1)), (65, (-1)), (66, (-1)), (67, (-1)), (68, (-1)), (69, (-1)), (70, (-1)), (71, (-1)), (72, (-1)), (73, (-1)), (74, (-1))] B s.2) s → par (p_M_law_L138 f s) (psum (fun s => eqo [(57, 7), (57, 8), (57, 9), (57, 10), (57, 11), (57, 12), (57, 13), (57, 14), (57, 15), (57, 16), (64, (-1)), (65, (-1)), (66, (-1)), (67, (-1)), (68, (-1)), (69, (-1)), (70, (-1)), (71, (-1)), (72, (-1)), (73, (-1)), (74, (-1))] B s.2) (fun s => eqo [(57, 7), (57, 8), (57, 9), (57, 10), (57, 11), (57, 12), (57, 13), (57, 14), (57, 15), (57, 16), (64, (-1)), (65, (-1)), (66, (-1)), (67, (-1)), (68, (-1)), (69, (-1)), (70, (-1)), (71, (-1)), (72, (-1)), (73, (-1)), (74, (-1))] B s.2)) := by
  intro s hs
  obtain ⟨l3, M⟩ := s
  have h_M : eqo [(57, 7), (57, 8), (57, 9), (57, 10), (57, 11), (57, 12), (57, 13), (57, 14), (57, 15), (57, 16), (64, (-1)), (65, (-1)), (66, (-1)), (67, (-1)), (68, (-1)), (69, (-1)), (70, (-1)), (71, (-1)), (72, (-1)), (73, (-1)), (74, (-1))] B M := hs
  unfold p_M_law_L138
  refine par_ite ?_ ?_
  · refine par_bnd fun i1 => ?_
    refine par_bnd fun i2 => ?_
    refine par_lt (eqo_oUa (.tail _ (.tail _ (.tail _ (.tail _ (.tail _ (.tail _ (.tail _ (.tail _ (.tail _ (.tail _ (.tail _ (.tail _ (.tail _ (.tail _ (.tail _ (.tail _ (.tail _ (.head _)))))))))))))))))) h_M) fun M3 h_M3 => ?_
    refine par_bnd fun i4 => ?_
    refine par_bnd fun i5 => ?_
    refine par_lt (eqo_oUa (.tail _ (.tail _ (.tail _ (.tail _ (.tail _ (.tail _ (.tail _ (.tail _ (.tail _ (.tail _ (.tail _ (.tail _ (.tail _ (.tail _ (.tail _ (.tail _ (.tail _ (.tail _ (.head _))))))))))))))))))) h_M3) fun M6 h_M6 => ?_
    refine par_bnd fun i7 => ?_
    refine par_bnd fun i8 => ?_
    refine par_lt (eqo_oUa (.tail _ (.tail _ (.tail _ (.tail _ (.tail _ (.tail _ (.tail _ (.tail _ (.tail _ (.tail _ (.tail _ (.tail _ (.tail _ (.tail _ (.tail _ (.tail _ (.tail _ (.tail _ (.tail _ (.head _)))))))))))))))))))) h_M6) fun M9 h_M9 => ?_
    refine par_bnd fun i10 => ?_
    refine par_bnd fun i11 => ?_
    refine par_lt (eqo_oUa (.tail _ (.tail _ (.tail _ (.tail _ (.tail _ (.tail _ (.tail _ (.tail _ (.tail _ (.tail _ (.tail _ (.tail _ (.tail _ (.tail _ (.tail _ (.tail _ (.tail _ (.tail _ (.tail _ (.tail _ (.head _))))))))))))))))))))) h_M9) fun M12 h_M12 => ?_
    refine par_ltI fun x13 => ?_
    exact par_some h_M12
  · exact par_some h_M
theorem fr_M_law_X110 {f : Nat} {B : oM} : ∀ (s : oM), (fun s => eqo [(57, 7), (57, 8), (57, 9), (57, 10), (57, 11), (57, 12), (57, 13), (57, 14), (57, 15), (57, 16), (64, (-1)), (65, (-1)), (66, (-1)), (67, (-1)), (68, (-1)), (69, (-1)), (70, (-1)), (71, (-1)), (72, (-1)), (73, (-1)), (74, (-1))] B s) s → par (p_M_law_X110 f s) (fun s => eqo [(57, 7), (57, 8), (57, 9), (57, 10), (57, 11), (57, 12), (57, 13), (57, 14), (57, 15), (57, 16), (64, (-1)), (65, (-1)), (66, (-1)), (67, (-1)), (68, (-1)), (69, (-1)), (70, (-1)), (71, (-1)), (72, (-1)), (73, (-1)), (74, (-1))] B s.2) := by
  intro s hs
  revert s hs
  intro M hs
  have h_M : eqo [(57, 7), (57, 8), (57, 9), (57, 10), (57, 11), (57, 12), (57, 13), (57, 14), (57, 15), (57, 16), (64, (-1)), (65, (-1)), (66, (-1)), (67, (-1)), (68, (-1)), (69, (-1)), (70, (-1)), (71, (-1)), (72, (-1)), (73, (-1)), (74, (-1))] B M := hs
  unfold p_M_law_X110
  exact par_iter (fun s hs => fr_M_law_L138 s hs) _ h_M
theorem fr_M_law_L110 {f : Nat} {B : oM} : ∀ (s : Int × oM), (fun s => eqo [(57, 7), (57, 8), (57, 9), (57, 10), (57, 11), (57, 12), (57, 13), (57, 14), (57, 15), (57, 16), (64, (-1)), (65, (-1)), (66, (-1)), (67, (-1)), (68, (-1)), (69, (-1)), (70, (-1)), (71, (-1)), (72, (-1)), (73, (-1)), (74, (-1))] B s.2) s → par (p_M_law_L110 f s) (psum (fun s => eqo [(57, 7), (57, 8), (57, 9), (57, 10), (57, 11), (57, 12), (57, 13), (57, 14), (57, 15), (57, 16), (64, (-1)), (65, (-1)), (66, (-1)), (67, (-1)), (68, (-1)), (69, (-1)), (70, (-1)), (71, (-1)), (72, (-1)), (73, (-1)), (74, (-1))] B s.2) (fun s => eqo [(57, 7), (57, 8), (57, 9), (57, 10), (57, 11), (57, 12), (57, 13), (57, 14), (57, 15), (57, 16), (64, (-1)), (65, (-1)), (66, (-1)), (67, (-1)), (68, (-1)), (69, (-1)), (70, (-1)), (71, (-1)), (72, (-1)), (73, (-1)), (74, (-1))] B s)) := by
  intro s hs
  obtain ⟨l3, M⟩ := s
  have h_M : eqo [(57, 7), (57, 8), (57, 9), (57, 10), (57, 11), (57, 12), (57, 13), (57, 14), (57, 15), (57, 16), (64, (-1)), (65, (-1)), (66, (-1)), (67, (-1)), (68, (-1)), (69, (-1)), (70, (-1)), (71, (-1)), (72, (-1)), (73, (-1)), (74, (-1))] B M := hs
  unfold p_M_law_L110
  refine par_ite ?_ ?_
  · refine par_bnd fun i14 => ?_
    refine par_bnd fun i15 => ?_
    refine par_lt (eqo_oUa (.tail _ (.tail _ (.tail _ (.tail _ (.tail _ (.tail _ (.tail _ (.tail _ (.tail _ (.tail _ (.tail _ (.tail _ (.tail _ (.tail _ (.tail _ (.tail _ (.head _))))))))))))))))) h_M) fun M16 h_M16 => ?_
    refine par_ltI fun x17 => ?_
    exact par_some h_M16
  · exact par_some h_M
theorem fr_M_law_X46 {f : Nat} {B : oM} : ∀ (s : Int × oM), (fun s => eqo [(57, 7), (57, 8), (57, 9), (57, 10), (57, 11), (57, 12), (57, 13), (57, 14), (57, 15), (57, 16), (64, (-1)), (65, (-1)), (66, (-1)), (67, (-1)), (68, (-1)), (69, (-1)), (70, (-1)), (71, (-1)), (72, (-1)), (73, (-1)), (74, (-1))] B s.2) s → par (p_M_law_X46 f s) (fun s => eqo [(57, 7), (57, 8), (57, 9), (57, 10), (57, 11), (57, 12), (57, 13), (57, 14), (57, 15), (57, 16), (64, (-1)), (65, (-1)), (66, (-1)), (67, (-1)), (68, (-1)), (69, (-1)), (70, (-1)), (71, (-1)), (72, (-1)), (73, (-1)), (74, (-1))] B s.2) := by
  intro s hs
  obtain ⟨l2, M⟩ := s
  have h_M : eqo [(57, 7), (57, 8), (57, 9), (57, 10), (57, 11), (57, 12), (57, 13), (57, 14), (57, 15), (57, 16), (64, (-1)), (65, (-1)), (66, (-1)), (67, (-1)), (68, (-1)), (69, (-1)), (70, (-1)), (71, (-1)), (72, (-1)), (73, (-1)), (74, (-1))] B M := hs
  unfold p_M_law_X46
  refine par_lt (eqo_oU (.head _) h_M) fun M18 h_M18 => ?_
  refine par_ite ?_ ?_
  · exact par_some h_M18
  · refine par_lt (eqo_oU (.tail _ (.tail _ (.tail _ (.tail _ (.tail _ (.tail _ (.tail _ (.tail _ (.tail _ (.head _)))))))))) h_M18) fun M19 h_M19 => ?_
    exact par_bind (par_iter (fun s hs => fr_M_law_L110 s hs) _ h_M19) fun s hs => fr_M_law_X110 s hs
theorem fr_M_law_B82_46 {f : Nat} {s0 : Int} {M : oM} {B : oM} (h_M : eqo [(57, 7), (57, 8), (57, 9), (57, 10), (57, 11), (57, 12), (57, 13), (57, 14), (57, 15), (57, 16), (64, (-1)), (65, (-1)), (66, (-1)), (67, (-1)), (68, (-1)), (69, (-1)), (70, (-1)), (71, (-1)), (72, (-1)), (73, (-1)), (74, (-1))] B M) : par (p_M_law_B82_46 f s0 M) (psum (fun s => eqo [(57, 7), (57, 8), (57, 9), (57, 10), (57, 11), (57, 12), (57, 13), (57, 14), (57, 15), (57, 16), (64, (-1)), (65, (-1)), (66, (-1)), (67, (-1)), (68, (-1)), (69, (-1)), (70, (-1)), (71, (-1)), (72, (-1)), (73, (-1)), (74, (-1))] B s.2) (fun s => eqo [(57, 7), (57, 8), (57, 9), (57, 10), (57, 11), (57, 12), (57, 13), (57, 14), (57, 15), (57, 16), (64, (-1)), (65, (-1)), (66, (-1)), (67, (-1)), (68, (-1)), (69, (-1)), (70, (-1)), (71, (-1)), (72, (-1)), (73, (-1)), (74, (-1))] B s.2)) := by
  unfold p_M_law_B82_46
  exact par_some h_M
theorem fr_M_law_B81_46 {f : Nat} {M : oM} {B : oM} (h_M : eqo [(57, 7), (57, 8), (57, 9), (57, 10), (57, 11), (57, 12), (57, 13), (57, 14), (57, 15), (57, 16), (64, (-1)), (65, (-1)), (66, (-1)), (67, (-1)), (68, (-1)), (69, (-1)), (70, (-1)), (71, (-1)), (72, (-1)), (73, (-1)), (74, (-1))] B M) : par (p_M_law_B81_46 f M) (psum (fun s => eqo [(57, 7), (57, 8), (57, 9), (57, 10), (57, 11), (57, 12), (57, 13), (57, 14), (57, 15), (57, 16), (64, (-1)), (65, (-1)), (66, (-1)), (67, (-1)), (68, (-1)), (69, (-1)), (70, (-1)), (71, (-1)), (72, (-1)), (73, (-1)), (74, (-1))] B s.2) (fun s => eqo [(57, 7), (57, 8), (57, 9), (57, 10), (57, 11), (57, 12), (57, 13), (57, 14), (57, 15), (57, 16), (64, (-1)), (65, (-1)), (66, (-1)), (67, (-1)), (68, (-1)), (69, (-1)), (70, (-1)), (71, (-1)), (72, (-1)), (73, (-1)), (74, (-1))] B s.2)) := by
  unfold p_M_law_B81_46
  exact fr_M_law_B82_46 h_M
theorem fr_M_law_L46 {f : Nat} {B : oM} : ∀ (s : Int × oM), (fun s => eqo [(57, 7), (57, 8), (57, 9), (57, 10), (57, 11), (57, 12), (57, 13), (57, 14), (57, 15), (57, 16), (64, (-1)), (65, (-1)), (66, (-1)), (67, (-1)), (68, (-1)), (69, (-1)), (70, (-1)), (71, (-1)), (72, (-1)), (73, (-1)), (74, (-1))] B s.2) s → par (p_M_law_L46 f s) (psum (fun s => eqo [(57, 7), (57, 8), (57, 9), (57, 10), (57, 11), (57, 12), (57, 13), (57, 14), (57, 15), (57, 16), (64, (-1)), (65, (-1)), (66, (-1)), (67, (-1)), (68, (-1)), (69, (-1)), (70, (-1)), (71, (-1)), (72, (-1)), (73, (-1)), (74, (-1))] B s.2) (fun s => eqo [(57, 7), (57, 8), (57, 9), (57, 10), (57, 11), (57, 12), (57, 13), (57, 14), (57, 15), (57, 16), (64, (-1)), (65, (-1)), (66, (-1)), (67, (-1)), (68, (-1)), (69, (-1)), (70, (-1)), (71, (-1)), (72, (-1)), (73, (-1)), (74, (-1))] B s.2)) := by
  intro s hs
  obtain ⟨l2, M⟩ := s
  have h_M : eqo [(57, 7), (57, 8), (57, 9), (57, 10), (57, 11), (57, 12), (57, 13), (57, 14), (57, 15), (57, 16), (64, (-1)), (65, (-1)), (66, (-1)), (67, (-1)), (68, (-1)), (69, (-1)), (70, (-1)), (71, (-1)), (72, (-1)), (73, (-1)), (74, (-1))] B M := hs
  unfold p_M_law_L46
  refine par_ite ?_ ?_
  · exact par_some h_M
  · refine par_ite ?_ ?_
    · refine par_bind (fr_M_takes (eqo_rfl _ _)) fun q20 g_q20 => ?_
      have h_q20 := eqo_tr (subw_cons (.tail _ (.head _)) (subw_cons (.tail _ (.tail _ (.tail _ (.head _)))) subw_nil)) h_M g_q20
      refine par_ite ?_ ?_
      · exact fr_M_law_B81_46 h_q20
      · refine par_bind (fr_M_readsRule (eqo_rfl _ _)) fun q21 g_q21 => ?_
        have h_q21 := eqo_tr (subw_cons (.tail _ (.head _)) (subw_cons (.tail _ (.tail _ (.tail _ (.head _)))) (subw_cons (.tail _ (.tail _ (.tail _ (.tail _ (.head _))))) (subw_cons (.tail _ (.tail _ (.tail _ (.tail _ (.tail _ (.head _)))))) (subw_cons (.tail _ (.tail _ (.tail _ (.tail _ (.tail _ (.tail _ (.head _))))))) (subw_cons (.tail _ (.tail _ (.tail _ (.tail _ (.tail _ (.tail _ (.tail _ (.head _)))))))) (subw_cons (.tail _ (.tail _ (.tail _ (.tail _ (.tail _ (.tail _ (.tail _ (.tail _ (.head _))))))))) (subw_cons (.tail _ (.tail _ (.tail _ (.tail _ (.tail _ (.tail _ (.tail _ (.tail _ (.tail _ (.tail _ (.head _))))))))))) (subw_cons (.tail _ (.tail _ (.tail _ (.tail _ (.tail _ (.tail _ (.tail _ (.tail _ (.tail _ (.tail _ (.tail _ (.head _)))))))))))) (subw_cons (.tail _ (.tail _ (.tail _ (.tail _ (.tail _ (.tail _ (.tail _ (.tail _ (.tail _ (.tail _ (.tail _ (.tail _ (.head _))))))))))))) (subw_cons (.tail _ (.tail _ (.tail _ (.tail _ (.tail _ (.tail _ (.tail _ (.tail _ (.tail _ (.tail _ (.tail _ (.tail _ (.tail _ (.head _)))))))))))))) (subw_cons (.tail _ (.tail _ (.tail _ (.tail _ (.tail _ (.tail _ (.tail _ (.tail _ (.tail _ (.tail _ (.tail _ (.tail _ (.tail _ (.tail _ (.head _))))))))))))))) (subw_cons (.tail _ (.tail _ (.tail _ (.tail _ (.tail _ (.tail _ (.tail _ (.tail _ (.tail _ (.tail _ (.tail _ (.tail _ (.tail _ (.tail _ (.tail _ (.head _)))))))))))))))) subw_nil))))))))))))) h_q20 g_q21
        refine par_ite ?_ ?_
        · exact fr_M_law_B81_46 h_q21
        · exact fr_M_law_B82_46 h_q21
    · exact par_some h_M
theorem fr_M_law {f : Nat} {l1 : Int} {M : oM} {B : oM} (h_M : eqo [(57, 7), (57, 8), (57, 9), (57, 10), (57, 11), (57, 12), (57, 13), (57, 14), (57, 15), (57, 16), (64, (-1)), (65, (-1)), (66, (-1)), (67, (-1)), (68, (-1)), (69, (-1)), (70, (-1)), (71, (-1)), (72, (-1)), (73, (-1)), (74, (-1))] B M) : par (p_M_law f l1 M) (fun s => eqo [(57, 7), (57, 8), (57, 9), (57, 10), (57, 11), (57, 12), (57, 13), (57, 14), (57, 15), (57, 16), (64, (-1)), (65, (-1)), (66, (-1)), (67, (-1)), (68, (-1)), (69, (-1)), (70, (-1)), (71, (-1)), (72, (-1)), (73, (-1)), (74, (-1))] B s.2) := by
  unfold p_M_law
  refine par_bind (fr_M_in (eqo_rfl _ _)) fun q22 g_q22 => ?_
  have h_q22 := eqo_tr subw_nil h_M g_q22
  refine par_ite ?_ ?_
  · exact par_some h_q22
  · refine par_ite ?_ ?_
    · exact par_some h_q22
    · refine par_lt (eqo_oU (.tail _ (.head _)) h_q22) fun M23 h_M23 => ?_
      refine par_lt (eqo_oU (.tail _ (.tail _ (.head _))) h_M23) fun M24 h_M24 => ?_
      refine par_lt (eqo_oU (.tail _ (.tail _ (.tail _ (.tail _ (.tail _ (.tail _ (.head _))))))) h_M24) fun M25 h_M25 => ?_
      refine par_lt (eqo_oU (.tail _ (.tail _ (.tail _ (.tail _ (.tail _ (.tail _ (.tail _ (.tail _ (.head _))))))))) h_M25) fun M26 h_M26 => ?_
      refine par_bind (fr_M_readsRule (eqo_rfl _ _)) fun q27 g_q27 => ?_
      have h_q27 := eqo_tr (subw_cons (.tail _ (.head _)) (subw_cons (.tail _ (.tail _ (.tail _ (.head _)))) (subw_cons (.tail _ (.tail _ (.tail _ (.tail _ (.head _))))) (subw_cons (.tail _ (.tail _ (.tail _ (.tail _ (.tail _ (.head _)))))) (subw_cons (.tail _ (.tail _ (.tail _ (.tail _ (.tail _ (.tail _ (.head _))))))) (subw_cons (.tail _ (.tail _ (.tail _ (.tail _ (.tail _ (.tail _ (.tail _ (.head _)))))))) (subw_cons (.tail _ (.tail _ (.tail _ (.tail _ (.tail _ (.tail _ (.tail _ (.tail _ (.head _))))))))) (subw_cons (.tail _ (.tail _ (.tail _ (.tail _ (.tail _ (.tail _ (.tail _ (.tail _ (.tail _ (.tail _ (.head _))))))))))) (subw_cons (.tail _ (.tail _ (.tail _ (.tail _ (.tail _ (.tail _ (.tail _ (.tail _ (.tail _ (.tail _ (.tail _ (.head _)))))))))))) (subw_cons (.tail _ (.tail _ (.tail _ (.tail _ (.tail _ (.tail _ (.tail _ (.tail _ (.tail _ (.tail _ (.tail _ (.tail _ (.head _))))))))))))) (subw_cons (.tail _ (.tail _ (.tail _ (.tail _ (.tail _ (.tail _ (.tail _ (.tail _ (.tail _ (.tail _ (.tail _ (.tail _ (.tail _ (.head _)))))))))))))) (subw_cons (.tail _ (.tail _ (.tail _ (.tail _ (.tail _ (.tail _ (.tail _ (.tail _ (.tail _ (.tail _ (.tail _ (.tail _ (.tail _ (.tail _ (.head _))))))))))))))) (subw_cons (.tail _ (.tail _ (.tail _ (.tail _ (.tail _ (.tail _ (.tail _ (.tail _ (.tail _ (.tail _ (.tail _ (.tail _ (.tail _ (.tail _ (.tail _ (.head _)))))))))))))))) subw_nil))))))))))))) h_M26 g_q27
      exact par_bind (par_iter (fun s hs => fr_M_law_L46 s hs) _ h_q27) fun s hs => fr_M_law_X46 s hs
theorem fr_M_debtOf {f : Nat} {l1 : Int} {l2 : Int} {M : oM} {B : oM} (h_M : eqo [] B M) : par (p_M_debtOf f l1 l2 M) (fun s => eqo [] B s.2) := by
  unfold p_M_debtOf
  refine par_bnd fun i1 => ?_
  exact par_some h_M
theorem fr_M_owesAll_L4 {f : Nat} {l1 : Int} {B : oM} : ∀ (s : Int × Int × oM), (fun s => eqo [] B s.2.2) s → par (p_M_owesAll_L4 f l1 s) (psum (fun s => eqo [] B s.2.2) (fun s => eqo [] B s.2)) := by
  intro s hs
  obtain ⟨l2, l3, M⟩ := s
  have h_M : eqo [] B M := hs
  unfold p_M_owesAll_L4
  refine par_ite ?_ ?_
  · refine par_bind (fr_M_debtOf (eqo_rfl _ _)) fun q1 g_q1 => ?_
    have h_q1 := eqo_tr subw_nil h_M g_q1
    refine par_ltI fun x2 => ?_
    refine par_ltI fun x3 => ?_
    exact par_some h_q1
  · exact par_some h_M
theorem fr_M_owesAll {f : Nat} {l1 : Int} {M : oM} {B : oM} (h_M : eqo [] B M) : par (p_M_owesAll f l1 M) (fun s => eqo [] B s.2) := by
  unfold p_M_owesAll
  exact par_iter (fun s hs => fr_M_owesAll_L4 s hs) _ h_M
theorem fr_M_owedInAll_L4 {f : Nat} {B : oM} : ∀ (s : Int × Int × oM), (fun s => eqo [] B s.2.2) s → par (p_M_owedInAll_L4 f s) (psum (fun s => eqo [] B s.2.2) (fun s => eqo [] B s.2)) := by
  intro s hs
  obtain ⟨l1, l2, M⟩ := s
  have h_M : eqo [] B M := hs
  unfold p_M_owedInAll_L4
  refine par_ite ?_ ?_
  · refine par_bind (fr_M_owesAll (eqo_rfl _ _)) fun q1 g_q1 => ?_
    have h_q1 := eqo_tr subw_nil h_M g_q1
    refine par_ltI fun x2 => ?_
    refine par_ltI fun x3 => ?_
    exact par_some h_q1
  · exact par_some h_M
theorem fr_M_owedInAll {f : Nat} {M : oM} {B : oM} (h_M : eqo [] B M) : par (p_M_owedInAll f M) (fun s => eqo [] B s.2) := by
  unfold p_M_owedInAll
  exact par_iter (fun s hs => fr_M_owedInAll_L4 s hs) _ h_M
theorem fr_M_min {f : Nat} {l0 : Int} {l1 : Int} {M : oM} {B : oM} (h_M : eqo [] B M) : par (p_M_min f l0 l1 M) (fun s => eqo [] B s.2) := by
  unfold p_M_min
  refine par_ite ?_ ?_
  · exact par_some h_M
  · exact par_some h_M
theorem fr_M_readsPerson_B47 {f : Nat} {M : oM} {B : oM} (h_M : eqo [(57, 8), (57, 10), (57, 11)] B M) : par (p_M_readsPerson_B47 f M) (fun s => eqo [(57, 8), (57, 10), (57, 11)] B s.2) := by
  unfold p_M_readsPerson_B47
  refine par_bind (fr_M_here (eqo_rfl _ _)) fun q1 g_q1 => ?_
  have h_q1 := eqo_tr subw_nil h_M g_q1
  refine par_lt (eqo_oU (.tail _ (.tail _ (.head _))) h_q1) fun M2 h_M2 => ?_
  refine par_bind (fr_M_isPerson (eqo_rfl _ _)) fun q3 g_q3 => ?_
  have h_q3 := eqo_tr subw_nil h_M2 g_q3
  refine par_ite ?_ ?_
  · refine par_bind (fr_M_wrongAt (eqo_rfl _ _)) fun q5 g_q5 => ?_
    have h_q5 := eqo_tr (subw_cons (.tail _ (.head _)) subw_nil) h_q3 g_q5
    refine par_bnd fun b6 => ?_
    exact par_some h_q5
  · refine par_lt (eqo_oU (.head _) h_q3) fun M4 h_M4 => ?_
    exact par_some h_M4
theorem fr_M_readsPerson {f : Nat} {l1 : Int} {M : oM} {B : oM} (h_M : eqo [(57, 8), (57, 10), (57, 11)] B M) : par (p_M_readsPerson f l1 M) (fun s => eqo [(57, 8), (57, 10), (57, 11)] B s.2) := by
  unfold p_M_readsPerson
  refine par_bind (fr_M_here (eqo_rfl _ _)) fun q7 g_q7 => ?_
  have h_q7 := eqo_tr subw_nil h_M g_q7
  refine par_bind (fr_M_in (eqo_rfl _ _)) fun q8 g_q8 => ?_
  have h_q8 := eqo_tr subw_nil h_q7 g_q8
  refine par_ite ?_ ?_
  · refine par_bind (fr_M_wrongAt (eqo_rfl _ _)) fun q11 g_q11 => ?_
    have h_q11 := eqo_tr (subw_cons (.tail _ (.head _)) subw_nil) h_q8 g_q11
    refine par_bnd fun b12 => ?_
    exact par_some h_q11
  · refine par_ite ?_ ?_
    · exact fr_M_readsPerson_B47 h_q8
    · refine par_ite ?_ ?_
      · refine par_bind (fr_M_wrongAt (eqo_rfl _ _)) fun q9 g_q9 => ?_
        have h_q9 := eqo_tr (subw_cons (.tail _ (.head _)) subw_nil) h_q8 g_q9
        refine par_bnd fun b10 => ?_
        exact par_some h_q9
      · exact fr_M_readsPerson_B47 h_q8
theorem fr_M_readsLine_B121_76 {f : Nat} {l1 : Int} {l2 : Int} {l3 : Int} {l4 : Int} {M : oM} {B : oM} (h_M : eqo [(57, 8), (57, 10), (57, 11), (57, 31), (77, (-1))] B M) : par (p_M_readsLine_B121_76 f l1 l2 l3 l4 M) (psum (fun s => eqo [(57, 8), (57, 10), (57, 11), (57, 31), (77, (-1))] B s.2) (fun s => eqo [(57, 8), (57, 10), (57, 11), (57, 31), (77, (-1))] B s.2)) := by
  unfold p_M_readsLine_B121_76
  refine par_ite ?_ ?_
  · refine par_bind (fr_M_wrongAt (eqo_rfl _ _)) fun q6 g_q6 => ?_
    have h_q6 := eqo_tr (subw_cons (.tail _ (.head _)) subw_nil) h_M g_q6
    refine par_bnd fun b7 => ?_
    exact par_some h_q6
  · refine par_bnd fun i1 => ?_
    refine par_bind (fr_M_min (eqo_rfl _ _)) fun q2 g_q2 => ?_
    have h_q2 := eqo_tr subw_nil h_M g_q2
    refine par_bnd fun i3 => ?_
    refine par_lt (eqo_oUa (.tail _ (.tail _ (.tail _ (.tail _ (.head _))))) h_q2) fun M4 h_M4 => ?_
    refine par_lt (eqo_oU (.tail _ (.tail _ (.tail _ (.head _)))) h_M4) fun M5 h_M5 => ?_
    exact par_some h_M5
theorem fr_M_readsLine_L76 {f : Nat} {l1 : Int} {l2 : Int} {l3 : Int} {B : oM} : ∀ (s : Int × oM), (fun s => eqo [(57, 8), (57, 10), (57, 11), (57, 31), (77, (-1))] B s.2) s → par (p_M_readsLine_L76 f l1 l2 l3 s) (psum (fun s => eqo [(57, 8), (57, 10), (57, 11), (57, 31), (77, (-1))] B s.2) (fun s => eqo [(57, 8), (57, 10), (57, 11), (57, 31), (77, (-1))] B s.2)) := by
  intro s hs
  obtain ⟨l4, M⟩ := s
  have h_M : eqo [(57, 8), (57, 10), (57, 11), (57, 31), (77, (-1))] B M := hs
  unfold p_M_readsLine_L76
  refine par_bind (fr_M_isDigit (eqo_rfl _ _)) fun q8 g_q8 => ?_
  have h_q8 := eqo_tr subw_nil h_M g_q8
  refine par_ite ?_ ?_
  · exact fr_M_readsLine_B121_76 h_q8
  · refine par_ite ?_ ?_
    · refine par_bind (fr_M_here (eqo_rfl _ _)) fun q9 g_q9 => ?_
      have h_q9 := eqo_tr subw_nil h_q8 g_q9
      refine par_ltI fun x10 => ?_
      refine par_lt (eqo_oU (.head _) h_q9) fun M11 h_M11 => ?_
      exact par_some h_M11
    · exact fr_M_readsLine_B121_76 h_q8
theorem fr_M_readsLine_B74 {f : Nat} {l1 : Int} {l2 : Int} {l3 : Int} {s0 : Int} {M : oM} {B : oM} (h_M : eqo [(57, 8), (57, 10), (57, 11), (57, 31), (77, (-1))] B M) : par (p_M_readsLine_B74 f l1 l2 l3 s0 M) (fun s => eqo [(57, 8), (57, 10), (57, 11), (57, 31), (77, (-1))] B s.2) := by
  unfold p_M_readsLine_B74
  exact par_iter (fun s hs => fr_M_readsLine_L76 s hs) _ h_M
theorem fr_M_readsLine {f : Nat} {M : oM} {B : oM} (h_M : eqo [(57, 8), (57, 10), (57, 11), (57, 31), (77, (-1))] B M) : par (p_M_readsLine f M) (fun s => eqo [(57, 8), (57, 10), (57, 11), (57, 31), (77, (-1))] B s.2) := by
  unfold p_M_readsLine
  refine par_bind (fr_M_readsPerson (eqo_rfl _ _)) fun q12 g_q12 => ?_
  have h_q12 := eqo_tr (subw_cons (.head _) (subw_cons (.tail _ (.head _)) (subw_cons (.tail _ (.tail _ (.head _))) subw_nil))) h_M g_q12
  refine par_ite ?_ ?_
  · exact par_some h_q12
  · refine par_ltI fun x13 => ?_
    refine par_bind (fr_M_takes (eqo_rfl _ _)) fun q14 g_q14 => ?_
    have h_q14 := eqo_tr (subw_cons (.head _) (subw_cons (.tail _ (.head _)) subw_nil)) h_q12 g_q14
    refine par_ite ?_ ?_
    · exact par_some h_q14
    · refine par_bind (fr_M_readsPerson (eqo_rfl _ _)) fun q15 g_q15 => ?_
      have h_q15 := eqo_tr (subw_cons (.head _) (subw_cons (.tail _ (.head _)) (subw_cons (.tail _ (.tail _ (.head _))) subw_nil))) h_q14 g_q15
      refine par_ite ?_ ?_
      · exact par_some h_q15
      · refine par_ltI fun x16 => ?_
        refine par_ite ?_ ?_
        · refine par_bind (fr_M_wrongAt (eqo_rfl _ _)) fun q19 g_q19 => ?_
          have h_q19 := eqo_tr (subw_cons (.tail _ (.head _)) subw_nil) h_q15 g_q19
          refine par_bnd fun b20 => ?_
          exact par_some h_q19
        · refine par_ltI fun x17 => ?_
          refine par_bind (fr_M_isDigit (eqo_rfl _ _)) fun q18 g_q18 => ?_
          have h_q18 := eqo_tr subw_nil h_q15 g_q18
          refine par_ite ?_ ?_
          · exact fr_M_readsLine_B74 h_q18
          · exact fr_M_readsLine_B74 h_q18
theorem fr_M_debts_L118 {f : Nat} {B : oM} : ∀ (s : Int × oM), (fun s => eqo [(57, 7), (57, 8), (57, 9), (57, 10), (57, 11), (57, 31), (58, (-1)), (77, (-1))] B s.2) s → par (p_M_debts_L118 f s) (psum (fun s => eqo [(57, 7), (57, 8), (57, 9), (57, 10), (57, 11), (57, 31), (58, (-1)), (77, (-1))] B s.2) (fun s => eqo [(57, 7), (57, 8), (57, 9), (57, 10), (57, 11), (57, 31), (58, (-1)), (77, (-1))] B s.2)) := by
  intro s hs
  obtain ⟨l3, M⟩ := s
  have h_M : eqo [(57, 7), (57, 8), (57, 9), (57, 10), (57, 11), (57, 31), (58, (-1)), (77, (-1))] B M := hs
  unfold p_M_debts_L118
  refine par_ite ?_ ?_
  · refine par_bnd fun i2 => ?_
    refine par_bnd fun i3 => ?_
    refine par_lt (eqo_oUa (.tail _ (.tail _ (.tail _ (.tail _ (.tail _ (.tail _ (.head _))))))) h_M) fun M4 h_M4 => ?_
    refine par_ltI fun x5 => ?_
    exact par_some h_M4
  · refine par_bind (fr_M_owedInAll (eqo_rfl _ _)) fun q1 g_q1 => ?_
    have h_q1 := eqo_tr subw_nil h_M g_q1
    exact par_some h_q1
theorem fr_M_debts_X62 {f : Nat} {B : oM} : ∀ (s : Int × oM), (fun s => eqo [(57, 7), (57, 8), (57, 9), (57, 10), (57, 11), (57, 31), (58, (-1)), (77, (-1))] B s.2) s → par (p_M_debts_X62 f s) (fun s => eqo [(57, 7), (57, 8), (57, 9), (57, 10), (57, 11), (57, 31), (58, (-1)), (77, (-1))] B s.2) := by
  intro s hs
  obtain ⟨l2, M⟩ := s
  have h_M : eqo [(57, 7), (57, 8), (57, 9), (57, 10), (57, 11), (57, 31), (58, (-1)), (77, (-1))] B M := hs
  unfold p_M_debts_X62
  refine par_lt (eqo_oU (.head _) h_M) fun M6 h_M6 => ?_
  refine par_ite ?_ ?_
  · exact par_some h_M6
  · exact par_iter (fun s hs => fr_M_debts_L118 s hs) _ h_M6
theorem fr_M_debts_B98_62 {f : Nat} {s0 : Int} {M : oM} {B : oM} (h_M : eqo [(57, 7), (57, 8), (57, 9), (57, 10), (57, 11), (57, 31), (58, (-1)), (77, (-1))] B M) : par (p_M_debts_B98_62 f s0 M) (psum (fun s => eqo [(57, 7), (57, 8), (57, 9), (57, 10), (57, 11), (57, 31), (58, (-1)), (77, (-1))] B s.2) (fun s => eqo [(57, 7), (57, 8), (57, 9), (57, 10), (57, 11), (57, 31), (58, (-1)), (77, (-1))] B s.2)) := by
  unfold p_M_debts_B98_62
  exact par_some h_M
theorem fr_M_debts_B97_62 {f : Nat} {M : oM} {B : oM} (h_M : eqo [(57, 7), (57, 8), (57, 9), (57, 10), (57, 11), (57, 31), (58, (-1)), (77, (-1))] B M) : par (p_M_debts_B97_62 f M) (psum (fun s => eqo [(57, 7), (57, 8), (57, 9), (57, 10), (57, 11), (57, 31), (58, (-1)), (77, (-1))] B s.2) (fun s => eqo [(57, 7), (57, 8), (57, 9), (57, 10), (57, 11), (57, 31), (58, (-1)), (77, (-1))] B s.2)) := by
  unfold p_M_debts_B97_62
  exact fr_M_debts_B98_62 h_M
theorem fr_M_debts_L62 {f : Nat} {B : oM} : ∀ (s : Int × oM), (fun s => eqo [(57, 7), (57, 8), (57, 9), (57, 10), (57, 11), (57, 31), (58, (-1)), (77, (-1))] B s.2) s → par (p_M_debts_L62 f s) (psum (fun s => eqo [(57, 7), (57, 8), (57, 9), (57, 10), (57, 11), (57, 31), (58, (-1)), (77, (-1))] B s.2) (fun s => eqo [(57, 7), (57, 8), (57, 9), (57, 10), (57, 11), (57, 31), (58, (-1)), (77, (-1))] B s.2)) := by
  intro s hs
  obtain ⟨l2, M⟩ := s
  have h_M : eqo [(57, 7), (57, 8), (57, 9), (57, 10), (57, 11), (57, 31), (58, (-1)), (77, (-1))] B M := hs
  unfold p_M_debts_L62
  refine par_ite ?_ ?_
  · exact par_some h_M
  · refine par_ite ?_ ?_
    · refine par_bind (fr_M_takes (eqo_rfl _ _)) fun q7 g_q7 => ?_
      have h_q7 := eqo_tr (subw_cons (.tail _ (.head _)) (subw_cons (.tail _ (.tail _ (.tail _ (.head _)))) subw_nil)) h_M g_q7
      refine par_ite ?_ ?_
      · exact fr_M_debts_B97_62 h_q7
      · refine par_bind (fr_M_readsLine (eqo_rfl _ _)) fun q8 g_q8 => ?_
        have h_q8 := eqo_tr (subw_cons (.tail _ (.head _)) (subw_cons (.tail _ (.tail _ (.tail _ (.head _)))) (subw_cons (.tail _ (.tail _ (.tail _ (.tail _ (.head _))))) (subw_cons (.tail _ (.tail _ (.tail _ (.tail _ (.tail _ (.head _)))))) (subw_cons (.tail _ (.tail _ (.tail _ (.tail _ (.tail _ (.tail _ (.tail _ (.head _)))))))) subw_nil))))) h_q7 g_q8
        refine par_ite ?_ ?_
        · exact fr_M_debts_B97_62 h_q8
        · exact fr_M_debts_B98_62 h_q8
    · exact par_some h_M
theorem fr_M_debts_X38 {f : Nat} {B : oM} : ∀ (s : oM), (fun s => eqo [(57, 7), (57, 8), (57, 9), (57, 10), (57, 11), (57, 31), (58, (-1)), (77, (-1))] B s) s → par (p_M_debts_X38 f s) (fun s => eqo [(57, 7), (57, 8), (57, 9), (57, 10), (57, 11), (57, 31), (58, (-1)), (77, (-1))] B s.2) := by
  intro s hs
  revert s hs
  intro M hs
  have h_M : eqo [(57, 7), (57, 8), (57, 9), (57, 10), (57, 11), (57, 31), (58, (-1)), (77, (-1))] B M := hs
  unfold p_M_debts_X38
  refine par_bind (fr_M_readsLine (eqo_rfl _ _)) fun q9 g_q9 => ?_
  have h_q9 := eqo_tr (subw_cons (.tail _ (.head _)) (subw_cons (.tail _ (.tail _ (.tail _ (.head _)))) (subw_cons (.tail _ (.tail _ (.tail _ (.tail _ (.head _))))) (subw_cons (.tail _ (.tail _ (.tail _ (.tail _ (.tail _ (.head _)))))) (subw_cons (.tail _ (.tail _ (.tail _ (.tail _ (.tail _ (.tail _ (.tail _ (.head _)))))))) subw_nil))))) h_M g_q9
  exact par_bind (par_iter (fun s hs => fr_M_debts_L62 s hs) _ h_q9) fun s hs => fr_M_debts_X62 s hs
theorem fr_M_debts_L38 {f : Nat} {B : oM} : ∀ (s : Int × oM), (fun s => eqo [(57, 7), (57, 8), (57, 9), (57, 10), (57, 11), (57, 31), (58, (-1)), (77, (-1))] B s.2) s → par (p_M_debts_L38 f s) (psum (fun s => eqo [(57, 7), (57, 8), (57, 9), (57, 10), (57, 11), (57, 31), (58, (-1)), (77, (-1))] B s.2) (fun s => eqo [(57, 7), (57, 8), (57, 9), (57, 10), (57, 11), (57, 31), (58, (-1)), (77, (-1))] B s)) := by
  intro s hs
  obtain ⟨l2, M⟩ := s
  have h_M : eqo [(57, 7), (57, 8), (57, 9), (57, 10), (57, 11), (57, 31), (58, (-1)), (77, (-1))] B M := hs
  unfold p_M_debts_L38
  refine par_ite ?_ ?_
  · refine par_bnd fun i10 => ?_
    refine par_lt (eqo_oUa (.tail _ (.tail _ (.tail _ (.tail _ (.tail _ (.tail _ (.tail _ (.head _)))))))) h_M) fun M11 h_M11 => ?_
    refine par_ltI fun x12 => ?_
    exact par_some h_M11
  · exact par_some h_M
theorem fr_M_debts {f : Nat} {l1 : Int} {M : oM} {B : oM} (h_M : eqo [(57, 7), (57, 8), (57, 9), (57, 10), (57, 11), (57, 31), (58, (-1)), (77, (-1))] B M) : par (p_M_debts f l1 M) (fun s => eqo [(57, 7), (57, 8), (57, 9), (57, 10), (57, 11), (57, 31), (58, (-1)), (77, (-1))] B s.2) := by
  unfold p_M_debts
  refine par_bind (fr_M_in (eqo_rfl _ _)) fun q13 g_q13 => ?_
  have h_q13 := eqo_tr subw_nil h_M g_q13
  refine par_ite ?_ ?_
  · exact par_some h_q13
  · refine par_ite ?_ ?_
    · exact par_some h_q13
    · refine par_lt (eqo_oU (.tail _ (.head _)) h_q13) fun M14 h_M14 => ?_
      refine par_lt (eqo_oU (.tail _ (.tail _ (.head _))) h_M14) fun M15 h_M15 => ?_
      refine par_lt (eqo_oU (.tail _ (.tail _ (.tail _ (.tail _ (.tail _ (.head _)))))) h_M15) fun M16 h_M16 => ?_
      exact par_bind (par_iter (fun s hs => fr_M_debts_L38 s hs) _ h_M16) fun s hs => fr_M_debts_X38 s hs
theorem fr_M_begins {f : Nat} {M : oM} {B : oM} (h_M : eqo [(57, 32), (57, 33), (57, 34)] B M) : par (p_M_begins f M) (fun s => eqo [(57, 32), (57, 33), (57, 34)] B s.2) := by
  unfold p_M_begins
  refine par_lt (eqo_oU (.head _) h_M) fun M1 h_M1 => ?_
  refine par_lt (eqo_oU (.tail _ (.head _)) h_M1) fun M2 h_M2 => ?_
  refine par_lt (eqo_oU (.tail _ (.tail _ (.head _))) h_M2) fun M3 h_M3 => ?_
  exact par_some h_M3
theorem fr_M_reckon {f : Nat} {l0 : Int} {l1 : Int} {l2 : Int} {M : oM} {B : oM} (h_M : eqo [] B M) : par (p_M_reckon f l0 l1 l2 M) (fun s => eqo [] B s.2) := by
  unfold p_M_reckon
  refine par_ite ?_ ?_
  · exact par_some h_M
  · refine par_ite ?_ ?_
    · exact par_some h_M
    · refine par_ite ?_ ?_
      · exact par_some h_M
      · refine par_ite ?_ ?_
        · refine par_nz fun z1 => ?_
          exact par_some h_M
        · refine par_ite ?_ ?_
          · refine par_nz fun z2 => ?_
            exact par_some h_M
          · refine par_ite ?_ ?_
            · refine par_ite ?_ ?_
              · exact par_some h_M
              · exact par_some h_M
            · refine par_ite ?_ ?_
              · refine par_ite ?_ ?_
                · exact par_some h_M
                · exact par_some h_M
              · refine par_ite ?_ ?_
                · exact par_some h_M
                · exact par_some h_M
theorem fr_M_comesTo_B230_16 {f : Nat} {l2 : Int} {l3 : Int} {l4 : Int} {l5 : Int} {M : oM} {B : oM} (h_M : eqo [(75, (-1))] B M) : par (p_M_comesTo_B230_16 f l2 l3 l4 l5 M) (psum (fun s => eqo [(75, (-1))] B s.2.2) (fun s => eqo [(75, (-1))] B s.2)) := by
  unfold p_M_comesTo_B230_16
  exact par_some h_M
theorem fr_M_comesTo_B85_16 {f : Nat} {l2 : Int} {l3 : Int} {l4 : Int} {l5 : Int} {s1 : Int} {s2 : Int} {M : oM} {B : oM} (h_M : eqo [(75, (-1))] B M) : par (p_M_comesTo_B85_16 f l2 l3 l4 l5 s1 s2 M) (psum (fun s => eqo [(75, (-1))] B s.2.2) (fun s => eqo [(75, (-1))] B s.2)) := by
  unfold p_M_comesTo_B85_16
  refine par_bnd fun i1 => ?_
  refine par_lt (eqo_oUa (.head _) h_M) fun M2 h_M2 => ?_
  refine par_ltI fun x3 => ?_
  exact fr_M_comesTo_B230_16 h_M2
theorem fr_M_comesTo_B63_16 {f : Nat} {l2 : Int} {l3 : Int} {l4 : Int} {l5 : Int} {l6 : Int} {l7 : Int} {M : oM} {B : oM} (h_M : eqo [(75, (-1))] B M) : par (p_M_comesTo_B63_16 f l2 l3 l4 l5 l6 l7 M) (psum (fun s => eqo [(75, (-1))] B s.2.2) (fun s => eqo [(75, (-1))] B s.2)) := by
  unfold p_M_comesTo_B63_16
  refine par_ite ?_ ?_
  · exact fr_M_comesTo_B85_16 h_M
  · refine par_bnd fun i4 => ?_
    exact fr_M_comesTo_B85_16 h_M
theorem fr_M_comesTo_B155_16 {f : Nat} {l2 : Int} {l3 : Int} {l4 : Int} {l5 : Int} {l7 : Int} {s0 : Int} {s1 : Int} {M : oM} {B : oM} (h_M : eqo [(75, (-1))] B M) : par (p_M_comesTo_B155_16 f l2 l3 l4 l5 l7 s0 s1 M) (psum (fun s => eqo [(75, (-1))] B s.2.2) (fun s => eqo [(75, (-1))] B s.2)) := by
  unfold p_M_comesTo_B155_16
  refine par_ite ?_ ?_
  · refine par_ltI fun x6 => ?_
    exact fr_M_comesTo_B230_16 h_M
  · refine par_ltI fun x5 => ?_
    exact fr_M_comesTo_B230_16 h_M
theorem fr_M_comesTo_B135_16 {f : Nat} {l2 : Int} {l3 : Int} {l4 : Int} {l5 : Int} {l6 : Int} {l7 : Int} {M : oM} {B : oM} (h_M : eqo [(75, (-1))] B M) : par (p_M_comesTo_B135_16 f l2 l3 l4 l5 l6 l7 M) (psum (fun s => eqo [(75, (-1))] B s.2.2) (fun s => eqo [(75, (-1))] B s.2)) := by
  unfold p_M_comesTo_B135_16
  refine par_bnd fun i7 => ?_
  refine par_ite ?_ ?_
  · exact fr_M_comesTo_B155_16 h_M
  · exact fr_M_comesTo_B155_16 h_M
theorem fr_M_comesTo_B203_16 {f : Nat} {l2 : Int} {l3 : Int} {l4 : Int} {l5 : Int} {l6 : Int} {M : oM} {B : oM} (h_M : eqo [(75, (-1))] B M) : par (p_M_comesTo_B203_16 f l2 l3 l4 l5 l6 M) (psum (fun s => eqo [(75, (-1))] B s.2.2) (fun s => eqo [(75, (-1))] B s.2)) := by
  unfold p_M_comesTo_B203_16
  refine par_bnd fun i8 => ?_
  refine par_bnd fun i9 => ?_
  refine par_bind (fr_M_reckon (eqo_rfl _ _)) fun q10 g_q10 => ?_
  have h_q10 := eqo_tr subw_nil h_M g_q10
  refine par_bnd fun i11 => ?_
  refine par_lt (eqo_oUa (.head _) h_q10) fun M12 h_M12 => ?_
  exact fr_M_comesTo_B230_16 h_M12
theorem fr_M_comesTo_B192_16 {f : Nat} {l2 : Int} {l3 : Int} {l4 : Int} {l5 : Int} {l6 : Int} {M : oM} {B : oM} (h_M : eqo [(75, (-1))] B M) : par (p_M_comesTo_B192_16 f l2 l3 l4 l5 l6 M) (psum (fun s => eqo [(75, (-1))] B s.2.2) (fun s => eqo [(75, (-1))] B s.2)) := by
  unfold p_M_comesTo_B192_16
  refine par_bnd fun i13 => ?_
  refine par_ite ?_ ?_
  · exact par_some h_M
  · exact fr_M_comesTo_B203_16 h_M
theorem fr_M_comesTo_L16 {f : Nat} {l2 : Int} {l4 : Int} {B : oM} : ∀ (s : Int × Int × oM), (fun s => eqo [(75, (-1))] B s.2.2) s → par (p_M_comesTo_L16 f l2 l4 s) (psum (fun s => eqo [(75, (-1))] B s.2.2) (fun s => eqo [(75, (-1))] B s.2)) := by
  intro s hs
  obtain ⟨l3, l5, M⟩ := s
  have h_M : eqo [(75, (-1))] B M := hs
  unfold p_M_comesTo_L16
  refine par_ite ?_ ?_
  · refine par_bnd fun i15 => ?_
    refine par_nz fun z16 => ?_
    refine par_ltI fun x17 => ?_
    refine par_bnd fun i18 => ?_
    refine par_nz fun z19 => ?_
    refine par_ltI fun x20 => ?_
    refine par_ltI fun x21 => ?_
    refine par_ite ?_ ?_
    · exact fr_M_comesTo_B63_16 h_M
    · refine par_ite ?_ ?_
      · exact fr_M_comesTo_B63_16 h_M
      · refine par_ite ?_ ?_
        · refine par_bnd fun i23 => ?_
          refine par_bnd fun i24 => ?_
          refine par_lt (eqo_oUa (.head _) h_M) fun M25 h_M25 => ?_
          exact fr_M_comesTo_B230_16 h_M25
        · refine par_ite ?_ ?_
          · exact fr_M_comesTo_B135_16 h_M
          · refine par_ite ?_ ?_
            · exact fr_M_comesTo_B135_16 h_M
            · refine par_ltI fun x22 => ?_
              refine par_ite ?_ ?_
              · exact fr_M_comesTo_B192_16 h_M
              · refine par_ite ?_ ?_
                · exact fr_M_comesTo_B192_16 h_M
                · exact fr_M_comesTo_B203_16 h_M
  · refine par_bnd fun i14 => ?_
    exact par_some h_M
theorem fr_M_comesTo {f : Nat} {l1 : Int} {l2 : Int} {M : oM} {B : oM} (h_M : eqo [(75, (-1))] B M) : par (p_M_comesTo f l1 l2 M) (fun s => eqo [(75, (-1))] B s.2) := by
  unfold p_M_comesTo
  refine par_nz fun z26 => ?_
  refine par_ltI fun x27 => ?_
  exact par_iter (fun s hs => fr_M_comesTo_L16 s hs) _ h_M
theorem fr_M_byLaw_B83_2 {f : Nat} {l1 : Int} {l2 : Int} {l3 : Int} {M : oM} {B : oM} (h_M : eqo [(75, (-1))] B M) : par (p_M_byLaw_B83_2 f l1 l2 l3 M) (psum (fun s => eqo [(75, (-1))] B s.2) (fun s => eqo [(75, (-1))] B s.2)) := by
  unfold p_M_byLaw_B83_2
  refine par_ltI fun x1 => ?_
  exact par_some h_M
theorem fr_M_byLaw_L2 {f : Nat} {l1 : Int} {l2 : Int} {B : oM} : ∀ (s : Int × oM), (fun s => eqo [(75, (-1))] B s.2) s → par (p_M_byLaw_L2 f l1 l2 s) (psum (fun s => eqo [(75, (-1))] B s.2) (fun s => eqo [(75, (-1))] B s.2)) := by
  intro s hs
  obtain ⟨l3, M⟩ := s
  have h_M : eqo [(75, (-1))] B M := hs
  unfold p_M_byLaw_L2
  refine par_ite ?_ ?_
  · refine par_bnd fun i2 => ?_
    refine par_ite ?_ ?_
    · refine par_bnd fun i3 => ?_
      refine par_bnd fun i4 => ?_
      refine par_bind (fr_M_comesTo (eqo_rfl _ _)) fun q5 g_q5 => ?_
      have h_q5 := eqo_tr (subw_cons (.head _) subw_nil) h_M g_q5
      refine par_ite ?_ ?_
      · refine par_bnd fun i6 => ?_
        refine par_bnd fun i7 => ?_
        refine par_bind (fr_M_comesTo (eqo_rfl _ _)) fun q8 g_q8 => ?_
        have h_q8 := eqo_tr (subw_cons (.head _) subw_nil) h_q5 g_q8
        refine par_ite ?_ ?_
        · exact par_some h_q8
        · refine par_ite ?_ ?_
          · exact par_some h_q8
          · exact par_some h_q8
      · exact fr_M_byLaw_B83_2 h_q5
    · exact fr_M_byLaw_B83_2 h_M
  · exact par_some h_M
theorem fr_M_byLaw {f : Nat} {l1 : Int} {l2 : Int} {M : oM} {B : oM} (h_M : eqo [(75, (-1))] B M) : par (p_M_byLaw f l1 l2 M) (fun s => eqo [(75, (-1))] B s.2) := by
  unfold p_M_byLaw
  exact par_iter (fun s hs => fr_M_byLaw_L2 s hs) _ h_M
theorem fr_M_chalksOf_B35_4 {f : Nat} {l1 : Int} {l3 : Int} {s0 : Int} {s1 : Int} {M : oM} {B : oM} (h_M : eqo [] B M) : par (p_M_chalksOf_B35_4 f l1 l3 s0 s1 M) (psum (fun s => eqo [] B s.2.2) (fun s => eqo [] B s.2)) := by
  unfold p_M_chalksOf_B35_4
  refine par_ltI fun x1 => ?_
  refine par_ltI fun x2 => ?_
  exact par_some h_M
theorem fr_M_chalksOf_L4 {f : Nat} {l1 : Int} {B : oM} : ∀ (s : Int × Int × oM), (fun s => eqo [] B s.2.2) s → par (p_M_chalksOf_L4 f l1 s) (psum (fun s => eqo [] B s.2.2) (fun s => eqo [] B s.2)) := by
  intro s hs
  obtain ⟨l2, l3, M⟩ := s
  have h_M : eqo [] B M := hs
  unfold p_M_chalksOf_L4
  refine par_bnd fun i3 => ?_
  refine par_ite ?_ ?_
  · refine par_bnd fun i4 => ?_
    refine par_ite ?_ ?_
    · exact fr_M_chalksOf_B35_4 h_M
    · exact fr_M_chalksOf_B35_4 h_M
  · exact par_some h_M
theorem fr_M_chalksOf {f : Nat} {l1 : Int} {M : oM} {B : oM} (h_M : eqo [] B M) : par (p_M_chalksOf f l1 M) (fun s => eqo [] B s.2) := by
  unfold p_M_chalksOf
  exact par_iter (fun s hs => fr_M_chalksOf_L4 s hs) _ h_M
theorem fr_M_feels_L2 {f : Nat} {l1 : Int} {B : oM} : ∀ (s : Int × oM), (fun s => eqo [(76, (-1))] B s.2) s → par (p_M_feels_L2 f l1 s) (psum (fun s => eqo [(76, (-1))] B s.2) (fun s => eqo [(76, (-1))] B s.2)) := by
  intro s hs
  obtain ⟨l2, M⟩ := s
  have h_M : eqo [(76, (-1))] B M := hs
  unfold p_M_feels_L2
  refine par_ite ?_ ?_
  · refine par_bnd fun i6 => ?_
    refine par_lt (eqo_oUa (.head _) h_M) fun M7 h_M7 => ?_
    refine par_ltI fun x8 => ?_
    exact par_some h_M7
  · refine par_bnd fun i1 => ?_
    refine par_lt (eqo_oUa (.head _) h_M) fun M2 h_M2 => ?_
    refine par_bnd fun i3 => ?_
    refine par_bnd fun i4 => ?_
    refine par_lt (eqo_oUa (.head _) h_M2) fun M5 h_M5 => ?_
    exact par_some h_M5
theorem fr_M_feels {f : Nat} {l1 : Int} {M : oM} {B : oM} (h_M : eqo [(76, (-1))] B M) : par (p_M_feels f l1 M) (fun s => eqo [(76, (-1))] B s.2) := by
  unfold p_M_feels
  exact par_iter (fun s hs => fr_M_feels_L2 s hs) _ h_M
theorem fr_M_max {f : Nat} {l0 : Int} {l1 : Int} {M : oM} {B : oM} (h_M : eqo [] B M) : par (p_M_max f l0 l1 M) (fun s => eqo [] B s.2) := by
  unfold p_M_max
  refine par_ite ?_ ?_
  · exact par_some h_M
  · exact par_some h_M
theorem fr_M_size {f : Nat} {l0 : Int} {M : oM} {B : oM} (h_M : eqo [] B M) : par (p_M_size f l0 M) (fun s => eqo [] B s.2) := by
  unfold p_M_size
  refine par_ite ?_ ?_
  · exact par_some h_M
  · exact par_some h_M
theorem fr_M_wayOf {f : Nat} {l1 : Int} {l2 : Int} {M : oM} {B : oM} (h_M : eqo [] B M) : par (p_M_wayOf f l1 l2 M) (fun s => eqo [] B s.2) := by
  unfold p_M_wayOf
  refine par_bnd fun i1 => ?_
  refine par_bnd fun i2 => ?_
  refine par_bind (fr_M_size (eqo_rfl _ _)) fun q3 g_q3 => ?_
  have h_q3 := eqo_tr subw_nil h_M g_q3
  refine par_bnd fun i4 => ?_
  refine par_bnd fun i5 => ?_
  refine par_bind (fr_M_size (eqo_rfl _ _)) fun q6 g_q6 => ?_
  have h_q6 := eqo_tr subw_nil h_q3 g_q6
  refine par_bind (fr_M_max (eqo_rfl _ _)) fun q7 g_q7 => ?_
  have h_q7 := eqo_tr subw_nil h_q6 g_q7
  exact par_some h_q7
theorem fr_M_feelsTwo {f : Nat} {l1 : Int} {l2 : Int} {M : oM} {B : oM} (h_M : eqo [(76, (-1))] B M) : par (p_M_feelsTwo f l1 l2 M) (fun s => eqo [(76, (-1))] B s.2) := by
  unfold p_M_feelsTwo
  refine par_bnd fun i1 => ?_
  refine par_bind (fr_M_feels (eqo_rfl _ _)) fun q2 g_q2 => ?_
  have h_q2 := eqo_tr (subw_cons (.head _) subw_nil) h_M g_q2
  refine par_bnd fun i3 => ?_
  refine par_lt (eqo_oUa (.head _) h_q2) fun M4 h_M4 => ?_
  refine par_bnd fun i5 => ?_
  refine par_lt (eqo_oUa (.head _) h_M4) fun M6 h_M6 => ?_
  refine par_bind (fr_M_debtOf (eqo_rfl _ _)) fun q7 g_q7 => ?_
  have h_q7 := eqo_tr subw_nil h_M6 g_q7
  refine par_bnd fun i8 => ?_
  refine par_lt (eqo_oUa (.head _) h_q7) fun M9 h_M9 => ?_
  refine par_bind (fr_M_owesAll (eqo_rfl _ _)) fun q10 g_q10 => ?_
  have h_q10 := eqo_tr subw_nil h_M9 g_q10
  refine par_bnd fun i11 => ?_
  refine par_lt (eqo_oUa (.head _) h_q10) fun M12 h_M12 => ?_
  refine par_bind (fr_M_wayOf (eqo_rfl _ _)) fun q13 g_q13 => ?_
  have h_q13 := eqo_tr subw_nil h_M12 g_q13
  refine par_bnd fun i14 => ?_
  refine par_lt (eqo_oUa (.head _) h_q13) fun M15 h_M15 => ?_
  refine par_bind (fr_M_chalksOf (eqo_rfl _ _)) fun q16 g_q16 => ?_
  have h_q16 := eqo_tr subw_nil h_M15 g_q16
  refine par_bnd fun i17 => ?_
  refine par_lt (eqo_oUa (.head _) h_q16) fun M18 h_M18 => ?_
  exact par_some h_M18
theorem fr_M_rainBy {f : Nat} {M : oM} {B : oM} (h_M : eqo [(75, (-1)), (76, (-1))] B M) : par (p_M_rainBy f M) (fun s => eqo [(75, (-1)), (76, (-1))] B s.2) := by
  unfold p_M_rainBy
  refine par_bind (fr_M_feels (eqo_rfl _ _)) fun q1 g_q1 => ?_
  have h_q1 := eqo_tr (subw_cons (.tail _ (.head _)) subw_nil) h_M g_q1
  refine par_bind (fr_M_byLaw (eqo_rfl _ _)) fun q2 g_q2 => ?_
  have h_q2 := eqo_tr (subw_cons (.head _) subw_nil) h_q1 g_q2
  exact par_some h_q2
theorem fr_M_dayBegins_X86 {f : Nat} {l1 : Int} {B : oM} : ∀ (s : oM), (fun s => eqo [(57, 33), (57, 34), (58, (-1)), (75, (-1)), (76, (-1))] B s) s → par (p_M_dayBegins_X86 f l1 s) (psum (fun s => eqo [(57, 33), (57, 34), (58, (-1)), (75, (-1)), (76, (-1))] B s.2) (fun s => eqo [(57, 33), (57, 34), (58, (-1)), (75, (-1)), (76, (-1))] B s.2)) := by
  intro s hs
  revert s hs
  intro M hs
  have h_M : eqo [(57, 33), (57, 34), (58, (-1)), (75, (-1)), (76, (-1))] B M := hs
  unfold p_M_dayBegins_X86
  refine par_ltI fun x1 => ?_
  exact par_some h_M
theorem fr_M_dayBegins_B162_86 {f : Nat} {l1 : Int} {l2 : Int} {M : oM} {B : oM} (h_M : eqo [(57, 33), (57, 34), (58, (-1)), (75, (-1)), (76, (-1))] B M) : par (p_M_dayBegins_B162_86 f l1 l2 M) (psum (fun s => eqo [(57, 33), (57, 34), (58, (-1)), (75, (-1)), (76, (-1))] B s.2) (fun s => eqo [(57, 33), (57, 34), (58, (-1)), (75, (-1)), (76, (-1))] B s)) := by
  unfold p_M_dayBegins_B162_86
  refine par_ltI fun x2 => ?_
  exact par_some h_M
theorem fr_M_dayBegins_L86 {f : Nat} {l1 : Int} {B : oM} : ∀ (s : Int × oM), (fun s => eqo [(57, 33), (57, 34), (58, (-1)), (75, (-1)), (76, (-1))] B s.2) s → par (p_M_dayBegins_L86 f l1 s) (psum (fun s => eqo [(57, 33), (57, 34), (58, (-1)), (75, (-1)), (76, (-1))] B s.2) (fun s => eqo [(57, 33), (57, 34), (58, (-1)), (75, (-1)), (76, (-1))] B s)) := by
  intro s hs
  obtain ⟨l2, M⟩ := s
  have h_M : eqo [(57, 33), (57, 34), (58, (-1)), (75, (-1)), (76, (-1))] B M := hs
  unfold p_M_dayBegins_L86
  refine par_ite ?_ ?_
  · refine par_bind (fr_M_debtOf (eqo_rfl _ _)) fun q3 g_q3 => ?_
    have h_q3 := eqo_tr subw_nil h_M g_q3
    refine par_ite ?_ ?_
    · exact fr_M_dayBegins_B162_86 h_q3
    · refine par_bind (fr_M_feelsTwo (eqo_rfl _ _)) fun q4 g_q4 => ?_
      have h_q4 := eqo_tr (subw_cons (.tail _ (.tail _ (.tail _ (.tail _ (.head _))))) subw_nil) h_q3 g_q4
      refine par_bind (fr_M_debtOf (eqo_rfl _ _)) fun q5 g_q5 => ?_
      have h_q5 := eqo_tr subw_nil h_q4 g_q5
      refine par_bind (fr_M_byLaw (eqo_rfl _ _)) fun q6 g_q6 => ?_
      have h_q6 := eqo_tr (subw_cons (.tail _ (.tail _ (.tail _ (.head _)))) subw_nil) h_q5 g_q6
      refine par_bind (fr_M_min (eqo_rfl _ _)) fun q7 g_q7 => ?_
      have h_q7 := eqo_tr subw_nil h_q6 g_q7
      refine par_bind (fr_M_debtOf (eqo_rfl _ _)) fun q8 g_q8 => ?_
      have h_q8 := eqo_tr subw_nil h_q7 g_q8
      refine par_lt (eqo_oU (.tail _ (.head _)) h_q8) fun M9 h_M9 => ?_
      refine par_bnd fun i10 => ?_
      refine par_lt (eqo_oUa (.tail _ (.tail _ (.head _))) h_M9) fun M11 h_M11 => ?_
      exact fr_M_dayBegins_B162_86 h_M11
  · exact par_some h_M
theorem fr_M_dayBegins_L78 {f : Nat} {B : oM} : ∀ (s : Int × oM), (fun s => eqo [(57, 33), (57, 34), (58, (-1)), (75, (-1)), (76, (-1))] B s.2) s → par (p_M_dayBegins_L78 f s) (psum (fun s => eqo [(57, 33), (57, 34), (58, (-1)), (75, (-1)), (76, (-1))] B s.2) (fun s => eqo [(57, 33), (57, 34), (58, (-1)), (75, (-1)), (76, (-1))] B s.2)) := by
  intro s hs
  obtain ⟨l1, M⟩ := s
  have h_M : eqo [(57, 33), (57, 34), (58, (-1)), (75, (-1)), (76, (-1))] B M := hs
  unfold p_M_dayBegins_L78
  refine par_ite ?_ ?_
  · exact par_bind (par_iter (fun s hs => fr_M_dayBegins_L86 s hs) _ h_M) fun s hs => fr_M_dayBegins_X86 s hs
  · exact par_some h_M
theorem fr_M_dayBegins_B58 {f : Nat} {s1 : Int} {s2 : Int} {M : oM} {B : oM} (h_M : eqo [(57, 33), (57, 34), (58, (-1)), (75, (-1)), (76, (-1))] B M) : par (p_M_dayBegins_B58 f s1 s2 M) (fun s => eqo [(57, 33), (57, 34), (58, (-1)), (75, (-1)), (76, (-1))] B s.2) := by
  unfold p_M_dayBegins_B58
  refine par_bnd fun i12 => ?_
  refine par_lt (eqo_oUa (.tail _ (.tail _ (.head _))) h_M) fun M13 h_M13 => ?_
  refine par_bnd fun i14 => ?_
  refine par_lt (eqo_oU (.head _) h_M13) fun M15 h_M15 => ?_
  exact par_iter (fun s hs => fr_M_dayBegins_L78 s hs) _ h_M15
theorem fr_M_dayBegins {f : Nat} {M : oM} {B : oM} (h_M : eqo [(57, 33), (57, 34), (58, (-1)), (75, (-1)), (76, (-1))] B M) : par (p_M_dayBegins f M) (fun s => eqo [(57, 33), (57, 34), (58, (-1)), (75, (-1)), (76, (-1))] B s.2) := by
  unfold p_M_dayBegins
  refine par_bnd fun i16 => ?_
  refine par_nz fun z17 => ?_
  refine par_bnd fun i18 => ?_
  refine par_lt (eqo_oUa (.tail _ (.tail _ (.head _))) h_M) fun M19 h_M19 => ?_
  refine par_bnd fun i20 => ?_
  refine par_nz fun z21 => ?_
  refine par_bind (fr_M_rainBy (eqo_rfl _ _)) fun q22 g_q22 => ?_
  have h_q22 := eqo_tr (subw_cons (.tail _ (.tail _ (.tail _ (.head _)))) (subw_cons (.tail _ (.tail _ (.tail _ (.tail _ (.head _))))) subw_nil)) h_M19 g_q22
  refine par_ite ?_ ?_
  · exact fr_M_dayBegins_B58 h_q22
  · exact fr_M_dayBegins_B58 h_q22
theorem fr_M_holdsAny_B42_2 {f : Nat} {l1 : Int} {l2 : Int} {M : oM} {B : oM} (h_M : eqo [(75, (-1))] B M) : par (p_M_holdsAny_B42_2 f l1 l2 M) (psum (fun s => eqo [(75, (-1))] B s.2) (fun s => eqo [(75, (-1))] B s.2)) := by
  unfold p_M_holdsAny_B42_2
  refine par_ltI fun x1 => ?_
  exact par_some h_M
theorem fr_M_holdsAny_L2 {f : Nat} {l1 : Int} {B : oM} : ∀ (s : Int × oM), (fun s => eqo [(75, (-1))] B s.2) s → par (p_M_holdsAny_L2 f l1 s) (psum (fun s => eqo [(75, (-1))] B s.2) (fun s => eqo [(75, (-1))] B s.2)) := by
  intro s hs
  obtain ⟨l2, M⟩ := s
  have h_M : eqo [(75, (-1))] B M := hs
  unfold p_M_holdsAny_L2
  refine par_ite ?_ ?_
  · refine par_bnd fun i2 => ?_
    refine par_ite ?_ ?_
    · refine par_bnd fun i3 => ?_
      refine par_bnd fun i4 => ?_
      refine par_bind (fr_M_comesTo (eqo_rfl _ _)) fun q5 g_q5 => ?_
      have h_q5 := eqo_tr (subw_cons (.head _) subw_nil) h_M g_q5
      refine par_ite ?_ ?_
      · exact par_some h_q5
      · exact fr_M_holdsAny_B42_2 h_q5
    · exact fr_M_holdsAny_B42_2 h_M
  · exact par_some h_M
theorem fr_M_holdsAny {f : Nat} {l1 : Int} {M : oM} {B : oM} (h_M : eqo [(75, (-1))] B M) : par (p_M_holdsAny f l1 M) (fun s => eqo [(75, (-1))] B s.2) := by
  unfold p_M_holdsAny
  exact par_iter (fun s hs => fr_M_holdsAny_L2 s hs) _ h_M
theorem fr_M_likesBy {f : Nat} {l1 : Int} {l2 : Int} {M : oM} {B : oM} (h_M : eqo [(75, (-1)), (76, (-1))] B M) : par (p_M_likesBy f l1 l2 M) (fun s => eqo [(75, (-1)), (76, (-1))] B s.2) := by
  unfold p_M_likesBy
  refine par_bind (fr_M_feelsTwo (eqo_rfl _ _)) fun q1 g_q1 => ?_
  have h_q1 := eqo_tr (subw_cons (.tail _ (.head _)) subw_nil) h_M g_q1
  refine par_bind (fr_M_holdsAny (eqo_rfl _ _)) fun q2 g_q2 => ?_
  have h_q2 := eqo_tr (subw_cons (.head _) subw_nil) h_q1 g_q2
  refine par_ite ?_ ?_
  · refine par_bind (fr_M_byLaw (eqo_rfl _ _)) fun q3 g_q3 => ?_
    have h_q3 := eqo_tr (subw_cons (.head _) subw_nil) h_q2 g_q3
    exact par_some h_q3
  · exact par_some h_q2
theorem fr_M_nextPaid_B61_8 {f : Nat} {l1 : Int} {l2 : Int} {l3 : Int} {l4 : Int} {M : oM} {B : oM} (h_M : eqo [(75, (-1)), (76, (-1))] B M) : par (p_M_nextPaid_B61_8 f l1 l2 l3 l4 M) (psum (fun s => eqo [(75, (-1)), (76, (-1))] B s.2.2.2) (fun s => eqo [(75, (-1)), (76, (-1))] B s.2)) := by
  unfold p_M_nextPaid_B61_8
  refine par_ltI fun x1 => ?_
  exact par_some h_M
theorem fr_M_nextPaid_L8 {f : Nat} {l1 : Int} {B : oM} : ∀ (s : Int × Int × Int × oM), (fun s => eqo [(75, (-1)), (76, (-1))] B s.2.2.2) s → par (p_M_nextPaid_L8 f l1 s) (psum (fun s => eqo [(75, (-1)), (76, (-1))] B s.2.2.2) (fun s => eqo [(75, (-1)), (76, (-1))] B s.2)) := by
  intro s hs
  obtain ⟨l2, l3, l4, M⟩ := s
  have h_M : eqo [(75, (-1)), (76, (-1))] B M := hs
  unfold p_M_nextPaid_L8
  refine par_ite ?_ ?_
  · refine par_bind (fr_M_isPerson (eqo_rfl _ _)) fun q2 g_q2 => ?_
    have h_q2 := eqo_tr subw_nil h_M g_q2
    refine par_ite ?_ ?_
    · exact fr_M_nextPaid_B61_8 h_q2
    · refine par_bind (fr_M_debtOf (eqo_rfl _ _)) fun q3 g_q3 => ?_
      have h_q3 := eqo_tr subw_nil h_q2 g_q3
      refine par_ite ?_ ?_
      · exact fr_M_nextPaid_B61_8 h_q3
      · refine par_bind (fr_M_likesBy (eqo_rfl _ _)) fun q4 g_q4 => ?_
        have h_q4 := eqo_tr (subw_cons (.head _) (subw_cons (.tail _ (.head _)) subw_nil)) h_q3 g_q4
        refine par_ite ?_ ?_
        · exact fr_M_nextPaid_B61_8 h_q4
        · exact fr_M_nextPaid_B61_8 h_q4
  · exact par_some h_M
theorem fr_M_nextPaid {f : Nat} {l1 : Int} {M : oM} {B : oM} (h_M : eqo [(75, (-1)), (76, (-1))] B M) : par (p_M_nextPaid f l1 M) (fun s => eqo [(75, (-1)), (76, (-1))] B s.2) := by
  unfold p_M_nextPaid
  exact par_iter (fun s hs => fr_M_nextPaid_L8 s hs) _ h_M
theorem fr_M_setsOut {f : Nat} {l1 : Int} {l2 : Int} {M : oM} {B : oM} (h_M : eqo [(58, (-1))] B M) : par (p_M_setsOut f l1 l2 M) (fun s => eqo [(58, (-1))] B s.2) := by
  unfold p_M_setsOut
  refine par_bnd fun i1 => ?_
  refine par_lt (eqo_oUa (.head _) h_M) fun M2 h_M2 => ?_
  refine par_bnd fun i3 => ?_
  refine par_lt (eqo_oUa (.head _) h_M2) fun M4 h_M4 => ?_
  refine par_bnd fun i5 => ?_
  refine par_lt (eqo_oUa (.head _) h_M4) fun M6 h_M6 => ?_
  refine par_bind (fr_M_wayOf (eqo_rfl _ _)) fun q7 g_q7 => ?_
  have h_q7 := eqo_tr subw_nil h_M6 g_q7
  refine par_bnd fun i8 => ?_
  refine par_lt (eqo_oUa (.head _) h_q7) fun M9 h_M9 => ?_
  exact par_some h_M9
theorem fr_M_holds {f : Nat} {l1 : Int} {M : oM} {B : oM} (h_M : eqo [(58, (-1)), (75, (-1)), (76, (-1))] B M) : par (p_M_holds f l1 M) (fun s => eqo [(58, (-1)), (75, (-1)), (76, (-1))] B s.2) := by
  unfold p_M_holds
  refine par_bnd fun i1 => ?_
  refine par_bnd fun i2 => ?_
  refine par_lt (eqo_oUa (.head _) h_M) fun M3 h_M3 => ?_
  refine par_bnd fun i4 => ?_
  refine par_bind (fr_M_in (eqo_rfl _ _)) fun q5 g_q5 => ?_
  have h_q5 := eqo_tr subw_nil h_M3 g_q5
  refine par_ite ?_ ?_
  · exact par_some h_q5
  · refine par_bnd fun i6 => ?_
    refine par_ite ?_ ?_
    · exact par_some h_q5
    · refine par_bind (fr_M_nextPaid (eqo_rfl _ _)) fun q7 g_q7 => ?_
      have h_q7 := eqo_tr (subw_cons (.tail _ (.head _)) (subw_cons (.tail _ (.tail _ (.head _))) subw_nil)) h_q5 g_q7
      refine par_ite ?_ ?_
      · exact par_some h_q7
      · refine par_bind (fr_M_setsOut (eqo_rfl _ _)) fun q8 g_q8 => ?_
        have h_q8 := eqo_tr (subw_cons (.head _) subw_nil) h_q7 g_q8
        exact par_some h_q8
theorem fr_M_chalks_L15 {f : Nat} {l1 : Int} {B : oM} : ∀ (s : Int × oM), (fun s => eqo [(58, (-1))] B s.2) s → par (p_M_chalks_L15 f l1 s) (psum (fun s => eqo [(58, (-1))] B s.2) (fun s => eqo [(58, (-1))] B s.2)) := by
  intro s hs
  obtain ⟨l2, M⟩ := s
  have h_M : eqo [(58, (-1))] B M := hs
  unfold p_M_chalks_L15
  refine par_ite ?_ ?_
  · refine par_bnd fun i9 => ?_
    refine par_bnd fun i10 => ?_
    refine par_lt (eqo_oUa (.head _) h_M) fun M11 h_M11 => ?_
    refine par_ltI fun x12 => ?_
    exact par_some h_M11
  · refine par_bnd fun i1 => ?_
    refine par_lt (eqo_oUa (.head _) h_M) fun M2 h_M2 => ?_
    refine par_bnd fun i3 => ?_
    refine par_bnd fun i4 => ?_
    refine par_lt (eqo_oUa (.head _) h_M2) fun M5 h_M5 => ?_
    refine par_bnd fun i6 => ?_
    refine par_bnd fun i7 => ?_
    refine par_lt (eqo_oUa (.head _) h_M5) fun M8 h_M8 => ?_
    exact par_some h_M8
theorem fr_M_chalks {f : Nat} {l1 : Int} {M : oM} {B : oM} (h_M : eqo [(58, (-1))] B M) : par (p_M_chalks f l1 M) (fun s => eqo [(58, (-1))] B s.2) := by
  unfold p_M_chalks
  refine par_bnd fun i13 => ?_
  refine par_ite ?_ ?_
  · exact par_iter (fun s hs => fr_M_chalks_L15 s hs) _ h_M
  · refine par_bnd fun i14 => ?_
    refine par_bnd fun i15 => ?_
    refine par_lt (eqo_oUa (.head _) h_M) fun M16 h_M16 => ?_
    refine par_bnd fun i17 => ?_
    refine par_bnd fun i18 => ?_
    refine par_lt (eqo_oUa (.head _) h_M16) fun M19 h_M19 => ?_
    exact par_some h_M19
theorem fr_M_pays {f : Nat} {l1 : Int} {l2 : Int} {M : oM} {B : oM} (h_M : eqo [(58, (-1))] B M) : par (p_M_pays f l1 l2 M) (fun s => eqo [(58, (-1))] B s.2) := by
  unfold p_M_pays
  refine par_bind (fr_M_debtOf (eqo_rfl _ _)) fun q1 g_q1 => ?_
  have h_q1 := eqo_tr subw_nil h_M g_q1
  refine par_bind (fr_M_max (eqo_rfl _ _)) fun q2 g_q2 => ?_
  have h_q2 := eqo_tr subw_nil h_q1 g_q2
  refine par_bnd fun i3 => ?_
  refine par_lt (eqo_oUa (.head _) h_q2) fun M4 h_M4 => ?_
  refine par_bind (fr_M_rests (eqo_rfl _ _)) fun q5 g_q5 => ?_
  have h_q5 := eqo_tr (subw_cons (.head _) subw_nil) h_M4 g_q5
  refine par_bind (fr_M_chalks (eqo_rfl _ _)) fun q6 g_q6 => ?_
  have h_q6 := eqo_tr (subw_cons (.head _) subw_nil) h_q5 g_q6
  exact par_some h_q6
theorem fr_M_hourGoes_B125 {f : Nat} {M : oM} {B : oM} (h_M : eqo [(57, 32), (57, 33), (57, 34), (57, 35), (58, (-1)), (75, (-1)), (76, (-1))] B M) : par (p_M_hourGoes_B125 f M) (fun s => eqo [(57, 32), (57, 33), (57, 34), (57, 35), (58, (-1)), (75, (-1)), (76, (-1))] B s.2) := by
  unfold p_M_hourGoes_B125
  refine par_bnd fun i1 => ?_
  refine par_bnd fun i2 => ?_
  refine par_lt (eqo_oUa (.tail _ (.tail _ (.tail _ (.tail _ (.head _))))) h_M) fun M3 h_M3 => ?_
  refine par_bnd fun i4 => ?_
  refine par_ite ?_ ?_
  · exact par_some h_M3
  · refine par_bnd fun i5 => ?_
    refine par_lt (eqo_oUa (.tail _ (.tail _ (.tail _ (.tail _ (.head _))))) h_M3) fun M6 h_M6 => ?_
    refine par_bnd fun i7 => ?_
    refine par_bnd fun i8 => ?_
    refine par_lt (eqo_oUa (.tail _ (.tail _ (.tail _ (.tail _ (.head _))))) h_M6) fun M9 h_M9 => ?_
    exact par_some h_M9
theorem fr_M_hourGoes_B21 {f : Nat} {M : oM} {B : oM} (h_M : eqo [(57, 32), (57, 33), (57, 34), (57, 35), (58, (-1)), (75, (-1)), (76, (-1))] B M) : par (p_M_hourGoes_B21 f M) (fun s => eqo [(57, 32), (57, 33), (57, 34), (57, 35), (58, (-1)), (75, (-1)), (76, (-1))] B s.2) := by
  unfold p_M_hourGoes_B21
  refine par_bnd fun i10 => ?_
  refine par_ite ?_ ?_
  · refine par_bnd fun i14 => ?_
    refine par_bnd fun i15 => ?_
    refine par_lt (eqo_oUa (.tail _ (.tail _ (.tail _ (.tail _ (.head _))))) h_M) fun M16 h_M16 => ?_
    refine par_bnd fun i17 => ?_
    refine par_ite ?_ ?_
    · refine par_bnd fun i18 => ?_
      refine par_lt (eqo_oU (.tail _ (.tail _ (.tail _ (.head _)))) h_M16) fun M19 h_M19 => ?_
      refine par_bnd fun i20 => ?_
      refine par_bind (fr_M_pays (eqo_rfl _ _)) fun q21 g_q21 => ?_
      have h_q21 := eqo_tr (subw_cons (.tail _ (.tail _ (.tail _ (.tail _ (.head _))))) subw_nil) h_M19 g_q21
      refine par_lt (eqo_oU (.head _) h_q21) fun M22 h_M22 => ?_
      exact fr_M_hourGoes_B125 h_M22
    · exact fr_M_hourGoes_B125 h_M16
  · refine par_bnd fun i11 => ?_
    refine par_ite ?_ ?_
    · exact fr_M_hourGoes_B125 h_M
    · refine par_bnd fun i12 => ?_
      refine par_bind (fr_M_holds (eqo_rfl _ _)) fun q13 g_q13 => ?_
      have h_q13 := eqo_tr (subw_cons (.tail _ (.tail _ (.tail _ (.tail _ (.head _))))) (subw_cons (.tail _ (.tail _ (.tail _ (.tail _ (.tail _ (.head _)))))) (subw_cons (.tail _ (.tail _ (.tail _ (.tail _ (.tail _ (.tail _ (.head _))))))) subw_nil))) h_M g_q13
      exact fr_M_hourGoes_B125 h_q13
theorem fr_M_hourGoes {f : Nat} {M : oM} {B : oM} (h_M : eqo [(57, 32), (57, 33), (57, 34), (57, 35), (58, (-1)), (75, (-1)), (76, (-1))] B M) : par (p_M_hourGoes f M) (fun s => eqo [(57, 32), (57, 33), (57, 34), (57, 35), (58, (-1)), (75, (-1)), (76, (-1))] B s.2) := by
  unfold p_M_hourGoes
  refine par_lt (eqo_oU (.tail _ (.tail _ (.tail _ (.head _)))) h_M) fun M23 h_M23 => ?_
  refine par_bnd fun i24 => ?_
  refine par_ite ?_ ?_
  · refine par_bind (fr_M_dayBegins (eqo_rfl _ _)) fun q25 g_q25 => ?_
    have h_q25 := eqo_tr (subw_cons (.tail _ (.head _)) (subw_cons (.tail _ (.tail _ (.head _))) (subw_cons (.tail _ (.tail _ (.tail _ (.tail _ (.head _))))) (subw_cons (.tail _ (.tail _ (.tail _ (.tail _ (.tail _ (.head _)))))) (subw_cons (.tail _ (.tail _ (.tail _ (.tail _ (.tail _ (.tail _ (.head _))))))) subw_nil))))) h_M23 g_q25
    exact fr_M_hourGoes_B21 h_q25
  · exact fr_M_hourGoes_B21 h_M23
theorem fr_M_hoursGo_L6 {f : Nat} {l1 : Int} {B : oM} : ∀ (s : Int × oM), (fun s => eqo [(57, 32), (57, 33), (57, 34), (57, 35), (58, (-1)), (75, (-1)), (76, (-1))] B s.2) s → par (p_M_hoursGo_L6 f l1 s) (psum (fun s => eqo [(57, 32), (57, 33), (57, 34), (57, 35), (58, (-1)), (75, (-1)), (76, (-1))] B s.2) (fun s => eqo [(57, 32), (57, 33), (57, 34), (57, 35), (58, (-1)), (75, (-1)), (76, (-1))] B s.2)) := by
  intro s hs
  obtain ⟨l2, M⟩ := s
  have h_M : eqo [(57, 32), (57, 33), (57, 34), (57, 35), (58, (-1)), (75, (-1)), (76, (-1))] B M := hs
  unfold p_M_hoursGo_L6
  refine par_ite ?_ ?_
  · refine par_bnd fun i1 => ?_
    refine par_ite ?_ ?_
    · refine par_bind (fr_M_hourGoes (eqo_rfl _ _)) fun q2 g_q2 => ?_
      have h_q2 := eqo_tr (subw_cons (.head _) (subw_cons (.tail _ (.head _)) (subw_cons (.tail _ (.tail _ (.head _))) (subw_cons (.tail _ (.tail _ (.tail _ (.head _)))) (subw_cons (.tail _ (.tail _ (.tail _ (.tail _ (.head _))))) (subw_cons (.tail _ (.tail _ (.tail _ (.tail _ (.tail _ (.head _)))))) (subw_cons (.tail _ (.tail _ (.tail _ (.tail _ (.tail _ (.tail _ (.head _))))))) subw_nil))))))) h_M g_q2
      refine par_ltI fun x3 => ?_
      exact par_some h_q2
    · exact par_some h_M
  · exact par_some h_M
theorem fr_M_hoursGo {f : Nat} {l1 : Int} {M : oM} {B : oM} (h_M : eqo [(57, 32), (57, 33), (57, 34), (57, 35), (58, (-1)), (75, (-1)), (76, (-1))] B M) : par (p_M_hoursGo f l1 M) (fun s => eqo [(57, 32), (57, 33), (57, 34), (57, 35), (58, (-1)), (75, (-1)), (76, (-1))] B s.2) := by
  unfold p_M_hoursGo
  refine par_bind (fr_M_begins (eqo_rfl _ _)) fun q4 g_q4 => ?_
  have h_q4 := eqo_tr (subw_cons (.head _) (subw_cons (.tail _ (.head _)) (subw_cons (.tail _ (.tail _ (.head _))) subw_nil))) h_M g_q4
  exact par_iter (fun s hs => fr_M_hoursGo_L6 s hs) _ h_q4
theorem fr_M_hours {f : Nat} {l1 : Int} {M : oM} {B : oM} (h_M : eqo [(57, 32), (57, 33), (57, 34), (57, 35), (58, (-1)), (75, (-1)), (76, (-1))] B M) : par (p_M_hours f l1 M) (fun s => eqo [(57, 32), (57, 33), (57, 34), (57, 35), (58, (-1)), (75, (-1)), (76, (-1))] B s.2) := by
  unfold p_M_hours
  refine par_bind (fr_M_in (eqo_rfl _ _)) fun q1 g_q1 => ?_
  have h_q1 := eqo_tr subw_nil h_M g_q1
  refine par_ite ?_ ?_
  · exact par_some h_q1
  · refine par_bind (fr_M_hoursGo (eqo_rfl _ _)) fun q2 g_q2 => ?_
    have h_q2 := eqo_tr (subw_cons (.head _) (subw_cons (.tail _ (.head _)) (subw_cons (.tail _ (.tail _ (.head _))) (subw_cons (.tail _ (.tail _ (.tail _ (.head _)))) (subw_cons (.tail _ (.tail _ (.tail _ (.tail _ (.head _))))) (subw_cons (.tail _ (.tail _ (.tail _ (.tail _ (.tail _ (.head _)))))) (subw_cons (.tail _ (.tail _ (.tail _ (.tail _ (.tail _ (.tail _ (.head _))))))) subw_nil))))))) h_q1 g_q2
    exact par_some h_q2
theorem fr_M_copies_L2 {f : Nat} {o0 : Nat} {o1 : Nat} {B : oM} : ∀ (s : Int × oM), (fun s => eqo [(o1, (-1))] B s.2) s → par (p_M_copies_L2 f o0 o1 s) (psum (fun s => eqo [(o1, (-1))] B s.2) (fun s => eqo [(o1, (-1))] B s.2)) := by
  intro s hs
  obtain ⟨l2, M⟩ := s
  have h_M : eqo [(o1, (-1))] B M := hs
  unfold p_M_copies_L2
  refine par_ite ?_ ?_
  · refine par_bnd fun i1 => ?_
    refine par_bnd fun i2 => ?_
    refine par_lt (eqo_oUa (.head _) h_M) fun M3 h_M3 => ?_
    refine par_ltI fun x4 => ?_
    exact par_some h_M3
  · exact par_some h_M
theorem fr_M_copies {f : Nat} {o0 : Nat} {o1 : Nat} {M : oM} {B : oM} (h_M : eqo [(o1, (-1))] B M) : par (p_M_copies f o0 o1 M) (fun s => eqo [(o1, (-1))] B s.2) := by
  unfold p_M_copies
  exact par_iter (fun s hs => fr_M_copies_L2 s hs) _ h_M
theorem fr_M_tried_B182 {f : Nat} {l3 : Int} {M : oM} {B : oM} (h_M : eqo [(57, 32), (57, 33), (57, 34), (57, 35), (58, (-1)), (59, (-1)), (75, (-1)), (76, (-1))] B M) : par (p_M_tried_B182 f l3 M) (fun s => eqo [(57, 32), (57, 33), (57, 34), (57, 35), (58, (-1)), (59, (-1)), (75, (-1)), (76, (-1))] B s.2) := by
  unfold p_M_tried_B182
  refine par_bind (fr_M_copies (eqo_rfl _ _)) fun q1 g_q1 => ?_
  have h_q1 := eqo_tr (subw_cons (.tail _ (.tail _ (.tail _ (.tail _ (.head _))))) subw_nil) h_M g_q1
  exact par_some h_q1
theorem fr_M_tried_B44 {f : Nat} {l1 : Int} {l2 : Int} {M : oM} {B : oM} (h_M : eqo [(57, 32), (57, 33), (57, 34), (57, 35), (58, (-1)), (59, (-1)), (75, (-1)), (76, (-1))] B M) : par (p_M_tried_B44 f l1 l2 M) (fun s => eqo [(57, 32), (57, 33), (57, 34), (57, 35), (58, (-1)), (59, (-1)), (75, (-1)), (76, (-1))] B s.2) := by
  unfold p_M_tried_B44
  refine par_bind (fr_M_copies (eqo_rfl _ _)) fun q2 g_q2 => ?_
  have h_q2 := eqo_tr (subw_cons (.tail _ (.tail _ (.tail _ (.tail _ (.tail _ (.head _)))))) subw_nil) h_M g_q2
  refine par_bind (fr_M_hoursGo (eqo_rfl _ _)) fun q3 g_q3 => ?_
  have h_q3 := eqo_tr (subw_cons (.head _) (subw_cons (.tail _ (.head _)) (subw_cons (.tail _ (.tail _ (.head _))) (subw_cons (.tail _ (.tail _ (.tail _ (.head _)))) (subw_cons (.tail _ (.tail _ (.tail _ (.tail _ (.head _))))) (subw_cons (.tail _ (.tail _ (.tail _ (.tail _ (.tail _ (.tail _ (.head _))))))) (subw_cons (.tail _ (.tail _ (.tail _ (.tail _ (.tail _ (.tail _ (.tail _ (.head _)))))))) subw_nil))))))) h_q2 g_q3
  refine par_ite ?_ ?_
  · refine par_ltI fun x4 => ?_
    exact fr_M_tried_B182 h_q3
  · refine par_ite ?_ ?_
    · refine par_bind (fr_M_owedInAll (eqo_rfl _ _)) fun q5 g_q5 => ?_
      have h_q5 := eqo_tr subw_nil h_q3 g_q5
      exact fr_M_tried_B182 h_q5
    · refine par_ite ?_ ?_
      · refine par_bnd fun i6 => ?_
        refine par_ltI fun x7 => ?_
        exact fr_M_tried_B182 h_q3
      · refine par_ite ?_ ?_
        · refine par_ltI fun x8 => ?_
          exact fr_M_tried_B182 h_q3
        · refine par_ite ?_ ?_
          · refine par_ltI fun x9 => ?_
            exact fr_M_tried_B182 h_q3
          · refine par_ite ?_ ?_
            · refine par_bnd fun i10 => ?_
              refine par_ltI fun x11 => ?_
              exact fr_M_tried_B182 h_q3
            · refine par_bnd fun i12 => ?_
              refine par_bnd fun i13 => ?_
              refine par_ltI fun x14 => ?_
              exact fr_M_tried_B182 h_q3
theorem fr_M_tried {f : Nat} {l1 : Int} {l2 : Int} {M : oM} {B : oM} (h_M : eqo [(57, 32), (57, 33), (57, 34), (57, 35), (58, (-1)), (59, (-1)), (75, (-1)), (76, (-1))] B M) : par (p_M_tried f l1 l2 M) (fun s => eqo [(57, 32), (57, 33), (57, 34), (57, 35), (58, (-1)), (59, (-1)), (75, (-1)), (76, (-1))] B s.2) := by
  unfold p_M_tried
  refine par_bind (fr_M_in (eqo_rfl _ _)) fun q15 g_q15 => ?_
  have h_q15 := eqo_tr subw_nil h_M g_q15
  refine par_ite ?_ ?_
  · exact par_some h_q15
  · refine par_bind (fr_M_in (eqo_rfl _ _)) fun q16 g_q16 => ?_
    have h_q16 := eqo_tr subw_nil h_q15 g_q16
    refine par_ite ?_ ?_
    · refine par_bind (fr_M_in (eqo_rfl _ _)) fun q17 g_q17 => ?_
      have h_q17 := eqo_tr subw_nil h_q16 g_q17
      refine par_ite ?_ ?_
      · exact par_some h_q17
      · refine par_bind (fr_M_isPerson (eqo_rfl _ _)) fun q18 g_q18 => ?_
        have h_q18 := eqo_tr subw_nil h_q17 g_q18
        refine par_ite ?_ ?_
        · exact par_some h_q18
        · exact fr_M_tried_B44 h_q18
    · exact fr_M_tried_B44 h_q16
theorem fr_M_getsAll_L4 {f : Nat} {l1 : Int} {B : oM} : ∀ (s : Int × Int × oM), (fun s => eqo [] B s.2.2) s → par (p_M_getsAll_L4 f l1 s) (psum (fun s => eqo [] B s.2.2) (fun s => eqo [] B s.2)) := by
  intro s hs
  obtain ⟨l2, l3, M⟩ := s
  have h_M : eqo [] B M := hs
  unfold p_M_getsAll_L4
  refine par_ite ?_ ?_
  · refine par_bind (fr_M_debtOf (eqo_rfl _ _)) fun q1 g_q1 => ?_
    have h_q1 := eqo_tr subw_nil h_M g_q1
    refine par_ltI fun x2 => ?_
    refine par_ltI fun x3 => ?_
    exact par_some h_q1
  · exact par_some h_M
theorem fr_M_getsAll {f : Nat} {l1 : Int} {M : oM} {B : oM} (h_M : eqo [] B M) : par (p_M_getsAll f l1 M) (fun s => eqo [] B s.2) := by
  unfold p_M_getsAll
  exact par_iter (fun s hs => fr_M_getsAll_L4 s hs) _ h_M
theorem fr_M_personIs {f : Nat} {l1 : Int} {l2 : Int} {M : oM} {B : oM} (h_M : eqo [] B M) : par (p_M_personIs f l1 l2 M) (fun s => eqo [] B s.2) := by
  unfold p_M_personIs
  refine par_bind (fr_M_isPerson (eqo_rfl _ _)) fun q1 g_q1 => ?_
  have h_q1 := eqo_tr subw_nil h_M g_q1
  refine par_ite ?_ ?_
  · exact par_some h_q1
  · refine par_ite ?_ ?_
    · refine par_bnd fun i2 => ?_
      exact par_some h_q1
    · refine par_ite ?_ ?_
      · refine par_bnd fun i3 => ?_
        exact par_some h_q1
      · refine par_ite ?_ ?_
        · refine par_bind (fr_M_owesAll (eqo_rfl _ _)) fun q4 g_q4 => ?_
          have h_q4 := eqo_tr subw_nil h_q1 g_q4
          exact par_some h_q4
        · refine par_ite ?_ ?_
          · refine par_bind (fr_M_getsAll (eqo_rfl _ _)) fun q5 g_q5 => ?_
            have h_q5 := eqo_tr subw_nil h_q1 g_q5
            exact par_some h_q5
          · refine par_ite ?_ ?_
            · refine par_bnd fun i6 => ?_
              exact par_some h_q1
            · refine par_ite ?_ ?_
              · refine par_bind (fr_M_chalksOf (eqo_rfl _ _)) fun q7 g_q7 => ?_
                have h_q7 := eqo_tr subw_nil h_q1 g_q7
                exact par_some h_q7
              · exact par_some h_q1
theorem fr_M_owes {f : Nat} {l1 : Int} {l2 : Int} {M : oM} {B : oM} (h_M : eqo [] B M) : par (p_M_owes f l1 l2 M) (fun s => eqo [] B s.2) := by
  unfold p_M_owes
  refine par_bind (fr_M_areTwo (eqo_rfl _ _)) fun q1 g_q1 => ?_
  have h_q1 := eqo_tr subw_nil h_M g_q1
  refine par_ite ?_ ?_
  · exact par_some h_q1
  · refine par_bind (fr_M_debtOf (eqo_rfl _ _)) fun q2 g_q2 => ?_
    have h_q2 := eqo_tr subw_nil h_q1 g_q2
    exact par_some h_q2
theorem fr_M_likes {f : Nat} {l1 : Int} {l2 : Int} {M : oM} {B : oM} (h_M : eqo [(75, (-1)), (76, (-1))] B M) : par (p_M_likes f l1 l2 M) (fun s => eqo [(75, (-1)), (76, (-1))] B s.2) := by
  unfold p_M_likes
  refine par_bind (fr_M_areTwo (eqo_rfl _ _)) fun q1 g_q1 => ?_
  have h_q1 := eqo_tr subw_nil h_M g_q1
  refine par_ite ?_ ?_
  · exact par_some h_q1
  · refine par_bind (fr_M_likesBy (eqo_rfl _ _)) fun q2 g_q2 => ?_
    have h_q2 := eqo_tr (subw_cons (.head _) (subw_cons (.tail _ (.head _)) subw_nil)) h_q1 g_q2
    exact par_some h_q2
theorem fr_M_readsTimes {f : Nat} {M : oM} {B : oM} (h_M : eqo [(57, 8), (57, 42), (57, 43)] B M) : par (p_M_readsTimes f M) (fun s => eqo [(57, 8), (57, 42), (57, 43)] B s.2) := by
  unfold p_M_readsTimes
  refine par_lt (eqo_oU (.tail _ (.head _)) h_M) fun M1 h_M1 => ?_
  refine par_lt (eqo_oU (.tail _ (.tail _ (.head _))) h_M1) fun M2 h_M2 => ?_
  refine par_bind (fr_M_here (eqo_rfl _ _)) fun q3 g_q3 => ?_
  have h_q3 := eqo_tr subw_nil h_M2 g_q3
  refine par_bind (fr_M_in (eqo_rfl _ _)) fun q4 g_q4 => ?_
  have h_q4 := eqo_tr subw_nil h_q3 g_q4
  refine par_ite ?_ ?_
  · exact par_some h_q4
  · refine par_bind (fr_M_here (eqo_rfl _ _)) fun q5 g_q5 => ?_
    have h_q5 := eqo_tr subw_nil h_q4 g_q5
    refine par_lt (eqo_oU (.tail _ (.tail _ (.head _))) h_q5) fun M6 h_M6 => ?_
    refine par_lt (eqo_oU (.head _) h_M6) fun M7 h_M7 => ?_
    exact par_some h_M7
theorem fr_M_repeats_L31 {f : Nat} {l1 : Int} {l2 : Int} {l4 : Int} {B : oM} : ∀ (s : Int × oM), (fun s => eqo [(57, 10), (57, 40), (78, (-1))] B s.2) s → par (p_M_repeats_L31 f l1 l2 l4 s) (psum (fun s => eqo [(57, 10), (57, 40), (78, (-1))] B s.2) (fun s => eqo [(57, 10), (57, 40), (78, (-1))] B s.2)) := by
  intro s hs
  obtain ⟨l5, M⟩ := s
  have h_M : eqo [(57, 10), (57, 40), (78, (-1))] B M := hs
  unfold p_M_repeats_L31
  refine par_ite ?_ ?_
  · refine par_bnd fun i2 => ?_
    refine par_bnd fun i3 => ?_
    refine par_lt (eqo_oUa (.tail _ (.tail _ (.head _))) h_M) fun M4 h_M4 => ?_
    refine par_ltI fun x5 => ?_
    exact par_some h_M4
  · refine par_lt (eqo_oU (.tail _ (.head _)) h_M) fun M1 h_M1 => ?_
    exact par_some h_M1
theorem fr_M_repeats {f : Nat} {l1 : Int} {l2 : Int} {l3 : Int} {M : oM} {B : oM} (h_M : eqo [(57, 10), (57, 40), (78, (-1))] B M) : par (p_M_repeats f l1 l2 l3 M) (fun s => eqo [(57, 10), (57, 40), (78, (-1))] B s.2) := by
  unfold p_M_repeats
  refine par_ltI fun x6 => ?_
  refine par_ite ?_ ?_
  · refine par_bind (fr_M_wrongAt (eqo_rfl _ _)) fun q7 g_q7 => ?_
    have h_q7 := eqo_tr (subw_cons (.head _) subw_nil) h_M g_q7
    refine par_bnd fun b8 => ?_
    exact par_some h_q7
  · exact par_iter (fun s hs => fr_M_repeats_L31 s hs) _ h_M
theorem fr_M_readsItem_L203 {f : Nat} {B : oM} : ∀ (s : oM), (fun s => eqo [(57, 8), (57, 10), (57, 40), (57, 41), (57, 42), (57, 43), (78, (-1)), (79, (-1)), (80, (-1)), (81, (-1))] B s) s → par (p_M_readsItem_L203 f s) (psum (fun s => eqo [(57, 8), (57, 10), (57, 40), (57, 41), (57, 42), (57, 43), (78, (-1)), (79, (-1)), (80, (-1)), (81, (-1))] B s) (fun s => eqo [(57, 8), (57, 10), (57, 40), (57, 41), (57, 42), (57, 43), (78, (-1)), (79, (-1)), (80, (-1)), (81, (-1))] B s.2)) := by
  intro s hs
  revert s hs
  intro M hs
  have h_M : eqo [(57, 8), (57, 10), (57, 40), (57, 41), (57, 42), (57, 43), (78, (-1)), (79, (-1)), (80, (-1)), (81, (-1))] B M := hs
  unfold p_M_readsItem_L203
  refine par_bind (fr_M_here (eqo_rfl _ _)) fun q1 g_q1 => ?_
  have h_q1 := eqo_tr subw_nil h_M g_q1
  refine par_ite ?_ ?_
  · refine par_ite ?_ ?_
    · refine par_lt (eqo_oU (.head _) h_q1) fun M2 h_M2 => ?_
      refine par_lt (eqo_oU (.tail _ (.tail _ (.tail _ (.head _)))) h_M2) fun M3 h_M3 => ?_
      refine par_bnd fun i4 => ?_
      refine par_bnd fun i5 => ?_
      refine par_bnd fun i6 => ?_
      refine par_bind (fr_M_repeats (eqo_rfl _ _)) fun q7 g_q7 => ?_
      have h_q7 := eqo_tr (subw_cons (.tail _ (.head _)) (subw_cons (.tail _ (.tail _ (.head _))) (subw_cons (.tail _ (.tail _ (.tail _ (.tail _ (.tail _ (.tail _ (.head _))))))) subw_nil))) h_M3 g_q7
      refine par_ite ?_ ?_
      · exact par_some h_q7
      · exact par_some h_q7
    · exact par_some h_q1
  · exact par_some h_q1
theorem fr_M_readsItem_X4 {f : Nat} {B : oM} : ∀ (s : (Int × oM) ⊕ (oM)), (psum (fun s => eqo [(57, 8), (57, 10), (57, 40), (57, 41), (57, 42), (57, 43), (78, (-1)), (79, (-1)), (80, (-1)), (81, (-1))] B s.2) (fun s => eqo [(57, 8), (57, 10), (57, 40), (57, 41), (57, 42), (57, 43), (78, (-1)), (79, (-1)), (80, (-1)), (81, (-1))] B s)) s → par (p_M_readsItem_X4 f s) (fun s => eqo [(57, 8), (57, 10), (57, 40), (57, 41), (57, 42), (57, 43), (78, (-1)), (79, (-1)), (80, (-1)), (81, (-1))] B s.2) := by
  intro s hs
  cases s with
  | inl s =>
    revert s hs
    intro q hs
    have h_q := hs
    unfold p_M_readsItem_X4
    exact par_some h_q
  | inr s =>
    revert s hs
    intro M hs
    have h_M : eqo [(57, 8), (57, 10), (57, 40), (57, 41), (57, 42), (57, 43), (78, (-1)), (79, (-1)), (80, (-1)), (81, (-1))] B M := hs
    unfold p_M_readsItem_X4
    refine par_ltI fun x8 => ?_
    refine par_ltI fun x9 => ?_
    refine par_bind (fr_M_here (eqo_rfl _ _)) fun q10 g_q10 => ?_
    have h_q10 := eqo_tr subw_nil h_M g_q10
    refine par_bind (fr_M_in (eqo_rfl _ _)) fun q11 g_q11 => ?_
    have h_q11 := eqo_tr subw_nil h_q10 g_q11
    refine par_ite ?_ ?_
    · refine par_bind (fr_M_wrongAt (eqo_rfl _ _)) fun q20 g_q20 => ?_
      have h_q20 := eqo_tr (subw_cons (.tail _ (.head _)) subw_nil) h_q11 g_q20
      refine par_bnd fun b21 => ?_
      exact par_some h_q20
    · refine par_ite ?_ ?_
      · refine par_bind (fr_M_wrongAt (eqo_rfl _ _)) fun q18 g_q18 => ?_
        have h_q18 := eqo_tr (subw_cons (.tail _ (.head _)) subw_nil) h_q11 g_q18
        refine par_bnd fun b19 => ?_
        exact par_some h_q18
      · refine par_bind (fr_M_here (eqo_rfl _ _)) fun q12 g_q12 => ?_
        have h_q12 := eqo_tr subw_nil h_q11 g_q12
        refine par_bnd fun i13 => ?_
        refine par_lt (eqo_oUa (.tail _ (.tail _ (.tail _ (.tail _ (.tail _ (.tail _ (.head _))))))) h_q12) fun M14 h_M14 => ?_
        refine par_lt (eqo_oU (.tail _ (.tail _ (.head _))) h_M14) fun M15 h_M15 => ?_
        refine par_lt (eqo_oU (.head _) h_M15) fun M16 h_M16 => ?_
        refine par_bind (fr_M_repeats (eqo_rfl _ _)) fun q17 g_q17 => ?_
        have h_q17 := eqo_tr (subw_cons (.tail _ (.head _)) (subw_cons (.tail _ (.tail _ (.head _))) (subw_cons (.tail _ (.tail _ (.tail _ (.tail _ (.tail _ (.tail _ (.head _))))))) subw_nil))) h_M16 g_q17
        refine par_ite ?_ ?_
        · exact par_some h_q17
        · exact par_iter (fun s hs => fr_M_readsItem_L203 s hs) _ h_q17
theorem fr_M_readsItem_L4 {f : Nat} {B : oM} : ∀ (s : oM), (fun s => eqo [(57, 8), (57, 10), (57, 40), (57, 41), (57, 42), (57, 43), (78, (-1)), (79, (-1)), (80, (-1)), (81, (-1))] B s) s → par (p_M_readsItem_L4 f s) (psum (fun s => eqo [(57, 8), (57, 10), (57, 40), (57, 41), (57, 42), (57, 43), (78, (-1)), (79, (-1)), (80, (-1)), (81, (-1))] B s) (psum (fun s => eqo [(57, 8), (57, 10), (57, 40), (57, 41), (57, 42), (57, 43), (78, (-1)), (79, (-1)), (80, (-1)), (81, (-1))] B s.2) (fun s => eqo [(57, 8), (57, 10), (57, 40), (57, 41), (57, 42), (57, 43), (78, (-1)), (79, (-1)), (80, (-1)), (81, (-1))] B s))) := by
  intro s hs
  revert s hs
  intro M hs
  have h_M : eqo [(57, 8), (57, 10), (57, 40), (57, 41), (57, 42), (57, 43), (78, (-1)), (79, (-1)), (80, (-1)), (81, (-1))] B M := hs
  unfold p_M_readsItem_L4
  refine par_bind (fr_M_here (eqo_rfl _ _)) fun q22 g_q22 => ?_
  have h_q22 := eqo_tr subw_nil h_M g_q22
  refine par_ite ?_ ?_
  · refine par_ite ?_ ?_
    · refine par_bind (fr_M_wrongAt (eqo_rfl _ _)) fun q32 g_q32 => ?_
      have h_q32 := eqo_tr (subw_cons (.tail _ (.head _)) subw_nil) h_q22 g_q32
      refine par_bnd fun b33 => ?_
      exact par_some h_q32
    · refine par_bnd fun i23 => ?_
      refine par_lt (eqo_oUa (.tail _ (.tail _ (.tail _ (.tail _ (.tail _ (.tail _ (.tail _ (.head _)))))))) h_q22) fun M24 h_M24 => ?_
      refine par_bnd fun i25 => ?_
      refine par_lt (eqo_oUa (.tail _ (.tail _ (.tail _ (.tail _ (.tail _ (.tail _ (.tail _ (.tail _ (.head _))))))))) h_M24) fun M26 h_M26 => ?_
      refine par_bnd fun i27 => ?_
      refine par_lt (eqo_oUa (.tail _ (.tail _ (.tail _ (.tail _ (.tail _ (.tail _ (.tail _ (.tail _ (.tail _ (.head _)))))))))) h_M26) fun M28 h_M28 => ?_
      refine par_lt (eqo_oU (.tail _ (.tail _ (.tail _ (.head _)))) h_M28) fun M29 h_M29 => ?_
      refine par_lt (eqo_oU (.head _) h_M29) fun M30 h_M30 => ?_
      refine par_bind (fr_M_readsTimes (eqo_rfl _ _)) fun q31 g_q31 => ?_
      have h_q31 := eqo_tr (subw_cons (.head _) (subw_cons (.tail _ (.tail _ (.tail _ (.tail _ (.head _))))) (subw_cons (.tail _ (.tail _ (.tail _ (.tail _ (.tail _ (.head _)))))) subw_nil))) h_M30 g_q31
      exact par_some h_q31
  · exact par_some h_q22
theorem fr_M_readsItem {f : Nat} {M : oM} {B : oM} (h_M : eqo [(57, 8), (57, 10), (57, 40), (57, 41), (57, 42), (57, 43), (78, (-1)), (79, (-1)), (80, (-1)), (81, (-1))] B M) : par (p_M_readsItem f M) (fun s => eqo [(57, 8), (57, 10), (57, 40), (57, 41), (57, 42), (57, 43), (78, (-1)), (79, (-1)), (80, (-1)), (81, (-1))] B s.2) := by
  unfold p_M_readsItem
  refine par_bind (fr_M_readsTimes (eqo_rfl _ _)) fun q34 g_q34 => ?_
  have h_q34 := eqo_tr (subw_cons (.head _) (subw_cons (.tail _ (.tail _ (.tail _ (.tail _ (.head _))))) (subw_cons (.tail _ (.tail _ (.tail _ (.tail _ (.tail _ (.head _)))))) subw_nil))) h_M g_q34
  exact par_bind (par_iter (fun s hs => fr_M_readsItem_L4 s hs) _ h_q34) fun s hs => fr_M_readsItem_X4 s hs
theorem fr_M_readsRoute_B55_25 {f : Nat} {l2 : Int} {M : oM} {B : oM} (h_M : eqo [(57, 7), (57, 8), (57, 9), (57, 10), (57, 40), (57, 41), (57, 42), (57, 43), (78, (-1)), (79, (-1)), (80, (-1)), (81, (-1))] B M) : par (p_M_readsRoute_B55_25 f l2 M) (psum (fun s => eqo [(57, 7), (57, 8), (57, 9), (57, 10), (57, 40), (57, 41), (57, 42), (57, 43), (78, (-1)), (79, (-1)), (80, (-1)), (81, (-1))] B s.2) (fun s => eqo [(57, 7), (57, 8), (57, 9), (57, 10), (57, 40), (57, 41), (57, 42), (57, 43), (78, (-1)), (79, (-1)), (80, (-1)), (81, (-1))] B s.2)) := by
  unfold p_M_readsRoute_B55_25
  refine par_lt (eqo_oU (.head _) h_M) fun M1 h_M1 => ?_
  refine par_ite ?_ ?_
  · exact par_some h_M1
  · exact par_some h_M1
theorem fr_M_readsRoute_B47_25 {f : Nat} {M : oM} {B : oM} (h_M : eqo [(57, 7), (57, 8), (57, 9), (57, 10), (57, 40), (57, 41), (57, 42), (57, 43), (78, (-1)), (79, (-1)), (80, (-1)), (81, (-1))] B M) : par (p_M_readsRoute_B47_25 f M) (psum (fun s => eqo [(57, 7), (57, 8), (57, 9), (57, 10), (57, 40), (57, 41), (57, 42), (57, 43), (78, (-1)), (79, (-1)), (80, (-1)), (81, (-1))] B s.2) (fun s => eqo [(57, 7), (57, 8), (57, 9), (57, 10), (57, 40), (57, 41), (57, 42), (57, 43), (78, (-1)), (79, (-1)), (80, (-1)), (81, (-1))] B s.2)) := by
  unfold p_M_readsRoute_B47_25
  refine par_bind (fr_M_readsItem (eqo_rfl _ _)) fun q2 g_q2 => ?_
  have h_q2 := eqo_tr (subw_cons (.tail _ (.head _)) (subw_cons (.tail _ (.tail _ (.tail _ (.head _)))) (subw_cons (.tail _ (.tail _ (.tail _ (.tail _ (.head _))))) (subw_cons (.tail _ (.tail _ (.tail _ (.tail _ (.tail _ (.head _)))))) (subw_cons (.tail _ (.tail _ (.tail _ (.tail _ (.tail _ (.tail _ (.head _))))))) (subw_cons (.tail _ (.tail _ (.tail _ (.tail _ (.tail _ (.tail _ (.tail _ (.head _)))))))) (subw_cons (.tail _ (.tail _ (.tail _ (.tail _ (.tail _ (.tail _ (.tail _ (.tail _ (.head _))))))))) (subw_cons (.tail _ (.tail _ (.tail _ (.tail _ (.tail _ (.tail _ (.tail _ (.tail _ (.tail _ (.head _)))))))))) (subw_cons (.tail _ (.tail _ (.tail _ (.tail _ (.tail _ (.tail _ (.tail _ (.tail _ (.tail _ (.tail _ (.head _))))))))))) (subw_cons (.tail _ (.tail _ (.tail _ (.tail _ (.tail _ (.tail _ (.tail _ (.tail _ (.tail _ (.tail _ (.tail _ (.head _)))))))))))) subw_nil)))))))))) h_M g_q2
  exact par_some h_q2
theorem fr_M_readsRoute_L25 {f : Nat} {B : oM} : ∀ (s : Int × oM), (fun s => eqo [(57, 7), (57, 8), (57, 9), (57, 10), (57, 40), (57, 41), (57, 42), (57, 43), (78, (-1)), (79, (-1)), (80, (-1)), (81, (-1))] B s.2) s → par (p_M_readsRoute_L25 f s) (psum (fun s => eqo [(57, 7), (57, 8), (57, 9), (57, 10), (57, 40), (57, 41), (57, 42), (57, 43), (78, (-1)), (79, (-1)), (80, (-1)), (81, (-1))] B s.2) (fun s => eqo [(57, 7), (57, 8), (57, 9), (57, 10), (57, 40), (57, 41), (57, 42), (57, 43), (78, (-1)), (79, (-1)), (80, (-1)), (81, (-1))] B s.2)) := by
  intro s hs
  obtain ⟨l2, M⟩ := s
  have h_M : eqo [(57, 7), (57, 8), (57, 9), (57, 10), (57, 40), (57, 41), (57, 42), (57, 43), (78, (-1)), (79, (-1)), (80, (-1)), (81, (-1))] B M := hs
  unfold p_M_readsRoute_L25
  refine par_ite ?_ ?_
  · exact fr_M_readsRoute_B55_25 h_M
  · refine par_ite ?_ ?_
    · exact fr_M_readsRoute_B47_25 h_M
    · refine par_ite ?_ ?_
      · exact fr_M_readsRoute_B47_25 h_M
      · exact fr_M_readsRoute_B55_25 h_M
theorem fr_M_readsRoute {f : Nat} {l1 : Int} {M : oM} {B : oM} (h_M : eqo [(57, 7), (57, 8), (57, 9), (57, 10), (57, 40), (57, 41), (57, 42), (57, 43), (78, (-1)), (79, (-1)), (80, (-1)), (81, (-1))] B M) : par (p_M_readsRoute f l1 M) (fun s => eqo [(57, 7), (57, 8), (57, 9), (57, 10), (57, 40), (57, 41), (57, 42), (57, 43), (78, (-1)), (79, (-1)), (80, (-1)), (81, (-1))] B s.2) := by
  unfold p_M_readsRoute
  refine par_lt (eqo_oU (.tail _ (.head _)) h_M) fun M3 h_M3 => ?_
  refine par_lt (eqo_oU (.tail _ (.tail _ (.head _))) h_M3) fun M4 h_M4 => ?_
  refine par_lt (eqo_oU (.tail _ (.tail _ (.tail _ (.tail _ (.head _))))) h_M4) fun M5 h_M5 => ?_
  refine par_lt (eqo_oU (.tail _ (.tail _ (.tail _ (.tail _ (.tail _ (.head _)))))) h_M5) fun M6 h_M6 => ?_
  refine par_bind (fr_M_readsItem (eqo_rfl _ _)) fun q7 g_q7 => ?_
  have h_q7 := eqo_tr (subw_cons (.tail _ (.head _)) (subw_cons (.tail _ (.tail _ (.tail _ (.head _)))) (subw_cons (.tail _ (.tail _ (.tail _ (.tail _ (.head _))))) (subw_cons (.tail _ (.tail _ (.tail _ (.tail _ (.tail _ (.head _)))))) (subw_cons (.tail _ (.tail _ (.tail _ (.tail _ (.tail _ (.tail _ (.head _))))))) (subw_cons (.tail _ (.tail _ (.tail _ (.tail _ (.tail _ (.tail _ (.tail _ (.head _)))))))) (subw_cons (.tail _ (.tail _ (.tail _ (.tail _ (.tail _ (.tail _ (.tail _ (.tail _ (.head _))))))))) (subw_cons (.tail _ (.tail _ (.tail _ (.tail _ (.tail _ (.tail _ (.tail _ (.tail _ (.tail _ (.head _)))))))))) (subw_cons (.tail _ (.tail _ (.tail _ (.tail _ (.tail _ (.tail _ (.tail _ (.tail _ (.tail _ (.tail _ (.head _))))))))))) (subw_cons (.tail _ (.tail _ (.tail _ (.tail _ (.tail _ (.tail _ (.tail _ (.tail _ (.tail _ (.tail _ (.tail _ (.head _)))))))))))) subw_nil)))))))))) h_M6 g_q7
  exact par_iter (fun s hs => fr_M_readsRoute_L25 s hs) _ h_q7
theorem fr_M_walksRoute_L10 {f : Nat} {B : oM} : ∀ (s : oM), (fun s => eqo [(57, 44), (57, 45), (58, (-1))] B s) s → par (p_M_walksRoute_L10 f s) (psum (fun s => eqo [(57, 44), (57, 45), (58, (-1))] B s) (fun s => eqo [(57, 44), (57, 45), (58, (-1))] B s.2)) := by
  intro s hs
  revert s hs
  intro M hs
  have h_M : eqo [(57, 44), (57, 45), (58, (-1))] B M := hs
  unfold p_M_walksRoute_L10
  refine par_ite ?_ ?_
  · refine par_bnd fun i1 => ?_
    refine par_ltI fun x2 => ?_
    refine par_bnd fun i3 => ?_
    refine par_ltI fun x4 => ?_
    refine par_bind (fr_M_debtOf (eqo_rfl _ _)) fun q5 g_q5 => ?_
    have h_q5 := eqo_tr subw_nil h_M g_q5
    refine par_ite ?_ ?_
    · exact par_some h_q5
    · refine par_bind (fr_M_wayOf (eqo_rfl _ _)) fun q6 g_q6 => ?_
      have h_q6 := eqo_tr subw_nil h_q5 g_q6
      refine par_lt (eqo_oU (.tail _ (.head _)) h_q6) fun M7 h_M7 => ?_
      refine par_bind (fr_M_pays (eqo_rfl _ _)) fun q8 g_q8 => ?_
      have h_q8 := eqo_tr (subw_cons (.tail _ (.tail _ (.head _))) subw_nil) h_M7 g_q8
      refine par_lt (eqo_oU (.head _) h_q8) fun M9 h_M9 => ?_
      exact par_some h_M9
  · exact par_some h_M
theorem fr_M_walksRoute {f : Nat} {M : oM} {B : oM} (h_M : eqo [(57, 44), (57, 45), (58, (-1))] B M) : par (p_M_walksRoute f M) (fun s => eqo [(57, 44), (57, 45), (58, (-1))] B s.2) := by
  unfold p_M_walksRoute
  refine par_lt (eqo_oU (.head _) h_M) fun M10 h_M10 => ?_
  refine par_lt (eqo_oU (.tail _ (.head _)) h_M10) fun M11 h_M11 => ?_
  exact par_iter (fun s hs => fr_M_walksRoute_L10 s hs) _ h_M11
theorem fr_M_route {f : Nat} {l1 : Int} {l2 : Int} {M : oM} {B : oM} (h_M : eqo [(57, 7), (57, 8), (57, 9), (57, 10), (57, 40), (57, 41), (57, 42), (57, 43), (57, 44), (57, 45), (58, (-1)), (59, (-1)), (78, (-1)), (79, (-1)), (80, (-1)), (81, (-1))] B M) : par (p_M_route f l1 l2 M) (fun s => eqo [(57, 7), (57, 8), (57, 9), (57, 10), (57, 40), (57, 41), (57, 42), (57, 43), (57, 44), (57, 45), (58, (-1)), (59, (-1)), (78, (-1)), (79, (-1)), (80, (-1)), (81, (-1))] B s.2) := by
  unfold p_M_route
  refine par_bind (fr_M_in (eqo_rfl _ _)) fun q1 g_q1 => ?_
  have h_q1 := eqo_tr subw_nil h_M g_q1
  refine par_ite ?_ ?_
  · exact par_some h_q1
  · refine par_bind (fr_M_in (eqo_rfl _ _)) fun q2 g_q2 => ?_
    have h_q2 := eqo_tr subw_nil h_q1 g_q2
    refine par_ite ?_ ?_
    · exact par_some h_q2
    · refine par_ite ?_ ?_
      · exact par_some h_q2
      · refine par_bind (fr_M_readsRoute (eqo_rfl _ _)) fun q3 g_q3 => ?_
        have h_q3 := eqo_tr (subw_cons (.head _) (subw_cons (.tail _ (.head _)) (subw_cons (.tail _ (.tail _ (.head _))) (subw_cons (.tail _ (.tail _ (.tail _ (.head _)))) (subw_cons (.tail _ (.tail _ (.tail _ (.tail _ (.head _))))) (subw_cons (.tail _ (.tail _ (.tail _ (.tail _ (.tail _ (.head _)))))) (subw_cons (.tail _ (.tail _ (.tail _ (.tail _ (.tail _ (.tail _ (.head _))))))) (subw_cons (.tail _ (.tail _ (.tail _ (.tail _ (.tail _ (.tail _ (.tail _ (.head _)))))))) (subw_cons (.tail _ (.tail _ (.tail _ (.tail _ (.tail _ (.tail _ (.tail _ (.tail _ (.tail _ (.tail _ (.tail _ (.tail _ (.head _))))))))))))) (subw_cons (.tail _ (.tail _ (.tail _ (.tail _ (.tail _ (.tail _ (.tail _ (.tail _ (.tail _ (.tail _ (.tail _ (.tail _ (.tail _ (.head _)))))))))))))) (subw_cons (.tail _ (.tail _ (.tail _ (.tail _ (.tail _ (.tail _ (.tail _ (.tail _ (.tail _ (.tail _ (.tail _ (.tail _ (.tail _ (.tail _ (.head _))))))))))))))) (subw_cons (.tail _ (.tail _ (.tail _ (.tail _ (.tail _ (.tail _ (.tail _ (.tail _ (.tail _ (.tail _ (.tail _ (.tail _ (.tail _ (.tail _ (.tail _ (.head _)))))))))))))))) subw_nil)))))))))))) h_q2 g_q3
        refine par_ite ?_ ?_
        · refine par_bnd fun i4 => ?_
          refine par_ite ?_ ?_
          · exact par_some h_q3
          · refine par_bind (fr_M_copies (eqo_rfl _ _)) fun q5 g_q5 => ?_
            have h_q5 := eqo_tr (subw_cons (.tail _ (.tail _ (.tail _ (.tail _ (.tail _ (.tail _ (.tail _ (.tail _ (.tail _ (.tail _ (.tail _ (.head _)))))))))))) subw_nil) h_q3 g_q5
            refine par_bind (fr_M_walksRoute (eqo_rfl _ _)) fun q6 g_q6 => ?_
            have h_q6 := eqo_tr (subw_cons (.tail _ (.tail _ (.tail _ (.tail _ (.tail _ (.tail _ (.tail _ (.tail _ (.head _))))))))) (subw_cons (.tail _ (.tail _ (.tail _ (.tail _ (.tail _ (.tail _ (.tail _ (.tail _ (.tail _ (.head _)))))))))) (subw_cons (.tail _ (.tail _ (.tail _ (.tail _ (.tail _ (.tail _ (.tail _ (.tail _ (.tail _ (.tail _ (.head _))))))))))) subw_nil))) h_q5 g_q6
            refine par_bnd fun i7 => ?_
            refine par_ltI fun x8 => ?_
            refine par_bind (fr_M_copies (eqo_rfl _ _)) fun q9 g_q9 => ?_
            have h_q9 := eqo_tr (subw_cons (.tail _ (.tail _ (.tail _ (.tail _ (.tail _ (.tail _ (.tail _ (.tail _ (.tail _ (.tail _ (.head _))))))))))) subw_nil) h_q6 g_q9
            refine par_ite ?_ ?_
            · exact par_some h_q9
            · refine par_ite ?_ ?_
              · exact par_some h_q9
              · exact par_some h_q9
        · exact par_some h_q3
theorem fr_M_walk {f : Nat} {l1 : Int} {M : oM} {B : oM} (h_M : eqo [(57, 7), (57, 8), (57, 9), (57, 10), (57, 40), (57, 41), (57, 42), (57, 43), (57, 44), (57, 45), (58, (-1)), (78, (-1)), (79, (-1)), (80, (-1)), (81, (-1))] B M) : par (p_M_walk f l1 M) (fun s => eqo [(57, 7), (57, 8), (57, 9), (57, 10), (57, 40), (57, 41), (57, 42), (57, 43), (57, 44), (57, 45), (58, (-1)), (78, (-1)), (79, (-1)), (80, (-1)), (81, (-1))] B s.2) := by
  unfold p_M_walk
  refine par_bind (fr_M_in (eqo_rfl _ _)) fun q1 g_q1 => ?_
  have h_q1 := eqo_tr subw_nil h_M g_q1
  refine par_ite ?_ ?_
  · exact par_some h_q1
  · refine par_ite ?_ ?_
    · exact par_some h_q1
    · refine par_bind (fr_M_readsRoute (eqo_rfl _ _)) fun q2 g_q2 => ?_
      have h_q2 := eqo_tr (subw_cons (.head _) (subw_cons (.tail _ (.head _)) (subw_cons (.tail _ (.tail _ (.head _))) (subw_cons (.tail _ (.tail _ (.tail _ (.head _)))) (subw_cons (.tail _ (.tail _ (.tail _ (.tail _ (.head _))))) (subw_cons (.tail _ (.tail _ (.tail _ (.tail _ (.tail _ (.head _)))))) (subw_cons (.tail _ (.tail _ (.tail _ (.tail _ (.tail _ (.tail _ (.head _))))))) (subw_cons (.tail _ (.tail _ (.tail _ (.tail _ (.tail _ (.tail _ (.tail _ (.head _)))))))) (subw_cons (.tail _ (.tail _ (.tail _ (.tail _ (.tail _ (.tail _ (.tail _ (.tail _ (.tail _ (.tail _ (.tail _ (.head _)))))))))))) (subw_cons (.tail _ (.tail _ (.tail _ (.tail _ (.tail _ (.tail _ (.tail _ (.tail _ (.tail _ (.tail _ (.tail _ (.tail _ (.head _))))))))))))) (subw_cons (.tail _ (.tail _ (.tail _ (.tail _ (.tail _ (.tail _ (.tail _ (.tail _ (.tail _ (.tail _ (.tail _ (.tail _ (.tail _ (.head _)))))))))))))) (subw_cons (.tail _ (.tail _ (.tail _ (.tail _ (.tail _ (.tail _ (.tail _ (.tail _ (.tail _ (.tail _ (.tail _ (.tail _ (.tail _ (.tail _ (.head _))))))))))))))) subw_nil)))))))))))) h_q1 g_q2
      refine par_ite ?_ ?_
      · refine par_bnd fun i3 => ?_
        refine par_ite ?_ ?_
        · exact par_some h_q2
        · refine par_bind (fr_M_walksRoute (eqo_rfl _ _)) fun q4 g_q4 => ?_
          have h_q4 := eqo_tr (subw_cons (.tail _ (.tail _ (.tail _ (.tail _ (.tail _ (.tail _ (.tail _ (.tail _ (.head _))))))))) (subw_cons (.tail _ (.tail _ (.tail _ (.tail _ (.tail _ (.tail _ (.tail _ (.tail _ (.tail _ (.head _)))))))))) (subw_cons (.tail _ (.tail _ (.tail _ (.tail _ (.tail _ (.tail _ (.tail _ (.tail _ (.tail _ (.tail _ (.head _))))))))))) subw_nil))) h_q2 g_q4
          exact par_some h_q4
      · exact par_some h_q2
theorem fr_M_leftOf {f : Nat} {l1 : Int} {l2 : Int} {M : oM} {B : oM} (h_M : eqo [] B M) : par (p_M_leftOf f l1 l2 M) (fun s => eqo [] B s.2) := by
  unfold p_M_leftOf
  refine par_bnd fun i1 => ?_
  exact par_some h_M
theorem fr_M_reachLeft_X16 {f : Nat} {l3 : Int} {B : oM} : ∀ (s : Int × oM), (fun s => eqo [] B s.2) s → par (p_M_reachLeft_X16 f l3 s) (psum (fun s => eqo [] B s.2.2) (fun s => eqo [] B s.2)) := by
  intro s hs
  obtain ⟨l2, M⟩ := s
  have h_M : eqo [] B M := hs
  unfold p_M_reachLeft_X16
  exact par_some h_M
theorem fr_M_reachLeft_X26 {f : Nat} {l3 : Int} {l4 : Int} {B : oM} : ∀ (s : Int × oM), (fun s => eqo [] B s.2) s → par (p_M_reachLeft_X26 f l3 l4 s) (psum (fun s => eqo [] B s.2.2) (fun s => eqo [] B s.2)) := by
  intro s hs
  obtain ⟨l2, M⟩ := s
  have h_M : eqo [] B M := hs
  unfold p_M_reachLeft_X26
  refine par_ltI fun x1 => ?_
  exact par_some h_M
theorem fr_M_reachLeft_B60_26 {f : Nat} {l2 : Int} {l3 : Int} {l4 : Int} {l5 : Int} {M : oM} {B : oM} (h_M : eqo [] B M) : par (p_M_reachLeft_B60_26 f l2 l3 l4 l5 M) (psum (fun s => eqo [] B s.2.2) (fun s => eqo [] B s.2)) := by
  unfold p_M_reachLeft_B60_26
  refine par_ltI fun x2 => ?_
  exact par_some h_M
theorem fr_M_reachLeft_L26 {f : Nat} {l3 : Int} {l4 : Int} {B : oM} : ∀ (s : Int × Int × oM), (fun s => eqo [] B s.2.2) s → par (p_M_reachLeft_L26 f l3 l4 s) (psum (fun s => eqo [] B s.2.2) (fun s => eqo [] B s.2)) := by
  intro s hs
  obtain ⟨l2, l5, M⟩ := s
  have h_M : eqo [] B M := hs
  unfold p_M_reachLeft_L26
  refine par_ite ?_ ?_
  · refine par_bind (fr_M_has (eqo_rfl _ _)) fun q3 g_q3 => ?_
    have h_q3 := eqo_tr subw_nil h_M g_q3
    refine par_ite ?_ ?_
    · exact fr_M_reachLeft_B60_26 h_q3
    · refine par_bind (fr_M_leftOf (eqo_rfl _ _)) fun q4 g_q4 => ?_
      have h_q4 := eqo_tr subw_nil h_q3 g_q4
      refine par_ite ?_ ?_
      · refine par_ltI fun x5 => ?_
        exact fr_M_reachLeft_B60_26 h_q4
      · exact fr_M_reachLeft_B60_26 h_q4
  · exact par_some h_M
theorem fr_M_reachLeft_L16 {f : Nat} {l3 : Int} {B : oM} : ∀ (s : Int × Int × oM), (fun s => eqo [] B s.2.2) s → par (p_M_reachLeft_L16 f l3 s) (psum (fun s => eqo [] B s.2.2) (fun s => eqo [] B s.2)) := by
  intro s hs
  obtain ⟨l2, l4, M⟩ := s
  have h_M : eqo [] B M := hs
  unfold p_M_reachLeft_L16
  refine par_ite ?_ ?_
  · exact par_bind (par_iter (fun s hs => fr_M_reachLeft_L26 s hs) _ h_M) fun s hs => fr_M_reachLeft_X26 s hs
  · exact par_some h_M
theorem fr_M_reachLeft_L6 {f : Nat} {B : oM} : ∀ (s : Int × Int × oM), (fun s => eqo [] B s.2.2) s → par (p_M_reachLeft_L6 f s) (psum (fun s => eqo [] B s.2.2) (fun s => eqo [] B s.2)) := by
  intro s hs
  obtain ⟨l2, l3, M⟩ := s
  have h_M : eqo [] B M := hs
  unfold p_M_reachLeft_L6
  refine par_ite ?_ ?_
  · exact par_some h_M
  · exact par_bind (par_iter (fun s hs => fr_M_reachLeft_L16 s hs) _ h_M) fun s hs => fr_M_reachLeft_X16 s hs
theorem fr_M_reachLeft {f : Nat} {l1 : Int} {M : oM} {B : oM} (h_M : eqo [] B M) : par (p_M_reachLeft f l1 M) (fun s => eqo [] B s.2) := by
  unfold p_M_reachLeft
  refine par_ltI fun x6 => ?_
  exact par_iter (fun s hs => fr_M_reachLeft_L6 s hs) _ h_M
theorem fr_M_isRow_B144_14 {f : Nat} {M : oM} {B : oM} (h_M : eqo [] B M) : par (p_M_isRow_B144_14 f M) (psum (fun s => eqo [] B s.2.2.2) (fun s => eqo [] B s.2)) := by
  unfold p_M_isRow_B144_14
  exact par_some h_M
theorem fr_M_isRow_B133_14 {f : Nat} {l3 : Int} {l4 : Int} {M : oM} {B : oM} (h_M : eqo [] B M) : par (p_M_isRow_B133_14 f l3 l4 M) (psum (fun s => eqo [] B s.2.2.2) (fun s => eqo [] B s.2)) := by
  unfold p_M_isRow_B133_14
  refine par_ite ?_ ?_
  · refine par_ite ?_ ?_
    · exact fr_M_isRow_B144_14 h_M
    · exact par_some h_M
  · exact par_some h_M
theorem fr_M_isRow_B118_14 {f : Nat} {l1 : Int} {l2 : Int} {l3 : Int} {l4 : Int} {l5 : Int} {M : oM} {B : oM} (h_M : eqo [] B M) : par (p_M_isRow_B118_14 f l1 l2 l3 l4 l5 M) (psum (fun s => eqo [] B s.2.2.2) (fun s => eqo [] B s.2)) := by
  unfold p_M_isRow_B118_14
  refine par_ltI fun x1 => ?_
  exact par_some h_M
theorem fr_M_isRow_B105_14 {f : Nat} {l1 : Int} {l2 : Int} {l3 : Int} {l4 : Int} {l5 : Int} {l6 : Int} {l7 : Int} {M : oM} {B : oM} (h_M : eqo [] B M) : par (p_M_isRow_B105_14 f l1 l2 l3 l4 l5 l6 l7 M) (psum (fun s => eqo [] B s.2.2.2) (fun s => eqo [] B s.2)) := by
  unfold p_M_isRow_B105_14
  refine par_ite ?_ ?_
  · refine par_ltI fun x2 => ?_
    exact fr_M_isRow_B118_14 h_M
  · exact fr_M_isRow_B118_14 h_M
theorem fr_M_isRow_B83_14 {f : Nat} {l1 : Int} {l2 : Int} {l3 : Int} {l4 : Int} {l5 : Int} {l6 : Int} {l7 : Int} {M : oM} {B : oM} (h_M : eqo [] B M) : par (p_M_isRow_B83_14 f l1 l2 l3 l4 l5 l6 l7 M) (psum (fun s => eqo [] B s.2.2.2) (fun s => eqo [] B s.2)) := by
  unfold p_M_isRow_B83_14
  refine par_ite ?_ ?_
  · exact par_some h_M
  · refine par_ite ?_ ?_
    · refine par_ltI fun x3 => ?_
      exact fr_M_isRow_B105_14 h_M
    · exact fr_M_isRow_B105_14 h_M
theorem fr_M_isRow_X30 {f : Nat} {l1 : Int} {l2 : Int} {l3 : Int} {l4 : Int} {l5 : Int} {B : oM} : ∀ (s : Int × Int × oM), (fun s => eqo [] B s.2.2) s → par (p_M_isRow_X30 f l1 l2 l3 l4 l5 s) (psum (fun s => eqo [] B s.2.2.2) (fun s => eqo [] B s.2)) := by
  intro s hs
  obtain ⟨l6, l7, M⟩ := s
  have h_M : eqo [] B M := hs
  unfold p_M_isRow_X30
  refine par_ite ?_ ?_
  · refine par_bind (fr_M_has (eqo_rfl _ _)) fun q4 g_q4 => ?_
    have h_q4 := eqo_tr subw_nil h_M g_q4
    refine par_ite ?_ ?_
    · exact par_some h_q4
    · exact fr_M_isRow_B83_14 h_q4
  · exact fr_M_isRow_B83_14 h_M
theorem fr_M_isRow_L30 {f : Nat} {l1 : Int} {l2 : Int} {l3 : Int} {l4 : Int} {l5 : Int} {B : oM} : ∀ (s : Int × Int × Int × oM), (fun s => eqo [] B s.2.2.2) s → par (p_M_isRow_L30 f l1 l2 l3 l4 l5 s) (psum (fun s => eqo [] B s.2.2.2) (fun s => eqo [] B s.2.2)) := by
  intro s hs
  obtain ⟨l6, l7, l8, M⟩ := s
  have h_M : eqo [] B M := hs
  unfold p_M_isRow_L30
  refine par_ite ?_ ?_
  · refine par_bind (fr_M_leftOf (eqo_rfl _ _)) fun q5 g_q5 => ?_
    have h_q5 := eqo_tr subw_nil h_M g_q5
    refine par_ltI fun x6 => ?_
    refine par_bind (fr_M_leftOf (eqo_rfl _ _)) fun q7 g_q7 => ?_
    have h_q7 := eqo_tr subw_nil h_q5 g_q7
    refine par_ltI fun x8 => ?_
    refine par_ltI fun x9 => ?_
    exact par_some h_q7
  · exact par_some h_M
theorem fr_M_isRow_L14 {f : Nat} {l1 : Int} {l2 : Int} {B : oM} : ∀ (s : Int × Int × Int × oM), (fun s => eqo [] B s.2.2.2) s → par (p_M_isRow_L14 f l1 l2 s) (psum (fun s => eqo [] B s.2.2.2) (fun s => eqo [] B s.2)) := by
  intro s hs
  obtain ⟨l3, l4, l5, M⟩ := s
  have h_M : eqo [] B M := hs
  unfold p_M_isRow_L14
  refine par_ite ?_ ?_
  · exact par_bind (par_iter (fun s hs => fr_M_isRow_L30 s hs) _ h_M) fun s hs => fr_M_isRow_X30 s hs
  · refine par_ite ?_ ?_
    · refine par_ite ?_ ?_
      · exact fr_M_isRow_B144_14 h_M
      · exact fr_M_isRow_B133_14 h_M
    · exact fr_M_isRow_B133_14 h_M
theorem fr_M_isRow {f : Nat} {l1 : Int} {M : oM} {B : oM} (h_M : eqo [] B M) : par (p_M_isRow f l1 M) (fun s => eqo [] B s.2) := by
  unfold p_M_isRow
  refine par_bind (fr_M_reachLeft (eqo_rfl _ _)) fun q10 g_q10 => ?_
  have h_q10 := eqo_tr subw_nil h_M g_q10
  exact par_iter (fun s hs => fr_M_isRow_L14 s hs) _ h_q10
theorem fr_M_canGo {f : Nat} {l1 : Int} {l2 : Int} {M : oM} {B : oM} (h_M : eqo [(82, (-1))] B M) : par (p_M_canGo f l1 l2 M) (fun s => eqo [(82, (-1))] B s.2) := by
  unfold p_M_canGo
  refine par_bind (fr_M_leftOf (eqo_rfl _ _)) fun q1 g_q1 => ?_
  have h_q1 := eqo_tr subw_nil h_M g_q1
  refine par_ite ?_ ?_
  · exact par_some h_q1
  · refine par_bind (fr_M_leftOf (eqo_rfl _ _)) fun q2 g_q2 => ?_
    have h_q2 := eqo_tr subw_nil h_q1 g_q2
    refine par_bnd fun i3 => ?_
    refine par_lt (eqo_oUa (.head _) h_q2) fun M4 h_M4 => ?_
    refine par_bind (fr_M_isRow (eqo_rfl _ _)) fun q5 g_q5 => ?_
    have h_q5 := eqo_tr subw_nil h_M4 g_q5
    refine par_bind (fr_M_leftOf (eqo_rfl _ _)) fun q6 g_q6 => ?_
    have h_q6 := eqo_tr subw_nil h_q5 g_q6
    refine par_bnd fun i7 => ?_
    refine par_lt (eqo_oUa (.head _) h_q6) fun M8 h_M8 => ?_
    refine par_bnd fun b9 => ?_
    exact par_some h_M8
theorem fr_M_laysTour_X52 {f : Nat} {l2 : Int} {l3 : Int} {l4 : Int} {B : oM} : ∀ (s : Int × oM), (fun s => eqo [(82, (-1)), (83, (-1))] B s.2) s → par (p_M_laysTour_X52 f l2 l3 l4 s) (psum (fun s => eqo [(82, (-1)), (83, (-1))] B s.2.2) (fun s => eqo [(82, (-1)), (83, (-1))] B s.2)) := by
  intro s hs
  obtain ⟨l5, M⟩ := s
  have h_M : eqo [(82, (-1)), (83, (-1))] B M := hs
  unfold p_M_laysTour_X52
  refine par_bind (fr_M_leftOf (eqo_rfl _ _)) fun q1 g_q1 => ?_
  have h_q1 := eqo_tr subw_nil h_M g_q1
  refine par_bnd fun i2 => ?_
  refine par_lt (eqo_oUa (.head _) h_q1) fun M3 h_M3 => ?_
  refine par_bnd fun i4 => ?_
  refine par_lt (eqo_oUa (.tail _ (.head _)) h_M3) fun M5 h_M5 => ?_
  refine par_ltI fun x6 => ?_
  exact par_some h_M5
theorem fr_M_laysTour_L52 {f : Nat} {l2 : Int} {l3 : Int} {l4 : Int} {B : oM} : ∀ (s : Int × oM), (fun s => eqo [(82, (-1)), (83, (-1))] B s.2) s → par (p_M_laysTour_L52 f l2 l3 l4 s) (psum (fun s => eqo [(82, (-1)), (83, (-1))] B s.2) (fun s => eqo [(82, (-1)), (83, (-1))] B s.2)) := by
  intro s hs
  obtain ⟨l5, M⟩ := s
  have h_M : eqo [(82, (-1)), (83, (-1))] B M := hs
  unfold p_M_laysTour_L52
  refine par_bind (fr_M_canGo (eqo_rfl _ _)) fun q7 g_q7 => ?_
  have h_q7 := eqo_tr (subw_cons (.head _) subw_nil) h_M g_q7
  refine par_ite ?_ ?_
  · refine par_ltI fun x8 => ?_
    exact par_some h_q7
  · exact par_some h_q7
theorem fr_M_laysTour_L43 {f : Nat} {l2 : Int} {B : oM} : ∀ (s : Int × Int × oM), (fun s => eqo [(82, (-1)), (83, (-1))] B s.2.2) s → par (p_M_laysTour_L43 f l2 s) (psum (fun s => eqo [(82, (-1)), (83, (-1))] B s.2.2) (fun s => eqo [(82, (-1)), (83, (-1))] B s.2)) := by
  intro s hs
  obtain ⟨l3, l4, M⟩ := s
  have h_M : eqo [(82, (-1)), (83, (-1))] B M := hs
  unfold p_M_laysTour_L43
  refine par_ite ?_ ?_
  · exact par_bind (par_iter (fun s hs => fr_M_laysTour_L52 s hs) _ h_M) fun s hs => fr_M_laysTour_X52 s hs
  · exact par_some h_M
theorem fr_M_laysTour_X2 {f : Nat} {l1 : Int} {l2 : Int} {B : oM} : ∀ (s : oM), (fun s => eqo [(82, (-1)), (83, (-1))] B s) s → par (p_M_laysTour_X2 f l1 l2 s) (fun s => eqo [(82, (-1)), (83, (-1))] B s.2) := by
  intro s hs
  revert s hs
  intro M hs
  have h_M : eqo [(82, (-1)), (83, (-1))] B M := hs
  unfold p_M_laysTour_X2
  refine par_bind (fr_M_isRow (eqo_rfl _ _)) fun q9 g_q9 => ?_
  have h_q9 := eqo_tr subw_nil h_M g_q9
  refine par_ite ?_ ?_
  · exact par_some h_q9
  · exact par_iter (fun s hs => fr_M_laysTour_L43 s hs) _ h_q9
theorem fr_M_laysTour_L2 {f : Nat} {l1 : Int} {l2 : Int} {B : oM} : ∀ (s : Int × oM), (fun s => eqo [(82, (-1)), (83, (-1))] B s.2) s → par (p_M_laysTour_L2 f l1 l2 s) (psum (fun s => eqo [(82, (-1)), (83, (-1))] B s.2) (fun s => eqo [(82, (-1)), (83, (-1))] B s)) := by
  intro s hs
  obtain ⟨l3, M⟩ := s
  have h_M : eqo [(82, (-1)), (83, (-1))] B M := hs
  unfold p_M_laysTour_L2
  refine par_ite ?_ ?_
  · refine par_bnd fun i10 => ?_
    refine par_bnd fun i11 => ?_
    refine par_lt (eqo_oUa (.head _) h_M) fun M12 h_M12 => ?_
    refine par_ltI fun x13 => ?_
    exact par_some h_M12
  · exact par_some h_M
theorem fr_M_laysTour {f : Nat} {l1 : Int} {l2 : Int} {M : oM} {B : oM} (h_M : eqo [(82, (-1)), (83, (-1))] B M) : par (p_M_laysTour f l1 l2 M) (fun s => eqo [(82, (-1)), (83, (-1))] B s.2) := by
  unfold p_M_laysTour
  exact par_bind (par_iter (fun s hs => fr_M_laysTour_L2 s hs) _ h_M) fun s hs => fr_M_laysTour_X2 s hs
theorem fr_M_tour_B143 {f : Nat} {M : oM} {B : oM} (h_M : eqo [(82, (-1)), (83, (-1))] B M) : par (p_M_tour_B143 f M) (fun s => eqo [(82, (-1)), (83, (-1))] B s.2) := by
  unfold p_M_tour_B143
  exact par_some h_M
theorem fr_M_tour_B107 {f : Nat} {l1 : Int} {l2 : Int} {M : oM} {B : oM} (h_M : eqo [(82, (-1)), (83, (-1))] B M) : par (p_M_tour_B107 f l1 l2 M) (fun s => eqo [(82, (-1)), (83, (-1))] B s.2) := by
  unfold p_M_tour_B107
  refine par_ite ?_ ?_
  · refine par_bnd fun i3 => ?_
    exact par_some h_M
  · refine par_ite ?_ ?_
    · exact fr_M_tour_B143 h_M
    · refine par_bnd fun i1 => ?_
      refine par_bnd fun i2 => ?_
      refine par_ite ?_ ?_
      · exact fr_M_tour_B143 h_M
      · exact par_some h_M
theorem fr_M_tour_B23 {f : Nat} {l1 : Int} {M : oM} {B : oM} (h_M : eqo [(82, (-1)), (83, (-1))] B M) : par (p_M_tour_B23 f l1 M) (fun s => eqo [(82, (-1)), (83, (-1))] B s.2) := by
  unfold p_M_tour_B23
  refine par_bnd fun i4 => ?_
  refine par_ite ?_ ?_
  · exact par_some h_M
  · refine par_bind (fr_M_owedInAll (eqo_rfl _ _)) fun q5 g_q5 => ?_
    have h_q5 := eqo_tr subw_nil h_M g_q5
    refine par_ite ?_ ?_
    · exact par_some h_q5
    · refine par_ite ?_ ?_
      · exact par_some h_q5
      · refine par_bnd fun i6 => ?_
        refine par_bind (fr_M_laysTour (eqo_rfl _ _)) fun q7 g_q7 => ?_
        have h_q7 := eqo_tr (subw_cons (.head _) (subw_cons (.tail _ (.head _)) subw_nil)) h_q5 g_q7
        refine par_ite ?_ ?_
        · refine par_ite ?_ ?_
          · exact par_some h_q7
          · exact par_some h_q7
        · refine par_ite ?_ ?_
          · exact par_some h_q7
          · refine par_ite ?_ ?_
            · refine par_ite ?_ ?_
              · exact fr_M_tour_B107 h_q7
              · exact par_some h_q7
            · exact fr_M_tour_B107 h_q7
theorem fr_M_tour {f : Nat} {l1 : Int} {M : oM} {B : oM} (h_M : eqo [(82, (-1)), (83, (-1))] B M) : par (p_M_tour f l1 M) (fun s => eqo [(82, (-1)), (83, (-1))] B s.2) := by
  unfold p_M_tour
  refine par_bind (fr_M_in (eqo_rfl _ _)) fun q8 g_q8 => ?_
  have h_q8 := eqo_tr subw_nil h_M g_q8
  refine par_ite ?_ ?_
  · refine par_bind (fr_M_in (eqo_rfl _ _)) fun q9 g_q9 => ?_
    have h_q9 := eqo_tr subw_nil h_q8 g_q9
    refine par_ite ?_ ?_
    · exact par_some h_q9
    · exact fr_M_tour_B23 h_q9
  · exact fr_M_tour_B23 h_q8
theorem fr_M_bestCoin_B99_5 {f : Nat} {l1 : Int} {l2 : Int} {l3 : Int} {l4 : Int} {M : oM} {B : oM} (h_M : eqo [] B M) : par (p_M_bestCoin_B99_5 f l1 l2 l3 l4 M) (psum (fun s => eqo [] B s.2.2) (fun s => eqo [] B s.2)) := by
  unfold p_M_bestCoin_B99_5
  refine par_ltI fun x1 => ?_
  exact par_some h_M
theorem fr_M_bestCoin_B96_5 {f : Nat} {l1 : Int} {l2 : Int} {l4 : Int} {M : oM} {B : oM} (h_M : eqo [] B M) : par (p_M_bestCoin_B96_5 f l1 l2 l4 M) (psum (fun s => eqo [] B s.2.2) (fun s => eqo [] B s.2)) := by
  unfold p_M_bestCoin_B96_5
  exact fr_M_bestCoin_B99_5 h_M
theorem fr_M_bestCoin_L5 {f : Nat} {l1 : Int} {l2 : Int} {B : oM} : ∀ (s : Int × Int × oM), (fun s => eqo [] B s.2.2) s → par (p_M_bestCoin_L5 f l1 l2 s) (psum (fun s => eqo [] B s.2.2) (fun s => eqo [] B s.2)) := by
  intro s hs
  obtain ⟨l3, l4, M⟩ := s
  have h_M : eqo [] B M := hs
  unfold p_M_bestCoin_L5
  refine par_ite ?_ ?_
  · refine par_bnd fun i2 => ?_
    refine par_ite ?_ ?_
    · refine par_bind (fr_M_has (eqo_rfl _ _)) fun q3 g_q3 => ?_
      have h_q3 := eqo_tr subw_nil h_M g_q3
      refine par_ite ?_ ?_
      · refine par_bnd fun i4 => ?_
        refine par_bnd fun i5 => ?_
        refine par_bnd fun i6 => ?_
        refine par_ite ?_ ?_
        · refine par_ite ?_ ?_
          · exact fr_M_bestCoin_B96_5 h_q3
          · refine par_bnd fun i7 => ?_
            refine par_bnd fun i8 => ?_
            refine par_ite ?_ ?_
            · exact fr_M_bestCoin_B96_5 h_q3
            · exact fr_M_bestCoin_B99_5 h_q3
        · exact fr_M_bestCoin_B99_5 h_q3
      · exact fr_M_bestCoin_B99_5 h_q3
    · exact fr_M_bestCoin_B99_5 h_M
  · exact par_some h_M
theorem fr_M_bestCoin {f : Nat} {l1 : Int} {l2 : Int} {M : oM} {B : oM} (h_M : eqo [] B M) : par (p_M_bestCoin f l1 l2 M) (fun s => eqo [] B s.2) := by
  unfold p_M_bestCoin
  exact par_iter (fun s hs => fr_M_bestCoin_L5 s hs) _ h_M
theorem fr_M_laysCoins_X25 {f : Nat} {l2 : Int} {B : oM} : ∀ (s : oM), (fun s => eqo [(57, 50), (84, (-1)), (85, (-1))] B s) s → par (p_M_laysCoins_X25 f l2 s) (psum (fun s => eqo [(57, 50), (84, (-1)), (85, (-1))] B s.2) (fun s => eqo [(57, 50), (84, (-1)), (85, (-1))] B s.2)) := by
  intro s hs
  revert s hs
  intro M hs
  have h_M : eqo [(57, 50), (84, (-1)), (85, (-1))] B M := hs
  unfold p_M_laysCoins_X25
  refine par_ltI fun x1 => ?_
  exact par_some h_M
theorem fr_M_laysCoins_X34 {f : Nat} {l2 : Int} {l3 : Int} {B : oM} : ∀ (s : oM), (fun s => eqo [(57, 50), (84, (-1)), (85, (-1))] B s) s → par (p_M_laysCoins_X34 f l2 l3 s) (psum (fun s => eqo [(57, 50), (84, (-1)), (85, (-1))] B s.2) (fun s => eqo [(57, 50), (84, (-1)), (85, (-1))] B s)) := by
  intro s hs
  revert s hs
  intro M hs
  have h_M : eqo [(57, 50), (84, (-1)), (85, (-1))] B M := hs
  unfold p_M_laysCoins_X34
  refine par_ltI fun x2 => ?_
  exact par_some h_M
theorem fr_M_laysCoins_L34 {f : Nat} {l2 : Int} {l3 : Int} {B : oM} : ∀ (s : Int × oM), (fun s => eqo [(57, 50), (84, (-1)), (85, (-1))] B s.2) s → par (p_M_laysCoins_L34 f l2 l3 s) (psum (fun s => eqo [(57, 50), (84, (-1)), (85, (-1))] B s.2) (fun s => eqo [(57, 50), (84, (-1)), (85, (-1))] B s)) := by
  intro s hs
  obtain ⟨l4, M⟩ := s
  have h_M : eqo [(57, 50), (84, (-1)), (85, (-1))] B M := hs
  unfold p_M_laysCoins_L34
  refine par_bind (fr_M_debtOf (eqo_rfl _ _)) fun q3 g_q3 => ?_
  have h_q3 := eqo_tr subw_nil h_M g_q3
  refine par_ite ?_ ?_
  · refine par_bnd fun i4 => ?_
    refine par_lt (eqo_oUa (.tail _ (.head _)) h_q3) fun M5 h_M5 => ?_
    refine par_bnd fun i6 => ?_
    refine par_lt (eqo_oUa (.tail _ (.tail _ (.head _))) h_M5) fun M7 h_M7 => ?_
    refine par_lt (eqo_oU (.head _) h_M7) fun M8 h_M8 => ?_
    refine par_ltI fun x9 => ?_
    exact par_some h_M8
  · exact par_some h_q3
theorem fr_M_laysCoins_L25 {f : Nat} {l2 : Int} {B : oM} : ∀ (s : Int × oM), (fun s => eqo [(57, 50), (84, (-1)), (85, (-1))] B s.2) s → par (p_M_laysCoins_L25 f l2 s) (psum (fun s => eqo [(57, 50), (84, (-1)), (85, (-1))] B s.2) (fun s => eqo [(57, 50), (84, (-1)), (85, (-1))] B s)) := by
  intro s hs
  obtain ⟨l3, M⟩ := s
  have h_M : eqo [(57, 50), (84, (-1)), (85, (-1))] B M := hs
  unfold p_M_laysCoins_L25
  refine par_ite ?_ ?_
  · exact par_bind (par_iter (fun s hs => fr_M_laysCoins_L34 s hs) _ h_M) fun s hs => fr_M_laysCoins_X34 s hs
  · exact par_some h_M
theorem fr_M_laysCoins_L17 {f : Nat} {B : oM} : ∀ (s : Int × oM), (fun s => eqo [(57, 50), (84, (-1)), (85, (-1))] B s.2) s → par (p_M_laysCoins_L17 f s) (psum (fun s => eqo [(57, 50), (84, (-1)), (85, (-1))] B s.2) (fun s => eqo [(57, 50), (84, (-1)), (85, (-1))] B s.2)) := by
  intro s hs
  obtain ⟨l2, M⟩ := s
  have h_M : eqo [(57, 50), (84, (-1)), (85, (-1))] B M := hs
  unfold p_M_laysCoins_L17
  refine par_ite ?_ ?_
  · exact par_bind (par_iter (fun s hs => fr_M_laysCoins_L25 s hs) _ h_M) fun s hs => fr_M_laysCoins_X25 s hs
  · exact par_some h_M
theorem fr_M_laysCoins {f : Nat} {l1 : Int} {M : oM} {B : oM} (h_M : eqo [(57, 50), (84, (-1)), (85, (-1))] B M) : par (p_M_laysCoins f l1 M) (fun s => eqo [(57, 50), (84, (-1)), (85, (-1))] B s.2) := by
  unfold p_M_laysCoins
  refine par_lt (eqo_oU (.head _) h_M) fun M10 h_M10 => ?_
  refine par_bind (fr_M_owedInAll (eqo_rfl _ _)) fun q11 g_q11 => ?_
  have h_q11 := eqo_tr subw_nil h_M10 g_q11
  refine par_ite ?_ ?_
  · exact par_some h_q11
  · exact par_iter (fun s hs => fr_M_laysCoins_L17 s hs) _ h_q11
theorem fr_M_laysMore_X17 {f : Nat} {l2 : Int} {B : oM} : ∀ (s : oM), (fun s => eqo [(86, (-1))] B s) s → par (p_M_laysMore_X17 f l2 s) (psum (fun s => eqo [(86, (-1))] B s.2) (fun s => eqo [(86, (-1))] B s.2)) := by
  intro s hs
  revert s hs
  intro M hs
  have h_M : eqo [(86, (-1))] B M := hs
  unfold p_M_laysMore_X17
  refine par_ltI fun x1 => ?_
  exact par_some h_M
theorem fr_M_laysMore_X29 {f : Nat} {l2 : Int} {l3 : Int} {B : oM} : ∀ (s : Int × oM), (fun s => eqo [(86, (-1))] B s.2) s → par (p_M_laysMore_X29 f l2 l3 s) (psum (fun s => eqo [(86, (-1))] B s.2) (fun s => eqo [(86, (-1))] B s)) := by
  intro s hs
  obtain ⟨l4, M⟩ := s
  have h_M : eqo [(86, (-1))] B M := hs
  unfold p_M_laysMore_X29
  refine par_bnd fun i2 => ?_
  refine par_lt (eqo_oUa (.head _) h_M) fun M3 h_M3 => ?_
  refine par_ltI fun x4 => ?_
  exact par_some h_M3
theorem fr_M_laysMore_B89_29 {f : Nat} {l2 : Int} {l3 : Int} {l4 : Int} {l5 : Int} {M : oM} {B : oM} (h_M : eqo [(86, (-1))] B M) : par (p_M_laysMore_B89_29 f l2 l3 l4 l5 M) (psum (fun s => eqo [(86, (-1))] B s.2.2) (fun s => eqo [(86, (-1))] B s.2)) := by
  unfold p_M_laysMore_B89_29
  refine par_ltI fun x5 => ?_
  exact par_some h_M
theorem fr_M_laysMore_L29 {f : Nat} {l2 : Int} {l3 : Int} {B : oM} : ∀ (s : Int × Int × oM), (fun s => eqo [(86, (-1))] B s.2.2) s → par (p_M_laysMore_L29 f l2 l3 s) (psum (fun s => eqo [(86, (-1))] B s.2.2) (fun s => eqo [(86, (-1))] B s.2)) := by
  intro s hs
  obtain ⟨l4, l5, M⟩ := s
  have h_M : eqo [(86, (-1))] B M := hs
  unfold p_M_laysMore_L29
  refine par_ite ?_ ?_
  · refine par_bnd fun i6 => ?_
    refine par_ite ?_ ?_
    · refine par_bind (fr_M_has (eqo_rfl _ _)) fun q7 g_q7 => ?_
      have h_q7 := eqo_tr subw_nil h_M g_q7
      refine par_ite ?_ ?_
      · refine par_bnd fun i8 => ?_
        refine par_bnd fun i9 => ?_
        refine par_bind (fr_M_max (eqo_rfl _ _)) fun q10 g_q10 => ?_
        have h_q10 := eqo_tr subw_nil h_q7 g_q10
        exact fr_M_laysMore_B89_29 h_q10
      · exact fr_M_laysMore_B89_29 h_q7
    · exact fr_M_laysMore_B89_29 h_M
  · exact par_some h_M
theorem fr_M_laysMore_L17 {f : Nat} {l2 : Int} {B : oM} : ∀ (s : Int × oM), (fun s => eqo [(86, (-1))] B s.2) s → par (p_M_laysMore_L17 f l2 s) (psum (fun s => eqo [(86, (-1))] B s.2) (fun s => eqo [(86, (-1))] B s)) := by
  intro s hs
  obtain ⟨l3, M⟩ := s
  have h_M : eqo [(86, (-1))] B M := hs
  unfold p_M_laysMore_L17
  refine par_ite ?_ ?_
  · exact par_bind (par_iter (fun s hs => fr_M_laysMore_L29 s hs) _ h_M) fun s hs => fr_M_laysMore_X29 s hs
  · exact par_some h_M
theorem fr_M_laysMore_L11 {f : Nat} {B : oM} : ∀ (s : Int × oM), (fun s => eqo [(86, (-1))] B s.2) s → par (p_M_laysMore_L11 f s) (psum (fun s => eqo [(86, (-1))] B s.2) (fun s => eqo [(86, (-1))] B s.2)) := by
  intro s hs
  obtain ⟨l2, M⟩ := s
  have h_M : eqo [(86, (-1))] B M := hs
  unfold p_M_laysMore_L11
  refine par_ite ?_ ?_
  · exact par_some h_M
  · exact par_bind (par_iter (fun s hs => fr_M_laysMore_L17 s hs) _ h_M) fun s hs => fr_M_laysMore_X17 s hs
theorem fr_M_laysMore {f : Nat} {M : oM} {B : oM} (h_M : eqo [(86, (-1))] B M) : par (p_M_laysMore f M) (fun s => eqo [(86, (-1))] B s.2) := by
  unfold p_M_laysMore
  refine par_ltI fun x11 => ?_
  exact par_iter (fun s hs => fr_M_laysMore_L11 s hs) _ h_M
theorem fr_M_most_L102 {f : Nat} {l1 : Int} {B : oM} : ∀ (s : Int × Int × Int × oM), (fun s => eqo [(57, 50), (84, (-1)), (85, (-1)), (86, (-1))] B s.2.2.2) s → par (p_M_most_L102 f l1 s) (psum (fun s => eqo [(57, 50), (84, (-1)), (85, (-1)), (86, (-1))] B s.2.2.2) (fun s => eqo [(57, 50), (84, (-1)), (85, (-1)), (86, (-1))] B s.2)) := by
  intro s hs
  obtain ⟨l2, l3, l4, M⟩ := s
  have h_M : eqo [(57, 50), (84, (-1)), (85, (-1)), (86, (-1))] B M := hs
  unfold p_M_most_L102
  refine par_ite ?_ ?_
  · exact par_some h_M
  · refine par_bind (fr_M_bestCoin (eqo_rfl _ _)) fun q1 g_q1 => ?_
    have h_q1 := eqo_tr subw_nil h_M g_q1
    refine par_ltI fun x2 => ?_
    refine par_bnd fun i3 => ?_
    refine par_ltI fun x4 => ?_
    refine par_ltI fun x5 => ?_
    exact par_some h_q1
theorem fr_M_most_B18 {f : Nat} {l1 : Int} {M : oM} {B : oM} (h_M : eqo [(57, 50), (84, (-1)), (85, (-1)), (86, (-1))] B M) : par (p_M_most_B18 f l1 M) (fun s => eqo [(57, 50), (84, (-1)), (85, (-1)), (86, (-1))] B s.2) := by
  unfold p_M_most_B18
  refine par_bnd fun i6 => ?_
  refine par_ite ?_ ?_
  · exact par_some h_M
  · refine par_bind (fr_M_laysCoins (eqo_rfl _ _)) fun q7 g_q7 => ?_
    have h_q7 := eqo_tr (subw_cons (.head _) (subw_cons (.tail _ (.head _)) (subw_cons (.tail _ (.tail _ (.head _))) subw_nil))) h_M g_q7
    refine par_ite ?_ ?_
    · exact par_some h_q7
    · refine par_bind (fr_M_laysMore (eqo_rfl _ _)) fun q8 g_q8 => ?_
      have h_q8 := eqo_tr (subw_cons (.tail _ (.tail _ (.tail _ (.head _)))) subw_nil) h_q7 g_q8
      refine par_ite ?_ ?_
      · refine par_bnd fun i13 => ?_
        refine par_bnd fun i14 => ?_
        exact par_some h_q8
      · refine par_bnd fun i9 => ?_
        refine par_bnd fun i10 => ?_
        refine par_ite ?_ ?_
        · refine par_bnd fun i11 => ?_
          refine par_ltI fun x12 => ?_
          exact par_iter (fun s hs => fr_M_most_L102 s hs) _ h_q8
        · exact par_some h_q8
theorem fr_M_most {f : Nat} {l1 : Int} {M : oM} {B : oM} (h_M : eqo [(57, 50), (84, (-1)), (85, (-1)), (86, (-1))] B M) : par (p_M_most f l1 M) (fun s => eqo [(57, 50), (84, (-1)), (85, (-1)), (86, (-1))] B s.2) := by
  unfold p_M_most
  refine par_bind (fr_M_in (eqo_rfl _ _)) fun q15 g_q15 => ?_
  have h_q15 := eqo_tr subw_nil h_M g_q15
  refine par_ite ?_ ?_
  · refine par_ite ?_ ?_
    · exact fr_M_most_B18 h_q15
    · exact par_some h_q15
  · exact fr_M_most_B18 h_q15
theorem fr_M_laysBack_X102 {f : Nat} {l1 : Int} {B : oM} : ∀ (s : oM), (fun s => eqo [(87, (-1)), (88, (-1))] B s) s → par (p_M_laysBack_X102 f l1 s) (psum (fun s => eqo [(87, (-1)), (88, (-1))] B s.2) (fun s => eqo [(87, (-1)), (88, (-1))] B s.2)) := by
  intro s hs
  revert s hs
  intro M hs
  have h_M : eqo [(87, (-1)), (88, (-1))] B M := hs
  unfold p_M_laysBack_X102
  refine par_ltI fun x1 => ?_
  exact par_some h_M
theorem fr_M_laysBack_X110 {f : Nat} {l1 : Int} {l2 : Int} {B : oM} : ∀ (s : oM), (fun s => eqo [(87, (-1)), (88, (-1))] B s) s → par (p_M_laysBack_X110 f l1 l2 s) (psum (fun s => eqo [(87, (-1)), (88, (-1))] B s.2) (fun s => eqo [(87, (-1)), (88, (-1))] B s)) := by
  intro s hs
  revert s hs
  intro M hs
  have h_M : eqo [(87, (-1)), (88, (-1))] B M := hs
  unfold p_M_laysBack_X110
  refine par_ltI fun x2 => ?_
  exact par_some h_M
theorem fr_M_laysBack_L110 {f : Nat} {l1 : Int} {l2 : Int} {B : oM} : ∀ (s : Int × oM), (fun s => eqo [(87, (-1)), (88, (-1))] B s.2) s → par (p_M_laysBack_L110 f l1 l2 s) (psum (fun s => eqo [(87, (-1)), (88, (-1))] B s.2) (fun s => eqo [(87, (-1)), (88, (-1))] B s)) := by
  intro s hs
  obtain ⟨l3, M⟩ := s
  have h_M : eqo [(87, (-1)), (88, (-1))] B M := hs
  unfold p_M_laysBack_L110
  refine par_ite ?_ ?_
  · refine par_bnd fun i3 => ?_
    refine par_bnd fun i4 => ?_
    refine par_bnd fun i5 => ?_
    refine par_bind (fr_M_min (eqo_rfl _ _)) fun q6 g_q6 => ?_
    have h_q6 := eqo_tr subw_nil h_M g_q6
    refine par_bnd fun i7 => ?_
    refine par_lt (eqo_oUa (.head _) h_q6) fun M8 h_M8 => ?_
    refine par_bnd fun i9 => ?_
    refine par_bnd fun i10 => ?_
    refine par_bnd fun i11 => ?_
    refine par_bind (fr_M_min (eqo_rfl _ _)) fun q12 g_q12 => ?_
    have h_q12 := eqo_tr subw_nil h_M8 g_q12
    refine par_bnd fun i13 => ?_
    refine par_lt (eqo_oUa (.tail _ (.head _)) h_q12) fun M14 h_M14 => ?_
    refine par_ltI fun x15 => ?_
    exact par_some h_M14
  · exact par_some h_M
theorem fr_M_laysBack_L102 {f : Nat} {l1 : Int} {B : oM} : ∀ (s : Int × oM), (fun s => eqo [(87, (-1)), (88, (-1))] B s.2) s → par (p_M_laysBack_L102 f l1 s) (psum (fun s => eqo [(87, (-1)), (88, (-1))] B s.2) (fun s => eqo [(87, (-1)), (88, (-1))] B s)) := by
  intro s hs
  obtain ⟨l2, M⟩ := s
  have h_M : eqo [(87, (-1)), (88, (-1))] B M := hs
  unfold p_M_laysBack_L102
  refine par_ite ?_ ?_
  · exact par_bind (par_iter (fun s hs => fr_M_laysBack_L110 s hs) _ h_M) fun s hs => fr_M_laysBack_X110 s hs
  · exact par_some h_M
theorem fr_M_laysBack_L94 {f : Nat} {B : oM} : ∀ (s : Int × oM), (fun s => eqo [(87, (-1)), (88, (-1))] B s.2) s → par (p_M_laysBack_L94 f s) (psum (fun s => eqo [(87, (-1)), (88, (-1))] B s.2) (fun s => eqo [(87, (-1)), (88, (-1))] B s.2)) := by
  intro s hs
  obtain ⟨l1, M⟩ := s
  have h_M : eqo [(87, (-1)), (88, (-1))] B M := hs
  unfold p_M_laysBack_L94
  refine par_ite ?_ ?_
  · exact par_bind (par_iter (fun s hs => fr_M_laysBack_L102 s hs) _ h_M) fun s hs => fr_M_laysBack_X102 s hs
  · exact par_some h_M
theorem fr_M_laysBack_X2 {f : Nat} {B : oM} : ∀ (s : oM), (fun s => eqo [(87, (-1)), (88, (-1))] B s) s → par (p_M_laysBack_X2 f s) (fun s => eqo [(87, (-1)), (88, (-1))] B s.2) := by
  intro s hs
  revert s hs
  intro M hs
  have h_M : eqo [(87, (-1)), (88, (-1))] B M := hs
  unfold p_M_laysBack_X2
  exact par_iter (fun s hs => fr_M_laysBack_L94 s hs) _ h_M
theorem fr_M_laysBack_X10 {f : Nat} {l1 : Int} {B : oM} : ∀ (s : oM), (fun s => eqo [(87, (-1)), (88, (-1))] B s) s → par (p_M_laysBack_X10 f l1 s) (psum (fun s => eqo [(87, (-1)), (88, (-1))] B s.2) (fun s => eqo [(87, (-1)), (88, (-1))] B s)) := by
  intro s hs
  revert s hs
  intro M hs
  have h_M : eqo [(87, (-1)), (88, (-1))] B M := hs
  unfold p_M_laysBack_X10
  refine par_ltI fun x16 => ?_
  exact par_some h_M
theorem fr_M_laysBack_B79_10 {f : Nat} {l1 : Int} {l2 : Int} {s1 : Int} {s2 : Int} {M : oM} {B : oM} (h_M : eqo [(87, (-1)), (88, (-1))] B M) : par (p_M_laysBack_B79_10 f l1 l2 s1 s2 M) (psum (fun s => eqo [(87, (-1)), (88, (-1))] B s.2) (fun s => eqo [(87, (-1)), (88, (-1))] B s)) := by
  unfold p_M_laysBack_B79_10
  refine par_bnd fun i17 => ?_
  refine par_lt (eqo_oUa (.tail _ (.head _)) h_M) fun M18 h_M18 => ?_
  refine par_ltI fun x19 => ?_
  exact par_some h_M18
theorem fr_M_laysBack_B52_10 {f : Nat} {l1 : Int} {l2 : Int} {l3 : Int} {s1 : Int} {s2 : Int} {M : oM} {B : oM} (h_M : eqo [(87, (-1)), (88, (-1))] B M) : par (p_M_laysBack_B52_10 f l1 l2 l3 s1 s2 M) (psum (fun s => eqo [(87, (-1)), (88, (-1))] B s.2) (fun s => eqo [(87, (-1)), (88, (-1))] B s)) := by
  unfold p_M_laysBack_B52_10
  refine par_bnd fun i20 => ?_
  refine par_lt (eqo_oUa (.head _) h_M) fun M21 h_M21 => ?_
  refine par_ite ?_ ?_
  · exact fr_M_laysBack_B79_10 h_M21
  · refine par_bind (fr_M_wayOf (eqo_rfl _ _)) fun q22 g_q22 => ?_
    have h_q22 := eqo_tr subw_nil h_M21 g_q22
    exact fr_M_laysBack_B79_10 h_q22
theorem fr_M_laysBack_B30_10 {f : Nat} {l1 : Int} {l2 : Int} {s0 : Int} {M : oM} {B : oM} (h_M : eqo [(87, (-1)), (88, (-1))] B M) : par (p_M_laysBack_B30_10 f l1 l2 s0 M) (psum (fun s => eqo [(87, (-1)), (88, (-1))] B s.2) (fun s => eqo [(87, (-1)), (88, (-1))] B s)) := by
  unfold p_M_laysBack_B30_10
  refine par_ite ?_ ?_
  · exact fr_M_laysBack_B52_10 h_M
  · exact fr_M_laysBack_B52_10 h_M
theorem fr_M_laysBack_L10 {f : Nat} {l1 : Int} {B : oM} : ∀ (s : Int × oM), (fun s => eqo [(87, (-1)), (88, (-1))] B s.2) s → par (p_M_laysBack_L10 f l1 s) (psum (fun s => eqo [(87, (-1)), (88, (-1))] B s.2) (fun s => eqo [(87, (-1)), (88, (-1))] B s)) := by
  intro s hs
  obtain ⟨l2, M⟩ := s
  have h_M : eqo [(87, (-1)), (88, (-1))] B M := hs
  unfold p_M_laysBack_L10
  refine par_ite ?_ ?_
  · refine par_bind (fr_M_debtOf (eqo_rfl _ _)) fun q23 g_q23 => ?_
    have h_q23 := eqo_tr subw_nil h_M g_q23
    refine par_ite ?_ ?_
    · exact fr_M_laysBack_B30_10 h_q23
    · exact fr_M_laysBack_B30_10 h_q23
  · exact par_some h_M
theorem fr_M_laysBack_L2 {f : Nat} {B : oM} : ∀ (s : Int × oM), (fun s => eqo [(87, (-1)), (88, (-1))] B s.2) s → par (p_M_laysBack_L2 f s) (psum (fun s => eqo [(87, (-1)), (88, (-1))] B s.2) (fun s => eqo [(87, (-1)), (88, (-1))] B s)) := by
  intro s hs
  obtain ⟨l1, M⟩ := s
  have h_M : eqo [(87, (-1)), (88, (-1))] B M := hs
  unfold p_M_laysBack_L2
  refine par_ite ?_ ?_
  · exact par_bind (par_iter (fun s hs => fr_M_laysBack_L10 s hs) _ h_M) fun s hs => fr_M_laysBack_X10 s hs
  · exact par_some h_M
theorem fr_M_laysBack {f : Nat} {M : oM} {B : oM} (h_M : eqo [(87, (-1)), (88, (-1))] B M) : par (p_M_laysBack f M) (fun s => eqo [(87, (-1)), (88, (-1))] B s.2) := by
  unfold p_M_laysBack
  exact par_bind (par_iter (fun s hs => fr_M_laysBack_L2 s hs) _ h_M) fun s hs => fr_M_laysBack_X2 s hs
theorem fr_M_back_B48 {f : Nat} {s0 : Int} {M : oM} {B : oM} (h_M : eqo [(87, (-1)), (88, (-1))] B M) : par (p_M_back_B48 f s0 M) (fun s => eqo [(87, (-1)), (88, (-1))] B s.2) := by
  unfold p_M_back_B48
  refine par_ite ?_ ?_
  · exact par_some h_M
  · exact par_some h_M
theorem fr_M_back {f : Nat} {l1 : Int} {l2 : Int} {M : oM} {B : oM} (h_M : eqo [(87, (-1)), (88, (-1))] B M) : par (p_M_back f l1 l2 M) (fun s => eqo [(87, (-1)), (88, (-1))] B s.2) := by
  unfold p_M_back
  refine par_bind (fr_M_isPerson (eqo_rfl _ _)) fun q1 g_q1 => ?_
  have h_q1 := eqo_tr subw_nil h_M g_q1
  refine par_ite ?_ ?_
  · exact par_some h_q1
  · refine par_bind (fr_M_in (eqo_rfl _ _)) fun q2 g_q2 => ?_
    have h_q2 := eqo_tr subw_nil h_q1 g_q2
    refine par_ite ?_ ?_
    · exact par_some h_q2
    · refine par_bind (fr_M_laysBack (eqo_rfl _ _)) fun q3 g_q3 => ?_
      have h_q3 := eqo_tr (subw_cons (.head _) (subw_cons (.tail _ (.head _)) subw_nil)) h_q2 g_q3
      refine par_ite ?_ ?_
      · refine par_bnd fun i5 => ?_
        exact fr_M_back_B48 h_q3
      · refine par_bnd fun i4 => ?_
        exact fr_M_back_B48 h_q3
theorem fr_M_hoursOfRow_L4 {f : Nat} {l1 : Int} {B : oM} : ∀ (s : Int × Int × oM), (fun s => eqo [] B s.2.2) s → par (p_M_hoursOfRow_L4 f l1 s) (psum (fun s => eqo [] B s.2.2) (fun s => eqo [] B s.2)) := by
  intro s hs
  obtain ⟨l2, l3, M⟩ := s
  have h_M : eqo [] B M := hs
  unfold p_M_hoursOfRow_L4
  refine par_ite ?_ ?_
  · refine par_bnd fun i1 => ?_
    refine par_bnd fun i2 => ?_
    refine par_bnd fun i3 => ?_
    refine par_bind (fr_M_wayOf (eqo_rfl _ _)) fun q4 g_q4 => ?_
    have h_q4 := eqo_tr subw_nil h_M g_q4
    refine par_ltI fun x5 => ?_
    refine par_ltI fun x6 => ?_
    exact par_some h_q4
  · exact par_some h_M
theorem fr_M_hoursOfRow {f : Nat} {l1 : Int} {M : oM} {B : oM} (h_M : eqo [] B M) : par (p_M_hoursOfRow f l1 M) (fun s => eqo [] B s.2) := by
  unfold p_M_hoursOfRow
  exact par_iter (fun s hs => fr_M_hoursOfRow_L4 s hs) _ h_M
theorem fr_M_setOffOf {f : Nat} {l1 : Int} {M : oM} {B : oM} (h_M : eqo [] B M) : par (p_M_setOffOf f l1 M) (fun s => eqo [] B s.2) := by
  unfold p_M_setOffOf
  refine par_bind (fr_M_getsAll (eqo_rfl _ _)) fun q1 g_q1 => ?_
  have h_q1 := eqo_tr subw_nil h_M g_q1
  refine par_bind (fr_M_owesAll (eqo_rfl _ _)) fun q2 g_q2 => ?_
  have h_q2 := eqo_tr subw_nil h_q1 g_q2
  exact par_some h_q2
theorem fr_M_laysLacks_X68 {f : Nat} {l2 : Int} {l3 : Int} {B : oM} : ∀ (s : Int × oM), (fun s => eqo [(57, 58), (89, (-1)), (90, (-1))] B s.2) s → par (p_M_laysLacks_X68 f l2 l3 s) (psum (fun s => eqo [(57, 58), (89, (-1)), (90, (-1))] B s.2.2) (fun s => eqo [(57, 58), (89, (-1)), (90, (-1))] B s.2)) := by
  intro s hs
  obtain ⟨l1, M⟩ := s
  have h_M : eqo [(57, 58), (89, (-1)), (90, (-1))] B M := hs
  unfold p_M_laysLacks_X68
  refine par_ltI fun x1 => ?_
  exact par_some h_M
theorem fr_M_laysLacks_B88_68 {f : Nat} {l1 : Int} {l2 : Int} {l3 : Int} {l4 : Int} {M : oM} {B : oM} (h_M : eqo [(57, 58), (89, (-1)), (90, (-1))] B M) : par (p_M_laysLacks_B88_68 f l1 l2 l3 l4 M) (psum (fun s => eqo [(57, 58), (89, (-1)), (90, (-1))] B s.2.2) (fun s => eqo [(57, 58), (89, (-1)), (90, (-1))] B s.2)) := by
  unfold p_M_laysLacks_B88_68
  refine par_ltI fun x2 => ?_
  refine par_ltI fun x3 => ?_
  exact par_some h_M
theorem fr_M_laysLacks_L68 {f : Nat} {l2 : Int} {l3 : Int} {B : oM} : ∀ (s : Int × Int × oM), (fun s => eqo [(57, 58), (89, (-1)), (90, (-1))] B s.2.2) s → par (p_M_laysLacks_L68 f l2 l3 s) (psum (fun s => eqo [(57, 58), (89, (-1)), (90, (-1))] B s.2.2) (fun s => eqo [(57, 58), (89, (-1)), (90, (-1))] B s.2)) := by
  intro s hs
  obtain ⟨l1, l4, M⟩ := s
  have h_M : eqo [(57, 58), (89, (-1)), (90, (-1))] B M := hs
  unfold p_M_laysLacks_L68
  refine par_ite ?_ ?_
  · refine par_ite ?_ ?_
    · refine par_bnd fun i4 => ?_
      refine par_lt (eqo_oUa (.tail _ (.tail _ (.head _))) h_M) fun M5 h_M5 => ?_
      exact fr_M_laysLacks_B88_68 h_M5
    · exact fr_M_laysLacks_B88_68 h_M
  · exact par_some h_M
theorem fr_M_laysLacks_X24 {f : Nat} {l1 : Int} {l2 : Int} {l3 : Int} {B : oM} : ∀ (s : oM), (fun s => eqo [(57, 58), (89, (-1)), (90, (-1))] B s) s → par (p_M_laysLacks_X24 f l1 l2 l3 s) (psum (fun s => eqo [(57, 58), (89, (-1)), (90, (-1))] B s.2.2) (fun s => eqo [(57, 58), (89, (-1)), (90, (-1))] B s.2)) := by
  intro s hs
  revert s hs
  intro M hs
  have h_M : eqo [(57, 58), (89, (-1)), (90, (-1))] B M := hs
  unfold p_M_laysLacks_X24
  exact par_bind (par_iter (fun s hs => fr_M_laysLacks_L68 s hs) _ h_M) fun s hs => fr_M_laysLacks_X68 s hs
theorem fr_M_laysLacks_B49_24 {f : Nat} {l1 : Int} {l2 : Int} {l3 : Int} {l4 : Int} {M : oM} {B : oM} (h_M : eqo [(57, 58), (89, (-1)), (90, (-1))] B M) : par (p_M_laysLacks_B49_24 f l1 l2 l3 l4 M) (psum (fun s => eqo [(57, 58), (89, (-1)), (90, (-1))] B s.2) (fun s => eqo [(57, 58), (89, (-1)), (90, (-1))] B s)) := by
  unfold p_M_laysLacks_B49_24
  refine par_lt (eqo_oU (.head _) h_M) fun M6 h_M6 => ?_
  refine par_ltI fun x7 => ?_
  exact par_some h_M6
theorem fr_M_laysLacks_L24 {f : Nat} {l1 : Int} {l2 : Int} {l3 : Int} {B : oM} : ∀ (s : Int × oM), (fun s => eqo [(57, 58), (89, (-1)), (90, (-1))] B s.2) s → par (p_M_laysLacks_L24 f l1 l2 l3 s) (psum (fun s => eqo [(57, 58), (89, (-1)), (90, (-1))] B s.2) (fun s => eqo [(57, 58), (89, (-1)), (90, (-1))] B s)) := by
  intro s hs
  obtain ⟨l4, M⟩ := s
  have h_M : eqo [(57, 58), (89, (-1)), (90, (-1))] B M := hs
  unfold p_M_laysLacks_L24
  refine par_ite ?_ ?_
  · refine par_ite ?_ ?_
    · refine par_bnd fun i8 => ?_
      refine par_lt (eqo_oUa (.tail _ (.head _)) h_M) fun M9 h_M9 => ?_
      exact fr_M_laysLacks_B49_24 h_M9
    · exact fr_M_laysLacks_B49_24 h_M
  · exact par_some h_M
theorem fr_M_laysLacks_L9 {f : Nat} {B : oM} : ∀ (s : Int × Int × oM), (fun s => eqo [(57, 58), (89, (-1)), (90, (-1))] B s.2.2) s → par (p_M_laysLacks_L9 f s) (psum (fun s => eqo [(57, 58), (89, (-1)), (90, (-1))] B s.2.2) (fun s => eqo [(57, 58), (89, (-1)), (90, (-1))] B s.2)) := by
  intro s hs
  obtain ⟨l1, l2, M⟩ := s
  have h_M : eqo [(57, 58), (89, (-1)), (90, (-1))] B M := hs
  unfold p_M_laysLacks_L9
  refine par_ite ?_ ?_
  · refine par_bind (fr_M_setOffOf (eqo_rfl _ _)) fun q10 g_q10 => ?_
    have h_q10 := eqo_tr subw_nil h_M g_q10
    exact par_bind (par_iter (fun s hs => fr_M_laysLacks_L24 s hs) _ h_q10) fun s hs => fr_M_laysLacks_X24 s hs
  · exact par_some h_M
theorem fr_M_laysLacks {f : Nat} {M : oM} {B : oM} (h_M : eqo [(57, 58), (89, (-1)), (90, (-1))] B M) : par (p_M_laysLacks f M) (fun s => eqo [(57, 58), (89, (-1)), (90, (-1))] B s.2) := by
  unfold p_M_laysLacks
  refine par_lt (eqo_oU (.head _) h_M) fun M11 h_M11 => ?_
  exact par_iter (fun s hs => fr_M_laysLacks_L9 s hs) _ h_M11
theorem fr_M_readsRow_L10 {f : Nat} {l2 : Int} {B : oM} : ∀ (s : Int × Int × Int × oM), (fun s => eqo [(91, (-1))] B s.2.2.2) s → par (p_M_readsRow_L10 f l2 s) (psum (fun s => eqo [(91, (-1))] B s.2.2.2) (fun s => eqo [(91, (-1))] B s.2)) := by
  intro s hs
  obtain ⟨l3, l4, l5, M⟩ := s
  have h_M : eqo [(91, (-1))] B M := hs
  unfold p_M_readsRow_L10
  refine par_ite ?_ ?_
  · exact par_some h_M
  · refine par_nz fun z1 => ?_
    refine par_bnd fun i2 => ?_
    refine par_lt (eqo_oUa (.head _) h_M) fun M3 h_M3 => ?_
    refine par_nz fun z4 => ?_
    refine par_ltI fun x5 => ?_
    refine par_bnd fun i6 => ?_
    refine par_bind (fr_M_has (eqo_rfl _ _)) fun q7 g_q7 => ?_
    have h_q7 := eqo_tr subw_nil h_M3 g_q7
    refine par_ite ?_ ?_
    · refine par_bnd fun i8 => ?_
      refine par_ltI fun x9 => ?_
      refine par_ltI fun x10 => ?_
      exact par_some h_q7
    · exact par_some h_q7
theorem fr_M_readsRow {f : Nat} {l1 : Int} {l2 : Int} {M : oM} {B : oM} (h_M : eqo [(91, (-1))] B M) : par (p_M_readsRow f l1 l2 M) (fun s => eqo [(91, (-1))] B s.2) := by
  unfold p_M_readsRow
  refine par_ltI fun x11 => ?_
  exact par_iter (fun s hs => fr_M_readsRow_L10 s hs) _ h_M
theorem fr_M_even_B178_98 {f : Nat} {l1 : Int} {l2 : Int} {l3 : Int} {l4 : Int} {M : oM} {B : oM} (h_M : eqo [(57, 58), (89, (-1)), (90, (-1)), (91, (-1)), (92, (-1))] B M) : par (p_M_even_B178_98 f l1 l2 l3 l4 M) (psum (fun s => eqo [(57, 58), (89, (-1)), (90, (-1)), (91, (-1)), (92, (-1))] B s.2.2) (fun s => eqo [(57, 58), (89, (-1)), (90, (-1)), (91, (-1)), (92, (-1))] B s.2)) := by
  unfold p_M_even_B178_98
  refine par_ltI fun x1 => ?_
  exact par_some h_M
theorem fr_M_even_X144 {f : Nat} {l1 : Int} {l2 : Int} {l3 : Int} {l4 : Int} {B : oM} : ∀ (s : oM), (fun s => eqo [(57, 58), (89, (-1)), (90, (-1)), (91, (-1)), (92, (-1))] B s) s → par (p_M_even_X144 f l1 l2 l3 l4 s) (psum (fun s => eqo [(57, 58), (89, (-1)), (90, (-1)), (91, (-1)), (92, (-1))] B s.2.2) (fun s => eqo [(57, 58), (89, (-1)), (90, (-1)), (91, (-1)), (92, (-1))] B s.2)) := by
  intro s hs
  revert s hs
  intro M hs
  have h_M : eqo [(57, 58), (89, (-1)), (90, (-1)), (91, (-1)), (92, (-1))] B M := hs
  unfold p_M_even_X144
  exact fr_M_even_B178_98 h_M
theorem fr_M_even_L144 {f : Nat} {l1 : Int} {l2 : Int} {l3 : Int} {l4 : Int} {B : oM} : ∀ (s : Int × oM), (fun s => eqo [(57, 58), (89, (-1)), (90, (-1)), (91, (-1)), (92, (-1))] B s.2) s → par (p_M_even_L144 f l1 l2 l3 l4 s) (psum (fun s => eqo [(57, 58), (89, (-1)), (90, (-1)), (91, (-1)), (92, (-1))] B s.2) (fun s => eqo [(57, 58), (89, (-1)), (90, (-1)), (91, (-1)), (92, (-1))] B s)) := by
  intro s hs
  obtain ⟨l5, M⟩ := s
  have h_M : eqo [(57, 58), (89, (-1)), (90, (-1)), (91, (-1)), (92, (-1))] B M := hs
  unfold p_M_even_L144
  refine par_ite ?_ ?_
  · refine par_bnd fun i2 => ?_
    refine par_bnd fun i3 => ?_
    refine par_bnd fun i4 => ?_
    refine par_lt (eqo_oUa (.tail _ (.tail _ (.tail _ (.tail _ (.head _))))) h_M) fun M5 h_M5 => ?_
    refine par_ltI fun x6 => ?_
    exact par_some h_M5
  · exact par_some h_M
theorem fr_M_even_L98 {f : Nat} {l1 : Int} {l2 : Int} {B : oM} : ∀ (s : Int × Int × oM), (fun s => eqo [(57, 58), (89, (-1)), (90, (-1)), (91, (-1)), (92, (-1))] B s.2.2) s → par (p_M_even_L98 f l1 l2 s) (psum (fun s => eqo [(57, 58), (89, (-1)), (90, (-1)), (91, (-1)), (92, (-1))] B s.2.2) (fun s => eqo [(57, 58), (89, (-1)), (90, (-1)), (91, (-1)), (92, (-1))] B s.2)) := by
  intro s hs
  obtain ⟨l3, l4, M⟩ := s
  have h_M : eqo [(57, 58), (89, (-1)), (90, (-1)), (91, (-1)), (92, (-1))] B M := hs
  unfold p_M_even_L98
  refine par_ite ?_ ?_
  · refine par_bind (fr_M_readsRow (eqo_rfl _ _)) fun q8 g_q8 => ?_
    have h_q8 := eqo_tr (subw_cons (.tail _ (.tail _ (.tail _ (.head _)))) subw_nil) h_M g_q8
    refine par_ite ?_ ?_
    · exact fr_M_even_B178_98 h_q8
    · refine par_bind (fr_M_hoursOfRow (eqo_rfl _ _)) fun q9 g_q9 => ?_
      have h_q9 := eqo_tr subw_nil h_q8 g_q9
      refine par_ite ?_ ?_
      · refine par_bind (fr_M_hoursOfRow (eqo_rfl _ _)) fun q10 g_q10 => ?_
        have h_q10 := eqo_tr subw_nil h_q9 g_q10
        exact par_bind (par_iter (fun s hs => fr_M_even_L144 s hs) _ h_q10) fun s hs => fr_M_even_X144 s hs
      · exact fr_M_even_B178_98 h_q9
  · refine par_ite ?_ ?_
    · exact par_some h_M
    · refine par_bnd fun i7 => ?_
      exact par_some h_M
theorem fr_M_even_X70 {f : Nat} {l1 : Int} {B : oM} : ∀ (s : Int × oM), (fun s => eqo [(57, 58), (89, (-1)), (90, (-1)), (91, (-1)), (92, (-1))] B s.2) s → par (p_M_even_X70 f l1 s) (fun s => eqo [(57, 58), (89, (-1)), (90, (-1)), (91, (-1)), (92, (-1))] B s.2) := by
  intro s hs
  obtain ⟨l2, M⟩ := s
  have h_M : eqo [(57, 58), (89, (-1)), (90, (-1)), (91, (-1)), (92, (-1))] B M := hs
  unfold p_M_even_X70
  exact par_iter (fun s hs => fr_M_even_L98 s hs) _ h_M
theorem fr_M_even_L70 {f : Nat} {l1 : Int} {B : oM} : ∀ (s : Int × Int × oM), (fun s => eqo [(57, 58), (89, (-1)), (90, (-1)), (91, (-1)), (92, (-1))] B s.2.2) s → par (p_M_even_L70 f l1 s) (psum (fun s => eqo [(57, 58), (89, (-1)), (90, (-1)), (91, (-1)), (92, (-1))] B s.2.2) (fun s => eqo [(57, 58), (89, (-1)), (90, (-1)), (91, (-1)), (92, (-1))] B s.2)) := by
  intro s hs
  obtain ⟨l2, l3, M⟩ := s
  have h_M : eqo [(57, 58), (89, (-1)), (90, (-1)), (91, (-1)), (92, (-1))] B M := hs
  unfold p_M_even_L70
  refine par_ite ?_ ?_
  · refine par_ltI fun x11 => ?_
    refine par_ltI fun x12 => ?_
    exact par_some h_M
  · exact par_some h_M
theorem fr_M_even_B66 {f : Nat} {l1 : Int} {M : oM} {B : oM} (h_M : eqo [(57, 58), (89, (-1)), (90, (-1)), (91, (-1)), (92, (-1))] B M) : par (p_M_even_B66 f l1 M) (fun s => eqo [(57, 58), (89, (-1)), (90, (-1)), (91, (-1)), (92, (-1))] B s.2) := by
  unfold p_M_even_B66
  exact par_bind (par_iter (fun s hs => fr_M_even_L70 s hs) _ h_M) fun s hs => fr_M_even_X70 s hs
theorem fr_M_even_B22 {f : Nat} {l1 : Int} {M : oM} {B : oM} (h_M : eqo [(57, 58), (89, (-1)), (90, (-1)), (91, (-1)), (92, (-1))] B M) : par (p_M_even_B22 f l1 M) (fun s => eqo [(57, 58), (89, (-1)), (90, (-1)), (91, (-1)), (92, (-1))] B s.2) := by
  unfold p_M_even_B22
  refine par_bind (fr_M_laysLacks (eqo_rfl _ _)) fun q13 g_q13 => ?_
  have h_q13 := eqo_tr (subw_cons (.head _) (subw_cons (.tail _ (.head _)) (subw_cons (.tail _ (.tail _ (.head _))) subw_nil))) h_M g_q13
  refine par_ite ?_ ?_
  · exact par_some h_q13
  · refine par_ite ?_ ?_
    · exact par_some h_q13
    · refine par_ite ?_ ?_
      · refine par_ite ?_ ?_
        · exact fr_M_even_B66 h_q13
        · exact par_some h_q13
      · exact fr_M_even_B66 h_q13
theorem fr_M_even {f : Nat} {l1 : Int} {M : oM} {B : oM} (h_M : eqo [(57, 58), (89, (-1)), (90, (-1)), (91, (-1)), (92, (-1))] B M) : par (p_M_even f l1 M) (fun s => eqo [(57, 58), (89, (-1)), (90, (-1)), (91, (-1)), (92, (-1))] B s.2) := by
  unfold p_M_even
  refine par_bind (fr_M_in (eqo_rfl _ _)) fun q14 g_q14 => ?_
  have h_q14 := eqo_tr subw_nil h_M g_q14
  refine par_ite ?_ ?_
  · refine par_bind (fr_M_in (eqo_rfl _ _)) fun q15 g_q15 => ?_
    have h_q15 := eqo_tr subw_nil h_q14 g_q15
    refine par_ite ?_ ?_
    · exact par_some h_q15
    · exact fr_M_even_B22 h_q15
  · exact fr_M_even_B22 h_q14
theorem fr_M_bits_L4 {f : Nat} {l0 : Int} {B : oM} : ∀ (s : Int × Int × oM), (fun s => eqo [] B s.2.2) s → par (p_M_bits_L4 f l0 s) (psum (fun s => eqo [] B s.2.2) (fun s => eqo [] B s.2)) := by
  intro s hs
  obtain ⟨l1, l2, M⟩ := s
  have h_M : eqo [] B M := hs
  unfold p_M_bits_L4
  refine par_ite ?_ ?_
  · refine par_ltI fun x1 => ?_
    refine par_ltI fun x2 => ?_
    exact par_some h_M
  · exact par_some h_M
theorem fr_M_bits {f : Nat} {l0 : Int} {M : oM} {B : oM} (h_M : eqo [] B M) : par (p_M_bits f l0 M) (fun s => eqo [] B s.2) := by
  unfold p_M_bits
  exact par_iter (fun s hs => fr_M_bits_L4 s hs) _ h_M
theorem fr_M_isEven_X13 {f : Nat} {l1 : Int} {l2 : Int} {B : oM} : ∀ (s : Int × oM), (fun s => eqo [] B s.2) s → par (p_M_isEven_X13 f l1 l2 s) (psum (fun s => eqo [] B s.2) (fun s => eqo [] B s.2)) := by
  intro s hs
  obtain ⟨l3, M⟩ := s
  have h_M : eqo [] B M := hs
  unfold p_M_isEven_X13
  refine par_ite ?_ ?_
  · refine par_ltI fun x1 => ?_
    exact par_some h_M
  · exact par_some h_M
theorem fr_M_isEven_B70_13 {f : Nat} {l1 : Int} {l2 : Int} {l3 : Int} {l4 : Int} {M : oM} {B : oM} (h_M : eqo [] B M) : par (p_M_isEven_B70_13 f l1 l2 l3 l4 M) (psum (fun s => eqo [] B s.2.2) (fun s => eqo [] B s.2)) := by
  unfold p_M_isEven_B70_13
  refine par_ltI fun x2 => ?_
  exact par_some h_M
theorem fr_M_isEven_B54_13 {f : Nat} {l1 : Int} {l2 : Int} {l3 : Int} {l4 : Int} {l5 : Int} {M : oM} {B : oM} (h_M : eqo [] B M) : par (p_M_isEven_B54_13 f l1 l2 l3 l4 l5 M) (psum (fun s => eqo [] B s.2.2) (fun s => eqo [] B s.2)) := by
  unfold p_M_isEven_B54_13
  refine par_bnd fun i3 => ?_
  refine par_ite ?_ ?_
  · refine par_ltI fun x4 => ?_
    exact fr_M_isEven_B70_13 h_M
  · exact fr_M_isEven_B70_13 h_M
theorem fr_M_isEven_B36_13 {f : Nat} {l1 : Int} {l2 : Int} {l3 : Int} {l4 : Int} {s0 : Int} {M : oM} {B : oM} (h_M : eqo [] B M) : par (p_M_isEven_B36_13 f l1 l2 l3 l4 s0 M) (psum (fun s => eqo [] B s.2.2) (fun s => eqo [] B s.2)) := by
  unfold p_M_isEven_B36_13
  refine par_bnd fun i5 => ?_
  refine par_ite ?_ ?_
  · refine par_ltI fun x6 => ?_
    exact fr_M_isEven_B54_13 h_M
  · exact fr_M_isEven_B54_13 h_M
theorem fr_M_isEven_L13 {f : Nat} {l1 : Int} {l2 : Int} {B : oM} : ∀ (s : Int × Int × oM), (fun s => eqo [] B s.2.2) s → par (p_M_isEven_L13 f l1 l2 s) (psum (fun s => eqo [] B s.2.2) (fun s => eqo [] B s.2)) := by
  intro s hs
  obtain ⟨l3, l4, M⟩ := s
  have h_M : eqo [] B M := hs
  unfold p_M_isEven_L13
  refine par_ite ?_ ?_
  · refine par_bind (fr_M_has (eqo_rfl _ _)) fun q7 g_q7 => ?_
    have h_q7 := eqo_tr subw_nil h_M g_q7
    refine par_ite ?_ ?_
    · exact fr_M_isEven_B36_13 h_q7
    · exact fr_M_isEven_B36_13 h_q7
  · exact par_some h_M
theorem fr_M_isEven_L2 {f : Nat} {l1 : Int} {B : oM} : ∀ (s : Int × oM), (fun s => eqo [] B s.2) s → par (p_M_isEven_L2 f l1 s) (psum (fun s => eqo [] B s.2) (fun s => eqo [] B s.2)) := by
  intro s hs
  obtain ⟨l2, M⟩ := s
  have h_M : eqo [] B M := hs
  unfold p_M_isEven_L2
  refine par_ite ?_ ?_
  · exact par_bind (par_iter (fun s hs => fr_M_isEven_L13 s hs) _ h_M) fun s hs => fr_M_isEven_X13 s hs
  · exact par_some h_M
theorem fr_M_isEven {f : Nat} {l1 : Int} {M : oM} {B : oM} (h_M : eqo [] B M) : par (p_M_isEven f l1 M) (fun s => eqo [] B s.2) := by
  unfold p_M_isEven
  exact par_iter (fun s hs => fr_M_isEven_L2 s hs) _ h_M
theorem fr_M_turned_B85_28 {f : Nat} {l2 : Int} {M : oM} {B : oM} (h_M : eqo [(57, 50), (84, (-1)), (85, (-1))] B M) : par (p_M_turned_B85_28 f l2 M) (psum (fun s => eqo [(57, 50), (84, (-1)), (85, (-1))] B s.2.2) (fun s => eqo [(57, 50), (84, (-1)), (85, (-1))] B s.2)) := by
  unfold p_M_turned_B85_28
  exact par_some h_M
theorem fr_M_turned_B68_28 {f : Nat} {l1 : Int} {l2 : Int} {l3 : Int} {M : oM} {B : oM} (h_M : eqo [(57, 50), (84, (-1)), (85, (-1))] B M) : par (p_M_turned_B68_28 f l1 l2 l3 M) (psum (fun s => eqo [(57, 50), (84, (-1)), (85, (-1))] B s.2.2) (fun s => eqo [(57, 50), (84, (-1)), (85, (-1))] B s.2)) := by
  unfold p_M_turned_B68_28
  refine par_ltI fun x1 => ?_
  exact par_some h_M
theorem fr_M_turned_B55_28 {f : Nat} {l1 : Int} {l2 : Int} {l3 : Int} {M : oM} {B : oM} (h_M : eqo [(57, 50), (84, (-1)), (85, (-1))] B M) : par (p_M_turned_B55_28 f l1 l2 l3 M) (psum (fun s => eqo [(57, 50), (84, (-1)), (85, (-1))] B s.2.2) (fun s => eqo [(57, 50), (84, (-1)), (85, (-1))] B s.2)) := by
  unfold p_M_turned_B55_28
  refine par_bind (fr_M_isEven (eqo_rfl _ _)) fun q2 g_q2 => ?_
  have h_q2 := eqo_tr subw_nil h_M g_q2
  refine par_ite ?_ ?_
  · exact fr_M_turned_B68_28 h_q2
  · exact fr_M_turned_B68_28 h_q2
theorem fr_M_turned_L28 {f : Nat} {l1 : Int} {B : oM} : ∀ (s : Int × Int × oM), (fun s => eqo [(57, 50), (84, (-1)), (85, (-1))] B s.2.2) s → par (p_M_turned_L28 f l1 s) (psum (fun s => eqo [(57, 50), (84, (-1)), (85, (-1))] B s.2.2) (fun s => eqo [(57, 50), (84, (-1)), (85, (-1))] B s.2)) := by
  intro s hs
  obtain ⟨l2, l3, M⟩ := s
  have h_M : eqo [(57, 50), (84, (-1)), (85, (-1))] B M := hs
  unfold p_M_turned_L28
  refine par_ite ?_ ?_
  · refine par_ite ?_ ?_
    · exact fr_M_turned_B55_28 h_M
    · refine par_bind (fr_M_bits (eqo_rfl _ _)) fun q4 g_q4 => ?_
      have h_q4 := eqo_tr subw_nil h_M g_q4
      refine par_bind (fr_M_bits (eqo_rfl _ _)) fun q5 g_q5 => ?_
      have h_q5 := eqo_tr subw_nil h_q4 g_q5
      refine par_ite ?_ ?_
      · exact fr_M_turned_B55_28 h_q5
      · exact fr_M_turned_B68_28 h_q5
  · refine par_ite ?_ ?_
    · exact fr_M_turned_B85_28 h_M
    · refine par_ite ?_ ?_
      · exact fr_M_turned_B85_28 h_M
      · refine par_bind (fr_M_bits (eqo_rfl _ _)) fun q3 g_q3 => ?_
        have h_q3 := eqo_tr subw_nil h_M g_q3
        exact par_some h_q3
theorem fr_M_turned {f : Nat} {l1 : Int} {M : oM} {B : oM} (h_M : eqo [(57, 50), (84, (-1)), (85, (-1))] B M) : par (p_M_turned f l1 M) (fun s => eqo [(57, 50), (84, (-1)), (85, (-1))] B s.2) := by
  unfold p_M_turned
  refine par_bind (fr_M_in (eqo_rfl _ _)) fun q6 g_q6 => ?_
  have h_q6 := eqo_tr subw_nil h_M g_q6
  refine par_ite ?_ ?_
  · exact par_some h_q6
  · refine par_bind (fr_M_laysCoins (eqo_rfl _ _)) fun q7 g_q7 => ?_
    have h_q7 := eqo_tr (subw_cons (.head _) (subw_cons (.tail _ (.head _)) (subw_cons (.tail _ (.tail _ (.head _))) subw_nil))) h_q6 g_q7
    refine par_ite ?_ ?_
    · exact par_some h_q7
    · exact par_iter (fun s hs => fr_M_turned_L28 s hs) _ h_q7
theorem fr_M_setOff {f : Nat} {l1 : Int} {M : oM} {B : oM} (h_M : eqo [] B M) : par (p_M_setOff f l1 M) (fun s => eqo [] B s.2) := by
  unfold p_M_setOff
  refine par_bind (fr_M_isPerson (eqo_rfl _ _)) fun q1 g_q1 => ?_
  have h_q1 := eqo_tr subw_nil h_M g_q1
  refine par_ite ?_ ?_
  · exact par_some h_q1
  · refine par_bind (fr_M_setOffOf (eqo_rfl _ _)) fun q2 g_q2 => ?_
    have h_q2 := eqo_tr subw_nil h_q1 g_q2
    exact par_some h_q2
theorem fr_M_laysGroups_B120_2 {f : Nat} {l1 : Int} {M : oM} {B : oM} (h_M : eqo [(93, (-1)), (94, (-1))] B M) : par (p_M_laysGroups_B120_2 f l1 M) (psum (fun s => eqo [(93, (-1)), (94, (-1))] B s.2) (fun s => eqo [(93, (-1)), (94, (-1))] B s.2)) := by
  unfold p_M_laysGroups_B120_2
  refine par_ltI fun x1 => ?_
  exact par_some h_M
theorem fr_M_laysGroups_X25 {f : Nat} {l1 : Int} {B : oM} : ∀ (s : oM), (fun s => eqo [(93, (-1)), (94, (-1))] B s) s → par (p_M_laysGroups_X25 f l1 s) (psum (fun s => eqo [(93, (-1)), (94, (-1))] B s.2) (fun s => eqo [(93, (-1)), (94, (-1))] B s.2)) := by
  intro s hs
  revert s hs
  intro M hs
  have h_M : eqo [(93, (-1)), (94, (-1))] B M := hs
  unfold p_M_laysGroups_X25
  refine par_ite ?_ ?_
  · exact fr_M_laysGroups_B120_2 h_M
  · refine par_bnd fun i2 => ?_
    refine par_ite ?_ ?_
    · refine par_bnd fun i3 => ?_
      refine par_bnd fun i4 => ?_
      refine par_lt (eqo_oUa (.tail _ (.head _)) h_M) fun M5 h_M5 => ?_
      exact fr_M_laysGroups_B120_2 h_M5
    · exact fr_M_laysGroups_B120_2 h_M
theorem fr_M_laysGroups_B87_25 {f : Nat} {l1 : Int} {l2 : Int} {M : oM} {B : oM} (h_M : eqo [(93, (-1)), (94, (-1))] B M) : par (p_M_laysGroups_B87_25 f l1 l2 M) (psum (fun s => eqo [(93, (-1)), (94, (-1))] B s.2) (fun s => eqo [(93, (-1)), (94, (-1))] B s)) := by
  unfold p_M_laysGroups_B87_25
  refine par_ltI fun x6 => ?_
  exact par_some h_M
theorem fr_M_laysGroups_L25 {f : Nat} {l1 : Int} {B : oM} : ∀ (s : Int × oM), (fun s => eqo [(93, (-1)), (94, (-1))] B s.2) s → par (p_M_laysGroups_L25 f l1 s) (psum (fun s => eqo [(93, (-1)), (94, (-1))] B s.2) (fun s => eqo [(93, (-1)), (94, (-1))] B s)) := by
  intro s hs
  obtain ⟨l2, M⟩ := s
  have h_M : eqo [(93, (-1)), (94, (-1))] B M := hs
  unfold p_M_laysGroups_L25
  refine par_ite ?_ ?_
  · refine par_bind (fr_M_has (eqo_rfl _ _)) fun q7 g_q7 => ?_
    have h_q7 := eqo_tr subw_nil h_M g_q7
    refine par_ite ?_ ?_
    · exact fr_M_laysGroups_B87_25 h_q7
    · refine par_bnd fun i8 => ?_
      refine par_bind (fr_M_setOffOf (eqo_rfl _ _)) fun q9 g_q9 => ?_
      have h_q9 := eqo_tr subw_nil h_q7 g_q9
      refine par_bnd fun i10 => ?_
      refine par_lt (eqo_oUa (.head _) h_q9) fun M11 h_M11 => ?_
      refine par_bnd fun i12 => ?_
      refine par_bnd fun i13 => ?_
      refine par_bind (fr_M_max (eqo_rfl _ _)) fun q14 g_q14 => ?_
      have h_q14 := eqo_tr subw_nil h_M11 g_q14
      refine par_bnd fun i15 => ?_
      refine par_lt (eqo_oUa (.tail _ (.head _)) h_q14) fun M16 h_M16 => ?_
      exact fr_M_laysGroups_B87_25 h_M16
  · exact par_some h_M
theorem fr_M_laysGroups_L2 {f : Nat} {B : oM} : ∀ (s : Int × oM), (fun s => eqo [(93, (-1)), (94, (-1))] B s.2) s → par (p_M_laysGroups_L2 f s) (psum (fun s => eqo [(93, (-1)), (94, (-1))] B s.2) (fun s => eqo [(93, (-1)), (94, (-1))] B s.2)) := by
  intro s hs
  obtain ⟨l1, M⟩ := s
  have h_M : eqo [(93, (-1)), (94, (-1))] B M := hs
  unfold p_M_laysGroups_L2
  refine par_ite ?_ ?_
  · refine par_bnd fun i17 => ?_
    refine par_lt (eqo_oUa (.head _) h_M) fun M18 h_M18 => ?_
    refine par_bnd fun i19 => ?_
    refine par_lt (eqo_oUa (.tail _ (.head _)) h_M18) fun M20 h_M20 => ?_
    exact par_bind (par_iter (fun s hs => fr_M_laysGroups_L25 s hs) _ h_M20) fun s hs => fr_M_laysGroups_X25 s hs
  · exact par_some h_M
theorem fr_M_laysGroups {f : Nat} {M : oM} {B : oM} (h_M : eqo [(93, (-1)), (94, (-1))] B M) : par (p_M_laysGroups f M) (fun s => eqo [(93, (-1)), (94, (-1))] B s.2) := by
  unfold p_M_laysGroups
  exact par_iter (fun s hs => fr_M_laysGroups_L2 s hs) _ h_M
theorem fr_M_fewest_B24_4 {f : Nat} {l1 : Int} {l2 : Int} {M : oM} {B : oM} (h_M : eqo [(93, (-1)), (94, (-1))] B M) : par (p_M_fewest_B24_4 f l1 l2 M) (psum (fun s => eqo [(93, (-1)), (94, (-1))] B s.2.2) (fun s => eqo [(93, (-1)), (94, (-1))] B s.2)) := by
  unfold p_M_fewest_B24_4
  refine par_ltI fun x1 => ?_
  exact par_some h_M
theorem fr_M_fewest_L4 {f : Nat} {B : oM} : ∀ (s : Int × Int × oM), (fun s => eqo [(93, (-1)), (94, (-1))] B s.2.2) s → par (p_M_fewest_L4 f s) (psum (fun s => eqo [(93, (-1)), (94, (-1))] B s.2.2) (fun s => eqo [(93, (-1)), (94, (-1))] B s.2)) := by
  intro s hs
  obtain ⟨l1, l2, M⟩ := s
  have h_M : eqo [(93, (-1)), (94, (-1))] B M := hs
  unfold p_M_fewest_L4
  refine par_ite ?_ ?_
  · refine par_bind (fr_M_setOffOf (eqo_rfl _ _)) fun q5 g_q5 => ?_
    have h_q5 := eqo_tr subw_nil h_M g_q5
    refine par_ite ?_ ?_
    · exact fr_M_fewest_B24_4 h_q5
    · refine par_ltI fun x6 => ?_
      exact fr_M_fewest_B24_4 h_q5
  · refine par_bind (fr_M_laysGroups (eqo_rfl _ _)) fun q2 g_q2 => ?_
    have h_q2 := eqo_tr (subw_cons (.head _) (subw_cons (.tail _ (.head _)) subw_nil)) h_M g_q2
    refine par_bind (fr_M_bits (eqo_rfl _ _)) fun q3 g_q3 => ?_
    have h_q3 := eqo_tr subw_nil h_q2 g_q3
    refine par_bnd fun i4 => ?_
    exact par_some h_q3
theorem fr_M_fewest {f : Nat} {M : oM} {B : oM} (h_M : eqo [(93, (-1)), (94, (-1))] B M) : par (p_M_fewest f M) (fun s => eqo [(93, (-1)), (94, (-1))] B s.2) := by
  unfold p_M_fewest
  exact par_iter (fun s hs => fr_M_fewest_L4 s hs) _ h_M
theorem fr_M_reachOf_L2 {f : Nat} {l1 : Int} {B : oM} : ∀ (s : Int × oM), (fun s => eqo [(82, (-1))] B s.2) s → par (p_M_reachOf_L2 f l1 s) (psum (fun s => eqo [(82, (-1))] B s.2) (fun s => eqo [(82, (-1))] B s.2)) := by
  intro s hs
  obtain ⟨l2, M⟩ := s
  have h_M : eqo [(82, (-1))] B M := hs
  unfold p_M_reachOf_L2
  refine par_ite ?_ ?_
  · refine par_bnd fun i2 => ?_
    refine par_bnd fun i3 => ?_
    refine par_lt (eqo_oUa (.head _) h_M) fun M4 h_M4 => ?_
    refine par_ltI fun x5 => ?_
    exact par_some h_M4
  · refine par_bind (fr_M_reachLeft (eqo_rfl _ _)) fun q1 g_q1 => ?_
    have h_q1 := eqo_tr subw_nil h_M g_q1
    exact par_some h_q1
theorem fr_M_reachOf {f : Nat} {l1 : Int} {M : oM} {B : oM} (h_M : eqo [(82, (-1))] B M) : par (p_M_reachOf f l1 M) (fun s => eqo [(82, (-1))] B s.2) := by
  unfold p_M_reachOf
  exact par_iter (fun s hs => fr_M_reachOf_L2 s hs) _ h_M
theorem fr_M_ringOf_B56_11 {f : Nat} {l1 : Int} {l2 : Int} {l3 : Int} {l4 : Int} {M : oM} {B : oM} (h_M : eqo [(82, (-1))] B M) : par (p_M_ringOf_B56_11 f l1 l2 l3 l4 M) (psum (fun s => eqo [(82, (-1))] B s.2.2) (fun s => eqo [(82, (-1))] B s.2)) := by
  unfold p_M_ringOf_B56_11
  refine par_ltI fun x1 => ?_
  exact par_some h_M
theorem fr_M_ringOf_L11 {f : Nat} {l1 : Int} {l3 : Int} {B : oM} : ∀ (s : Int × Int × oM), (fun s => eqo [(82, (-1))] B s.2.2) s → par (p_M_ringOf_L11 f l1 l3 s) (psum (fun s => eqo [(82, (-1))] B s.2.2) (fun s => eqo [(82, (-1))] B s.2)) := by
  intro s hs
  obtain ⟨l2, l4, M⟩ := s
  have h_M : eqo [(82, (-1))] B M := hs
  unfold p_M_ringOf_L11
  refine par_ite ?_ ?_
  · refine par_bind (fr_M_isPerson (eqo_rfl _ _)) fun q2 g_q2 => ?_
    have h_q2 := eqo_tr subw_nil h_M g_q2
    refine par_ite ?_ ?_
    · exact fr_M_ringOf_B56_11 h_q2
    · refine par_bind (fr_M_has (eqo_rfl _ _)) fun q3 g_q3 => ?_
      have h_q3 := eqo_tr subw_nil h_q2 g_q3
      refine par_ite ?_ ?_
      · exact fr_M_ringOf_B56_11 h_q3
      · refine par_bind (fr_M_reachOf (eqo_rfl _ _)) fun q4 g_q4 => ?_
        have h_q4 := eqo_tr (subw_cons (.head _) subw_nil) h_q3 g_q4
        refine par_bind (fr_M_has (eqo_rfl _ _)) fun q5 g_q5 => ?_
        have h_q5 := eqo_tr subw_nil h_q4 g_q5
        refine par_ite ?_ ?_
        · exact fr_M_ringOf_B56_11 h_q5
        · refine par_ltI fun x6 => ?_
          exact fr_M_ringOf_B56_11 h_q5
  · exact par_some h_M
theorem fr_M_ringOf {f : Nat} {l1 : Int} {M : oM} {B : oM} (h_M : eqo [(82, (-1))] B M) : par (p_M_ringOf f l1 M) (fun s => eqo [(82, (-1))] B s.2) := by
  unfold p_M_ringOf
  refine par_bind (fr_M_reachOf (eqo_rfl _ _)) fun q7 g_q7 => ?_
  have h_q7 := eqo_tr (subw_cons (.head _) subw_nil) h_M g_q7
  exact par_iter (fun s hs => fr_M_ringOf_L11 s hs) _ h_q7
theorem fr_M_rings_B68_34 {f : Nat} {l2 : Int} {l3 : Int} {l4 : Int} {M : oM} {B : oM} (h_M : eqo [(82, (-1))] B M) : par (p_M_rings_B68_34 f l2 l3 l4 M) (psum (fun s => eqo [(82, (-1))] B s.2.2.2) (fun s => eqo [(82, (-1))] B s.2)) := by
  unfold p_M_rings_B68_34
  refine par_ltI fun x1 => ?_
  exact par_some h_M
theorem fr_M_rings_L34 {f : Nat} {B : oM} : ∀ (s : Int × Int × Int × oM), (fun s => eqo [(82, (-1))] B s.2.2.2) s → par (p_M_rings_L34 f s) (psum (fun s => eqo [(82, (-1))] B s.2.2.2) (fun s => eqo [(82, (-1))] B s.2)) := by
  intro s hs
  obtain ⟨l2, l3, l4, M⟩ := s
  have h_M : eqo [(82, (-1))] B M := hs
  unfold p_M_rings_L34
  refine par_ite ?_ ?_
  · refine par_bind (fr_M_has (eqo_rfl _ _)) fun q2 g_q2 => ?_
    have h_q2 := eqo_tr subw_nil h_M g_q2
    refine par_ite ?_ ?_
    · exact fr_M_rings_B68_34 h_q2
    · refine par_bind (fr_M_ringOf (eqo_rfl _ _)) fun q3 g_q3 => ?_
      have h_q3 := eqo_tr (subw_cons (.head _) subw_nil) h_q2 g_q3
      refine par_ltI fun x4 => ?_
      refine par_ltI fun x5 => ?_
      exact fr_M_rings_B68_34 h_q3
  · exact par_some h_M
theorem fr_M_rings {f : Nat} {l1 : Int} {M : oM} {B : oM} (h_M : eqo [(82, (-1))] B M) : par (p_M_rings f l1 M) (fun s => eqo [(82, (-1))] B s.2) := by
  unfold p_M_rings
  refine par_ite ?_ ?_
  · refine par_ltI fun x6 => ?_
    exact par_iter (fun s hs => fr_M_rings_L34 s hs) _ h_M
  · refine par_bind (fr_M_isPerson (eqo_rfl _ _)) fun q7 g_q7 => ?_
    have h_q7 := eqo_tr subw_nil h_M g_q7
    refine par_ite ?_ ?_
    · exact par_some h_q7
    · refine par_bind (fr_M_ringOf (eqo_rfl _ _)) fun q8 g_q8 => ?_
      have h_q8 := eqo_tr (subw_cons (.head _) subw_nil) h_q7 g_q8
      exact par_some h_q8
theorem fr_M_off {f : Nat} {M : oM} {B : oM} (h_M : eqo [(82, (-1))] B M) : par (p_M_off f M) (fun s => eqo [(82, (-1))] B s.2) := by
  unfold p_M_off
  refine par_bnd fun i1 => ?_
  refine par_ite ?_ ?_
  · exact par_some h_M
  · refine par_bnd fun i2 => ?_
    refine par_bind (fr_M_reachOf (eqo_rfl _ _)) fun q3 g_q3 => ?_
    have h_q3 := eqo_tr (subw_cons (.head _) subw_nil) h_M g_q3
    exact par_some h_q3
theorem fr_M_when_B103_56 {f : Nat} {l3 : Int} {M : oM} {B : oM} (h_M : eqo [(57, 32), (57, 33), (57, 34), (57, 35), (58, (-1)), (59, (-1)), (75, (-1)), (76, (-1))] B M) : par (p_M_when_B103_56 f l3 M) (psum (fun s => eqo [(57, 32), (57, 33), (57, 34), (57, 35), (58, (-1)), (59, (-1)), (75, (-1)), (76, (-1))] B s.2.2) (fun s => eqo [(57, 32), (57, 33), (57, 34), (57, 35), (58, (-1)), (59, (-1)), (75, (-1)), (76, (-1))] B s.2)) := by
  unfold p_M_when_B103_56
  refine par_bind (fr_M_copies (eqo_rfl _ _)) fun q1 g_q1 => ?_
  have h_q1 := eqo_tr (subw_cons (.tail _ (.tail _ (.tail _ (.tail _ (.head _))))) subw_nil) h_M g_q1
  exact par_some h_q1
theorem fr_M_when_B97_56 {f : Nat} {l1 : Int} {l2 : Int} {l3 : Int} {l4 : Int} {M : oM} {B : oM} (h_M : eqo [(57, 32), (57, 33), (57, 34), (57, 35), (58, (-1)), (59, (-1)), (75, (-1)), (76, (-1))] B M) : par (p_M_when_B97_56 f l1 l2 l3 l4 M) (psum (fun s => eqo [(57, 32), (57, 33), (57, 34), (57, 35), (58, (-1)), (59, (-1)), (75, (-1)), (76, (-1))] B s.2.2) (fun s => eqo [(57, 32), (57, 33), (57, 34), (57, 35), (58, (-1)), (59, (-1)), (75, (-1)), (76, (-1))] B s.2)) := by
  unfold p_M_when_B97_56
  refine par_ltI fun x2 => ?_
  exact par_some h_M
theorem fr_M_when_L56 {f : Nat} {l1 : Int} {l2 : Int} {B : oM} : ∀ (s : Int × Int × oM), (fun s => eqo [(57, 32), (57, 33), (57, 34), (57, 35), (58, (-1)), (59, (-1)), (75, (-1)), (76, (-1))] B s.2.2) s → par (p_M_when_L56 f l1 l2 s) (psum (fun s => eqo [(57, 32), (57, 33), (57, 34), (57, 35), (58, (-1)), (59, (-1)), (75, (-1)), (76, (-1))] B s.2.2) (fun s => eqo [(57, 32), (57, 33), (57, 34), (57, 35), (58, (-1)), (59, (-1)), (75, (-1)), (76, (-1))] B s.2)) := by
  intro s hs
  obtain ⟨l3, l4, M⟩ := s
  have h_M : eqo [(57, 32), (57, 33), (57, 34), (57, 35), (58, (-1)), (59, (-1)), (75, (-1)), (76, (-1))] B M := hs
  unfold p_M_when_L56
  refine par_ite ?_ ?_
  · exact fr_M_when_B103_56 h_M
  · refine par_bnd fun i3 => ?_
    refine par_ite ?_ ?_
    · refine par_ite ?_ ?_
      · refine par_bind (fr_M_hourGoes (eqo_rfl _ _)) fun q4 g_q4 => ?_
        have h_q4 := eqo_tr (subw_cons (.head _) (subw_cons (.tail _ (.head _)) (subw_cons (.tail _ (.tail _ (.head _))) (subw_cons (.tail _ (.tail _ (.tail _ (.head _)))) (subw_cons (.tail _ (.tail _ (.tail _ (.tail _ (.head _))))) (subw_cons (.tail _ (.tail _ (.tail _ (.tail _ (.tail _ (.tail _ (.head _))))))) (subw_cons (.tail _ (.tail _ (.tail _ (.tail _ (.tail _ (.tail _ (.tail _ (.head _)))))))) subw_nil))))))) h_M g_q4
        refine par_ite ?_ ?_
        · exact fr_M_when_B97_56 h_q4
        · exact fr_M_when_B97_56 h_q4
      · exact fr_M_when_B103_56 h_M
    · exact fr_M_when_B103_56 h_M
theorem fr_M_when {f : Nat} {l1 : Int} {l2 : Int} {M : oM} {B : oM} (h_M : eqo [(57, 32), (57, 33), (57, 34), (57, 35), (58, (-1)), (59, (-1)), (75, (-1)), (76, (-1))] B M) : par (p_M_when f l1 l2 M) (fun s => eqo [(57, 32), (57, 33), (57, 34), (57, 35), (58, (-1)), (59, (-1)), (75, (-1)), (76, (-1))] B s.2) := by
  unfold p_M_when
  refine par_bind (fr_M_isPerson (eqo_rfl _ _)) fun q5 g_q5 => ?_
  have h_q5 := eqo_tr subw_nil h_M g_q5
  refine par_ite ?_ ?_
  · exact par_some h_q5
  · refine par_bind (fr_M_in (eqo_rfl _ _)) fun q6 g_q6 => ?_
    have h_q6 := eqo_tr subw_nil h_q5 g_q6
    refine par_ite ?_ ?_
    · exact par_some h_q6
    · refine par_bnd fun i7 => ?_
      refine par_ite ?_ ?_
      · exact par_some h_q6
      · refine par_bind (fr_M_copies (eqo_rfl _ _)) fun q8 g_q8 => ?_
        have h_q8 := eqo_tr (subw_cons (.tail _ (.tail _ (.tail _ (.tail _ (.tail _ (.head _)))))) subw_nil) h_q6 g_q8
        refine par_bind (fr_M_begins (eqo_rfl _ _)) fun q9 g_q9 => ?_
        have h_q9 := eqo_tr (subw_cons (.head _) (subw_cons (.tail _ (.head _)) (subw_cons (.tail _ (.tail _ (.head _))) subw_nil))) h_q8 g_q9
        exact par_iter (fun s hs => fr_M_when_L56 s hs) _ h_q9
theorem fr_M_wedding_B148_47 {f : Nat} {l4 : Int} {M : oM} {B : oM} (h_M : eqo [(57, 32), (57, 33), (57, 34), (57, 35), (58, (-1)), (59, (-1)), (75, (-1)), (76, (-1))] B M) : par (p_M_wedding_B148_47 f l4 M) (psum (fun s => eqo [(57, 32), (57, 33), (57, 34), (57, 35), (58, (-1)), (59, (-1)), (75, (-1)), (76, (-1))] B s.2.2.2) (fun s => eqo [(57, 32), (57, 33), (57, 34), (57, 35), (58, (-1)), (59, (-1)), (75, (-1)), (76, (-1))] B s.2)) := by
  unfold p_M_wedding_B148_47
  refine par_bind (fr_M_copies (eqo_rfl _ _)) fun q1 g_q1 => ?_
  have h_q1 := eqo_tr (subw_cons (.tail _ (.tail _ (.tail _ (.tail _ (.head _))))) subw_nil) h_M g_q1
  exact par_some h_q1
theorem fr_M_wedding_B142_47 {f : Nat} {l1 : Int} {l2 : Int} {l3 : Int} {l4 : Int} {l5 : Int} {l6 : Int} {M : oM} {B : oM} (h_M : eqo [(57, 32), (57, 33), (57, 34), (57, 35), (58, (-1)), (59, (-1)), (75, (-1)), (76, (-1))] B M) : par (p_M_wedding_B142_47 f l1 l2 l3 l4 l5 l6 M) (psum (fun s => eqo [(57, 32), (57, 33), (57, 34), (57, 35), (58, (-1)), (59, (-1)), (75, (-1)), (76, (-1))] B s.2.2.2) (fun s => eqo [(57, 32), (57, 33), (57, 34), (57, 35), (58, (-1)), (59, (-1)), (75, (-1)), (76, (-1))] B s.2)) := by
  unfold p_M_wedding_B142_47
  refine par_ltI fun x2 => ?_
  exact par_some h_M
theorem fr_M_wedding_B120_47 {f : Nat} {l1 : Int} {l2 : Int} {l3 : Int} {l4 : Int} {l5 : Int} {l6 : Int} {l7 : Int} {M : oM} {B : oM} (h_M : eqo [(57, 32), (57, 33), (57, 34), (57, 35), (58, (-1)), (59, (-1)), (75, (-1)), (76, (-1))] B M) : par (p_M_wedding_B120_47 f l1 l2 l3 l4 l5 l6 l7 M) (psum (fun s => eqo [(57, 32), (57, 33), (57, 34), (57, 35), (58, (-1)), (59, (-1)), (75, (-1)), (76, (-1))] B s.2.2.2) (fun s => eqo [(57, 32), (57, 33), (57, 34), (57, 35), (58, (-1)), (59, (-1)), (75, (-1)), (76, (-1))] B s.2)) := by
  unfold p_M_wedding_B120_47
  refine par_bind (fr_M_has (eqo_rfl _ _)) fun q3 g_q3 => ?_
  have h_q3 := eqo_tr subw_nil h_M g_q3
  refine par_ite ?_ ?_
  · exact fr_M_wedding_B142_47 h_q3
  · refine par_bind (fr_M_has (eqo_rfl _ _)) fun q4 g_q4 => ?_
    have h_q4 := eqo_tr subw_nil h_q3 g_q4
    refine par_ite ?_ ?_
    · exact fr_M_wedding_B142_47 h_q4
    · exact fr_M_wedding_B142_47 h_q4
theorem fr_M_wedding_B98_47 {f : Nat} {l1 : Int} {l2 : Int} {l3 : Int} {l4 : Int} {l5 : Int} {l6 : Int} {l7 : Int} {M : oM} {B : oM} (h_M : eqo [(57, 32), (57, 33), (57, 34), (57, 35), (58, (-1)), (59, (-1)), (75, (-1)), (76, (-1))] B M) : par (p_M_wedding_B98_47 f l1 l2 l3 l4 l5 l6 l7 M) (psum (fun s => eqo [(57, 32), (57, 33), (57, 34), (57, 35), (58, (-1)), (59, (-1)), (75, (-1)), (76, (-1))] B s.2.2.2) (fun s => eqo [(57, 32), (57, 33), (57, 34), (57, 35), (58, (-1)), (59, (-1)), (75, (-1)), (76, (-1))] B s.2)) := by
  unfold p_M_wedding_B98_47
  refine par_bind (fr_M_hourGoes (eqo_rfl _ _)) fun q5 g_q5 => ?_
  have h_q5 := eqo_tr (subw_cons (.head _) (subw_cons (.tail _ (.head _)) (subw_cons (.tail _ (.tail _ (.head _))) (subw_cons (.tail _ (.tail _ (.tail _ (.head _)))) (subw_cons (.tail _ (.tail _ (.tail _ (.tail _ (.head _))))) (subw_cons (.tail _ (.tail _ (.tail _ (.tail _ (.tail _ (.tail _ (.head _))))))) (subw_cons (.tail _ (.tail _ (.tail _ (.tail _ (.tail _ (.tail _ (.tail _ (.head _)))))))) subw_nil))))))) h_M g_q5
  refine par_ite ?_ ?_
  · exact fr_M_wedding_B120_47 h_q5
  · refine par_ltI fun x6 => ?_
    exact fr_M_wedding_B120_47 h_q5
theorem fr_M_wedding_L47 {f : Nat} {l1 : Int} {l2 : Int} {l3 : Int} {B : oM} : ∀ (s : Int × Int × Int × oM), (fun s => eqo [(57, 32), (57, 33), (57, 34), (57, 35), (58, (-1)), (59, (-1)), (75, (-1)), (76, (-1))] B s.2.2.2) s → par (p_M_wedding_L47 f l1 l2 l3 s) (psum (fun s => eqo [(57, 32), (57, 33), (57, 34), (57, 35), (58, (-1)), (59, (-1)), (75, (-1)), (76, (-1))] B s.2.2.2) (fun s => eqo [(57, 32), (57, 33), (57, 34), (57, 35), (58, (-1)), (59, (-1)), (75, (-1)), (76, (-1))] B s.2)) := by
  intro s hs
  obtain ⟨l4, l5, l6, M⟩ := s
  have h_M : eqo [(57, 32), (57, 33), (57, 34), (57, 35), (58, (-1)), (59, (-1)), (75, (-1)), (76, (-1))] B M := hs
  unfold p_M_wedding_L47
  refine par_ite ?_ ?_
  · refine par_bnd fun i7 => ?_
    refine par_ite ?_ ?_
    · refine par_ite ?_ ?_
      · refine par_bnd fun i8 => ?_
        refine par_ltI fun x9 => ?_
        refine par_bnd fun i10 => ?_
        refine par_ite ?_ ?_
        · exact fr_M_wedding_B98_47 h_M
        · exact fr_M_wedding_B98_47 h_M
      · exact fr_M_wedding_B148_47 h_M
    · exact fr_M_wedding_B148_47 h_M
  · exact fr_M_wedding_B148_47 h_M
theorem fr_M_wedding {f : Nat} {l1 : Int} {l2 : Int} {l3 : Int} {M : oM} {B : oM} (h_M : eqo [(57, 32), (57, 33), (57, 34), (57, 35), (58, (-1)), (59, (-1)), (75, (-1)), (76, (-1))] B M) : par (p_M_wedding f l1 l2 l3 M) (fun s => eqo [(57, 32), (57, 33), (57, 34), (57, 35), (58, (-1)), (59, (-1)), (75, (-1)), (76, (-1))] B s.2) := by
  unfold p_M_wedding
  refine par_bind (fr_M_areTwo (eqo_rfl _ _)) fun q11 g_q11 => ?_
  have h_q11 := eqo_tr subw_nil h_M g_q11
  refine par_ite ?_ ?_
  · exact par_some h_q11
  · refine par_bind (fr_M_in (eqo_rfl _ _)) fun q12 g_q12 => ?_
    have h_q12 := eqo_tr subw_nil h_q11 g_q12
    refine par_ite ?_ ?_
    · exact par_some h_q12
    · refine par_bind (fr_M_copies (eqo_rfl _ _)) fun q13 g_q13 => ?_
      have h_q13 := eqo_tr (subw_cons (.tail _ (.tail _ (.tail _ (.tail _ (.tail _ (.head _)))))) subw_nil) h_q12 g_q13
      refine par_bind (fr_M_begins (eqo_rfl _ _)) fun q14 g_q14 => ?_
      have h_q14 := eqo_tr (subw_cons (.head _) (subw_cons (.tail _ (.head _)) (subw_cons (.tail _ (.tail _ (.head _))) subw_nil))) h_q13 g_q14
      exact par_iter (fun s hs => fr_M_wedding_L47 s hs) _ h_q14
theorem fr_M_longest_B49_7 {f : Nat} {l1 : Int} {l2 : Int} {l3 : Int} {M : oM} {B : oM} (h_M : eqo [] B M) : par (p_M_longest_B49_7 f l1 l2 l3 M) (psum (fun s => eqo [] B s.2.2.2) (fun s => eqo [] B s.2)) := by
  unfold p_M_longest_B49_7
  refine par_ltI fun x1 => ?_
  exact par_some h_M
theorem fr_M_longest_L7 {f : Nat} {B : oM} : ∀ (s : Int × Int × Int × oM), (fun s => eqo [] B s.2.2.2) s → par (p_M_longest_L7 f s) (psum (fun s => eqo [] B s.2.2.2) (fun s => eqo [] B s.2)) := by
  intro s hs
  obtain ⟨l1, l2, l3, M⟩ := s
  have h_M : eqo [] B M := hs
  unfold p_M_longest_L7
  refine par_ite ?_ ?_
  · refine par_bind (fr_M_isPerson (eqo_rfl _ _)) fun q2 g_q2 => ?_
    have h_q2 := eqo_tr subw_nil h_M g_q2
    refine par_ite ?_ ?_
    · exact fr_M_longest_B49_7 h_q2
    · refine par_bnd fun i3 => ?_
      refine par_ite ?_ ?_
      · refine par_bnd fun i4 => ?_
        refine par_ltI fun x5 => ?_
        exact fr_M_longest_B49_7 h_q2
      · exact fr_M_longest_B49_7 h_q2
  · exact par_some h_M
theorem fr_M_longest {f : Nat} {M : oM} {B : oM} (h_M : eqo [] B M) : par (p_M_longest f M) (fun s => eqo [] B s.2) := by
  unfold p_M_longest
  exact par_iter (fun s hs => fr_M_longest_L7 s hs) _ h_M
theorem fr_M_chalk {f : Nat} {l1 : Int} {M : oM} {B : oM} (h_M : eqo [] B M) : par (p_M_chalk f l1 M) (fun s => eqo [] B s.2) := by
  unfold p_M_chalk
  refine par_bnd fun i1 => ?_
  refine par_bind (fr_M_in (eqo_rfl _ _)) fun q2 g_q2 => ?_
  have h_q2 := eqo_tr subw_nil h_M g_q2
  refine par_ite ?_ ?_
  · exact par_some h_q2
  · refine par_bnd fun i3 => ?_
    exact par_some h_q2
theorem fr_M_hoursOf_B41_4 {f : Nat} {l1 : Int} {l3 : Int} {s0 : Int} {s1 : Int} {M : oM} {B : oM} (h_M : eqo [] B M) : par (p_M_hoursOf_B41_4 f l1 l3 s0 s1 M) (psum (fun s => eqo [] B s.2.2) (fun s => eqo [] B s.2)) := by
  unfold p_M_hoursOf_B41_4
  refine par_ltI fun x1 => ?_
  refine par_ltI fun x2 => ?_
  exact par_some h_M
theorem fr_M_hoursOf_L4 {f : Nat} {l1 : Int} {B : oM} : ∀ (s : Int × Int × oM), (fun s => eqo [] B s.2.2) s → par (p_M_hoursOf_L4 f l1 s) (psum (fun s => eqo [] B s.2.2) (fun s => eqo [] B s.2)) := by
  intro s hs
  obtain ⟨l2, l3, M⟩ := s
  have h_M : eqo [] B M := hs
  unfold p_M_hoursOf_L4
  refine par_ite ?_ ?_
  · refine par_bind (fr_M_has (eqo_rfl _ _)) fun q3 g_q3 => ?_
    have h_q3 := eqo_tr subw_nil h_M g_q3
    refine par_ite ?_ ?_
    · exact fr_M_hoursOf_B41_4 h_q3
    · refine par_bnd fun i4 => ?_
      refine par_bnd fun i5 => ?_
      refine par_bind (fr_M_wayOf (eqo_rfl _ _)) fun q6 g_q6 => ?_
      have h_q6 := eqo_tr subw_nil h_q3 g_q6
      exact fr_M_hoursOf_B41_4 h_q6
  · exact par_some h_M
theorem fr_M_hoursOf {f : Nat} {l1 : Int} {M : oM} {B : oM} (h_M : eqo [] B M) : par (p_M_hoursOf f l1 M) (fun s => eqo [] B s.2) := by
  unfold p_M_hoursOf
  exact par_iter (fun s hs => fr_M_hoursOf_L4 s hs) _ h_M
theorem fr_M_isRowOf_B78_23 {f : Nat} {l1 : Int} {l2 : Int} {l3 : Int} {M : oM} {B : oM} (h_M : eqo [(82, (-1))] B M) : par (p_M_isRowOf_B78_23 f l1 l2 l3 M) (psum (fun s => eqo [(82, (-1))] B s.2) (fun s => eqo [(82, (-1))] B s.2)) := by
  unfold p_M_isRowOf_B78_23
  refine par_ltI fun x1 => ?_
  exact par_some h_M
theorem fr_M_isRowOf_L23 {f : Nat} {l1 : Int} {l2 : Int} {B : oM} : ∀ (s : Int × oM), (fun s => eqo [(82, (-1))] B s.2) s → par (p_M_isRowOf_L23 f l1 l2 s) (psum (fun s => eqo [(82, (-1))] B s.2) (fun s => eqo [(82, (-1))] B s.2)) := by
  intro s hs
  obtain ⟨l3, M⟩ := s
  have h_M : eqo [(82, (-1))] B M := hs
  unfold p_M_isRowOf_L23
  refine par_ite ?_ ?_
  · refine par_bind (fr_M_has (eqo_rfl _ _)) fun q4 g_q4 => ?_
    have h_q4 := eqo_tr subw_nil h_M g_q4
    refine par_ite ?_ ?_
    · exact fr_M_isRowOf_B78_23 h_q4
    · refine par_bnd fun i5 => ?_
      refine par_bnd fun i6 => ?_
      refine par_bnd fun i7 => ?_
      refine par_bnd fun i8 => ?_
      refine par_bind (fr_M_leftOf (eqo_rfl _ _)) fun q9 g_q9 => ?_
      have h_q9 := eqo_tr subw_nil h_q4 g_q9
      refine par_bnd fun i10 => ?_
      refine par_lt (eqo_oUa (.head _) h_q9) fun M11 h_M11 => ?_
      exact fr_M_isRowOf_B78_23 h_M11
  · refine par_bind (fr_M_isRow (eqo_rfl _ _)) fun q2 g_q2 => ?_
    have h_q2 := eqo_tr subw_nil h_M g_q2
    refine par_bnd fun b3 => ?_
    exact par_some h_q2
theorem fr_M_isRowOf_X2 {f : Nat} {l1 : Int} {l2 : Int} {B : oM} : ∀ (s : oM), (fun s => eqo [(82, (-1))] B s) s → par (p_M_isRowOf_X2 f l1 l2 s) (fun s => eqo [(82, (-1))] B s.2) := by
  intro s hs
  revert s hs
  intro M hs
  have h_M : eqo [(82, (-1))] B M := hs
  unfold p_M_isRowOf_X2
  exact par_iter (fun s hs => fr_M_isRowOf_L23 s hs) _ h_M
theorem fr_M_isRowOf_L2 {f : Nat} {l1 : Int} {l2 : Int} {B : oM} : ∀ (s : Int × oM), (fun s => eqo [(82, (-1))] B s.2) s → par (p_M_isRowOf_L2 f l1 l2 s) (psum (fun s => eqo [(82, (-1))] B s.2) (fun s => eqo [(82, (-1))] B s)) := by
  intro s hs
  obtain ⟨l3, M⟩ := s
  have h_M : eqo [(82, (-1))] B M := hs
  unfold p_M_isRowOf_L2
  refine par_ite ?_ ?_
  · refine par_bnd fun i12 => ?_
    refine par_lt (eqo_oUa (.head _) h_M) fun M13 h_M13 => ?_
    refine par_ltI fun x14 => ?_
    exact par_some h_M13
  · exact par_some h_M
theorem fr_M_isRowOf {f : Nat} {l1 : Int} {l2 : Int} {M : oM} {B : oM} (h_M : eqo [(82, (-1))] B M) : par (p_M_isRowOf f l1 l2 M) (fun s => eqo [(82, (-1))] B s.2) := by
  unfold p_M_isRowOf
  exact par_bind (par_iter (fun s hs => fr_M_isRowOf_L2 s hs) _ h_M) fun s hs => fr_M_isRowOf_X2 s hs
theorem fr_M_two_B119_52 {f : Nat} {l1 : Int} {l2 : Int} {l3 : Int} {l4 : Int} {M : oM} {B : oM} (h_M : eqo [(57, 50), (82, (-1)), (84, (-1)), (85, (-1))] B M) : par (p_M_two_B119_52 f l1 l2 l3 l4 M) (psum (fun s => eqo [(57, 50), (82, (-1)), (84, (-1)), (85, (-1))] B s.2.2) (fun s => eqo [(57, 50), (82, (-1)), (84, (-1)), (85, (-1))] B s.2)) := by
  unfold p_M_two_B119_52
  refine par_ltI fun x1 => ?_
  exact par_some h_M
theorem fr_M_two_L52 {f : Nat} {l1 : Int} {l2 : Int} {B : oM} : ∀ (s : Int × Int × oM), (fun s => eqo [(57, 50), (82, (-1)), (84, (-1)), (85, (-1))] B s.2.2) s → par (p_M_two_L52 f l1 l2 s) (psum (fun s => eqo [(57, 50), (82, (-1)), (84, (-1)), (85, (-1))] B s.2.2) (fun s => eqo [(57, 50), (82, (-1)), (84, (-1)), (85, (-1))] B s.2)) := by
  intro s hs
  obtain ⟨l3, l4, M⟩ := s
  have h_M : eqo [(57, 50), (82, (-1)), (84, (-1)), (85, (-1))] B M := hs
  unfold p_M_two_L52
  refine par_ite ?_ ?_
  · refine par_ite ?_ ?_
    · exact par_some h_M
    · exact par_some h_M
  · refine par_bind (fr_M_hoursOf (eqo_rfl _ _)) fun q2 g_q2 => ?_
    have h_q2 := eqo_tr subw_nil h_M g_q2
    refine par_bind (fr_M_hoursOf (eqo_rfl _ _)) fun q3 g_q3 => ?_
    have h_q3 := eqo_tr subw_nil h_q2 g_q3
    refine par_bind (fr_M_max (eqo_rfl _ _)) fun q4 g_q4 => ?_
    have h_q4 := eqo_tr subw_nil h_q3 g_q4
    refine par_ite ?_ ?_
    · refine par_bnd fun i5 => ?_
      refine par_bind (fr_M_isRowOf (eqo_rfl _ _)) fun q6 g_q6 => ?_
      have h_q6 := eqo_tr (subw_cons (.tail _ (.head _)) subw_nil) h_q4 g_q6
      refine par_ite ?_ ?_
      · exact fr_M_two_B119_52 h_q6
      · refine par_bind (fr_M_isRowOf (eqo_rfl _ _)) fun q7 g_q7 => ?_
        have h_q7 := eqo_tr (subw_cons (.tail _ (.head _)) subw_nil) h_q6 g_q7
        refine par_ite ?_ ?_
        · exact fr_M_two_B119_52 h_q7
        · exact fr_M_two_B119_52 h_q7
    · exact fr_M_two_B119_52 h_q4
theorem fr_M_two {f : Nat} {l1 : Int} {M : oM} {B : oM} (h_M : eqo [(57, 50), (82, (-1)), (84, (-1)), (85, (-1))] B M) : par (p_M_two f l1 M) (fun s => eqo [(57, 50), (82, (-1)), (84, (-1)), (85, (-1))] B s.2) := by
  unfold p_M_two
  refine par_bind (fr_M_isPerson (eqo_rfl _ _)) fun q8 g_q8 => ?_
  have h_q8 := eqo_tr subw_nil h_M g_q8
  refine par_ite ?_ ?_
  · exact par_some h_q8
  · refine par_bnd fun i9 => ?_
    refine par_ite ?_ ?_
    · exact par_some h_q8
    · refine par_bind (fr_M_laysCoins (eqo_rfl _ _)) fun q10 g_q10 => ?_
      have h_q10 := eqo_tr (subw_cons (.head _) (subw_cons (.tail _ (.tail _ (.head _))) (subw_cons (.tail _ (.tail _ (.tail _ (.head _)))) subw_nil))) h_q8 g_q10
      refine par_ite ?_ ?_
      · exact par_some h_q10
      · refine par_ltI fun x11 => ?_
        exact par_iter (fun s hs => fr_M_two_L52 s hs) _ h_q10
theorem fr_M_gcd_L4 {f : Nat} {B : oM} : ∀ (s : Int × Int × oM), (fun s => eqo [] B s.2.2) s → par (p_M_gcd_L4 f s) (psum (fun s => eqo [] B s.2.2) (fun s => eqo [] B s.2)) := by
  intro s hs
  obtain ⟨l2, l3, M⟩ := s
  have h_M : eqo [] B M := hs
  unfold p_M_gcd_L4
  refine par_ite ?_ ?_
  · exact par_some h_M
  · refine par_nz fun z1 => ?_
    refine par_ltI fun x2 => ?_
    exact par_some h_M
theorem fr_M_gcd {f : Nat} {l0 : Int} {l1 : Int} {M : oM} {B : oM} (h_M : eqo [] B M) : par (p_M_gcd f l0 l1 M) (fun s => eqo [] B s.2) := by
  unfold p_M_gcd
  exact par_iter (fun s hs => fr_M_gcd_L4 s hs) _ h_M
theorem fr_M_dry_L38 {f : Nat} {l1 : Int} {l2 : Int} {l3 : Int} {B : oM} : ∀ (s : Int × Int × Int × oM), (fun s => eqo [(75, (-1)), (76, (-1))] B s.2.2.2) s → par (p_M_dry_L38 f l1 l2 l3 s) (psum (fun s => eqo [(75, (-1)), (76, (-1))] B s.2.2.2) (fun s => eqo [(75, (-1)), (76, (-1))] B s.2)) := by
  intro s hs
  obtain ⟨l4, l5, l6, M⟩ := s
  have h_M : eqo [(75, (-1)), (76, (-1))] B M := hs
  unfold p_M_dry_L38
  refine par_ite ?_ ?_
  · refine par_ltI fun x4 => ?_
    refine par_ltI fun x5 => ?_
    refine par_ltI fun x6 => ?_
    exact par_some h_M
  · refine par_bind (fr_M_gcd (eqo_rfl _ _)) fun q1 g_q1 => ?_
    have h_q1 := eqo_tr subw_nil h_M g_q1
    refine par_ite ?_ ?_
    · refine par_nz fun z3 => ?_
      exact par_some h_q1
    · refine par_nz fun z2 => ?_
      exact par_some h_q1
theorem fr_M_dry {f : Nat} {l1 : Int} {l2 : Int} {M : oM} {B : oM} (h_M : eqo [(75, (-1)), (76, (-1))] B M) : par (p_M_dry f l1 l2 M) (fun s => eqo [(75, (-1)), (76, (-1))] B s.2) := by
  unfold p_M_dry
  refine par_bind (fr_M_in (eqo_rfl _ _)) fun q7 g_q7 => ?_
  have h_q7 := eqo_tr subw_nil h_M g_q7
  refine par_ite ?_ ?_
  · exact par_some h_q7
  · refine par_bind (fr_M_in (eqo_rfl _ _)) fun q8 g_q8 => ?_
    have h_q8 := eqo_tr subw_nil h_q7 g_q8
    refine par_ite ?_ ?_
    · exact par_some h_q8
    · refine par_bind (fr_M_rainBy (eqo_rfl _ _)) fun q9 g_q9 => ?_
      have h_q9 := eqo_tr (subw_cons (.head _) (subw_cons (.tail _ (.head _)) subw_nil)) h_q8 g_q9
      refine par_ltI fun x10 => ?_
      exact par_iter (fun s hs => fr_M_dry_L38 s hs) _ h_q9
theorem fr_M_seed {f : Nat} {l1 : Int} {M : oM} {B : oM} (h_M : eqo [(58, (-1))] B M) : par (p_M_seed f l1 M) (fun s => eqo [(58, (-1))] B s.2) := by
  unfold p_M_seed
  refine par_bind (fr_M_in (eqo_rfl _ _)) fun q1 g_q1 => ?_
  have h_q1 := eqo_tr subw_nil h_M g_q1
  refine par_ite ?_ ?_
  · exact par_some h_q1
  · refine par_bnd fun i2 => ?_
    refine par_lt (eqo_oUa (.head _) h_q1) fun M3 h_M3 => ?_
    exact par_some h_M3
theorem fr_M_keep {f : Nat} {M : oM} {B : oM} (h_M : eqo [(57, 61), (60, (-1))] B M) : par (p_M_keep f M) (fun s => eqo [(57, 61), (60, (-1))] B s.2) := by
  unfold p_M_keep
  refine par_lt (eqo_oU (.head _) h_M) fun M1 h_M1 => ?_
  refine par_bind (fr_M_copies (eqo_rfl _ _)) fun q2 g_q2 => ?_
  have h_q2 := eqo_tr (subw_cons (.tail _ (.head _)) subw_nil) h_M1 g_q2
  refine par_bind (fr_M_owedInAll (eqo_rfl _ _)) fun q3 g_q3 => ?_
  have h_q3 := eqo_tr subw_nil h_q2 g_q3
  exact par_some h_q3
theorem fr_M_undo {f : Nat} {M : oM} {B : oM} (h_M : eqo [(58, (-1))] B M) : par (p_M_undo f M) (fun s => eqo [(58, (-1))] B s.2) := by
  unfold p_M_undo
  refine par_ite ?_ ?_
  · exact par_some h_M
  · refine par_bind (fr_M_copies (eqo_rfl _ _)) fun q1 g_q1 => ?_
    have h_q1 := eqo_tr (subw_cons (.head _) subw_nil) h_M g_q1
    exact par_some h_q1
theorem fr_M_check_B66_28 {f : Nat} {l1 : Int} {l2 : Int} {s0 : Int} {s1 : Int} {M : oM} {B : oM} (h_M : eqo [(57, 7)] B M) : par (p_M_check_B66_28 f l1 l2 s0 s1 M) (psum (fun s => eqo [(57, 7)] B s.2) (fun s => eqo [(57, 7)] B s.2)) := by
  unfold p_M_check_B66_28
  refine par_ite ?_ ?_
  · refine par_ltI fun x1 => ?_
    exact par_some h_M
  · exact par_some h_M
theorem fr_M_check_L28 {f : Nat} {l1 : Int} {B : oM} : ∀ (s : Int × oM), (fun s => eqo [(57, 7)] B s.2) s → par (p_M_check_L28 f l1 s) (psum (fun s => eqo [(57, 7)] B s.2) (fun s => eqo [(57, 7)] B s.2)) := by
  intro s hs
  obtain ⟨l2, M⟩ := s
  have h_M : eqo [(57, 7)] B M := hs
  unfold p_M_check_L28
  refine par_ite ?_ ?_
  · refine par_bnd fun i2 => ?_
    refine par_bind (fr_M_isPerson (eqo_rfl _ _)) fun q3 g_q3 => ?_
    have h_q3 := eqo_tr subw_nil h_M g_q3
    refine par_ite ?_ ?_
    · exact fr_M_check_B66_28 h_q3
    · refine par_bind (fr_M_owesAll (eqo_rfl _ _)) fun q4 g_q4 => ?_
      have h_q4 := eqo_tr subw_nil h_q3 g_q4
      refine par_bind (fr_M_min (eqo_rfl _ _)) fun q5 g_q5 => ?_
      have h_q5 := eqo_tr subw_nil h_q4 g_q5
      exact fr_M_check_B66_28 h_q5
  · exact par_some h_M
theorem fr_M_check {f : Nat} {l1 : Int} {M : oM} {B : oM} (h_M : eqo [(57, 7)] B M) : par (p_M_check f l1 M) (fun s => eqo [(57, 7)] B s.2) := by
  unfold p_M_check
  refine par_bind (fr_M_in (eqo_rfl _ _)) fun q6 g_q6 => ?_
  have h_q6 := eqo_tr subw_nil h_M g_q6
  refine par_ite ?_ ?_
  · exact par_some h_q6
  · refine par_ite ?_ ?_
    · exact par_some h_q6
    · refine par_lt (eqo_oU (.head _) h_q6) fun M7 h_M7 => ?_
      exact par_iter (fun s hs => fr_M_check_L28 s hs) _ h_M7
theorem fr_M_count {f : Nat} {l1 : Int} {M : oM} {B : oM} (h_M : eqo [] B M) : par (p_M_count f l1 M) (fun s => eqo [] B s.2) := by
  unfold p_M_count
  refine par_ite ?_ ?_
  · exact par_some h_M
  · refine par_ite ?_ ?_
    · refine par_bind (fr_M_owedInAll (eqo_rfl _ _)) fun q1 g_q1 => ?_
      have h_q1 := eqo_tr subw_nil h_M g_q1
      exact par_some h_q1
    · refine par_ite ?_ ?_
      · refine par_bnd fun i2 => ?_
        exact par_some h_M
      · refine par_ite ?_ ?_
        · refine par_bnd fun i3 => ?_
          exact par_some h_M
        · refine par_ite ?_ ?_
          · refine par_bnd fun i4 => ?_
            exact par_some h_M
          · refine par_ite ?_ ?_
            · refine par_bnd fun i5 => ?_
              exact par_some h_M
            · refine par_ite ?_ ?_
              · refine par_bnd fun i6 => ?_
                exact par_some h_M
              · refine par_ite ?_ ?_
                · refine par_bnd fun i7 => ?_
                  exact par_some h_M
                · refine par_ite ?_ ?_
                  · refine par_bnd fun i8 => ?_
                    exact par_some h_M
                  · refine par_ite ?_ ?_
                    · exact par_some h_M
                    · refine par_ite ?_ ?_
                      · exact par_some h_M
                      · refine par_ite ?_ ?_
                        · refine par_bnd fun i9 => ?_
                          exact par_some h_M
                        · exact par_some h_M
