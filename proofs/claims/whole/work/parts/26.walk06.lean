/-! walks (by program) -/
theorem c_M_hoursGo_0 {l : Launch} {f : Nat} {l1 : Int} {M : oM} {K : Int × oM → Prop} (H : okp (p_M_hoursGo f l1 M) K) : oKf l m_M_hoursGo 9 [vr 57, vi l1] M K := by
  refine oK_intro (lv := [vr 57, vi l1, vu]) (by decide +kernel) (Nat.le_of_ble_eq_true rfl) rfl ?_
  have h6 : ∀ (g : Nat) (l1 l2 : Int) (M : oM), okp (iter (p_M_hoursGo_L6 f l1) g (l2, M)) K → oJ l m_M_hoursGo (oEf 9 K) 0 0 6 [vr 57, vi l1, vi l2] [] WD M := by
    intro g l1 l2 M H
    have HL := fun hs => iter_J' (Jh := fun s => oJ l m_M_hoursGo (oEf 9 K) 0 0 6 [vr 57, vi l1, vi s.1] [] WD s.2) (G := K) hs g (l2, M) H
    refine HL ?_
    intro K6 s i6 e6 H
    obtain ⟨l2, M⟩ := s
    show oJ l m_M_hoursGo (oEf 9 K) 0 0 6 [vr 57, vi l1, vi l2] [] WD M
    refine oj_ld2 (pc := 6) (by decide +kernel) ?_
    refine oj_ld1 (pc := 7) (by decide +kernel) ?_
    refine oj_icmp_ge (pc := 8) (off := 27) (tgt := 35) (by decide +kernel) (by decide) H (fun _ H => ?_) (fun _ H => ?_)
    · have H := e6 _ H
      exact oj_vret (pc := 35) (by decide +kernel) rfl (Nat.le_refl _) (Nat.le_refl _) ⟨rfl, H⟩
    · refine oj_ald0 (pc := 11) (by decide +kernel) ?_
      refine oj_getR' (pc := 12) f_M_7 s_57_0 (by decide +kernel) ?_
      refine oj_sipush (pc := 15) (v := 156) ⟨by decide, by decide⟩ (by decide +kernel) ?_
      refine oj_iald (pc := 18) (NN := 159) a_58 rfl (by decide +kernel) H (fun H => ?_)
      refine oj_sipush (pc := 19) (v := 9999) ⟨by decide, by decide⟩ (by decide +kernel) ?_
      refine oj_icmp_ge (pc := 22) (off := 13) (tgt := 35) (by decide +kernel) (by decide) H (fun _ H => ?_) (fun _ H => ?_)
      · have H := e6 _ H
        exact oj_vret (pc := 35) (by decide +kernel) rfl (Nat.le_refl _) (Nat.le_refl _) ⟨rfl, H⟩
      · refine oj_ald0 (pc := 25) (by decide +kernel) ?_
        refine of_Vv (pc := 26) (as := []) v_M_339 o_57 rfl rfl (Nat.le_of_ble_eq_true rfl) (by decide +kernel) (by decide) rfl (c_M_hourGoes_0 (okp_bind H)) (fun M H => ?_)
        refine oj_inc2 (pc := 29) (d := 1) (by decide +kernel) (by decide +kernel) ?_
        have H := okp_lt H
        refine oj_goto (pc := 32) (off := -26) (tgt := 6) (by decide +kernel) (by decide) ?_
        have H := i6 _ H
        exact H
  refine oj_ald0 (pc := 0) (by decide +kernel) ?_
  refine of_Vv (pc := 1) (as := []) v_M_336 o_57 rfl rfl (Nat.le_of_ble_eq_true rfl) (by decide +kernel) (by decide) rfl (c_M_begins_0 (okp_bind H)) (fun M H => ?_)
  refine oj_iconst (pc := 4) (v := 0) ⟨by decide, by decide⟩ (by decide +kernel) ?_
  refine oj_st2 (pc := 5) (by decide +kernel) (by decide +kernel) ?_
  exact h6 _ _ _ _ H
theorem c_M_hours_0 {l : Launch} {f : Nat} {l1 : Int} {M : oM} {K : Int × oM → Prop} (H : okp (p_M_hours f l1 M) K) : oKf l m_M_hours 10 [vr 57, vi l1] M K := by
  refine oK_intro (lv := [vr 57, vi l1]) (by decide +kernel) (Nat.le_of_ble_eq_true rfl) rfl ?_
  refine oj_ld1 (pc := 0) (by decide +kernel) ?_
  refine oj_iconst (pc := 1) (v := 1) ⟨by decide, by decide⟩ (by decide +kernel) ?_
  refine oj_sipush (pc := 2) (v := 240) ⟨by decide, by decide⟩ (by decide +kernel) ?_
  refine of_Si (pc := 5) (as := [_, _, _]) v_M_123 rfl rfl (Nat.le_of_ble_eq_true rfl) (by decide +kernel) (by decide) rfl (c_M_in_0 (okp_bind H)) (fun r M H => ?_)
  refine oj_if_ne (pc := 8) (off := 5) (tgt := 13) (by decide +kernel) (by decide) H (fun _ H => ?_) (fun _ H => ?_)
  · refine oj_ald0 (pc := 13) (by decide +kernel) ?_
    refine oj_ld1 (pc := 14) (by decide +kernel) ?_
    refine of_Vv (pc := 15) (as := [_]) v_M_342 o_57 rfl rfl (Nat.le_of_ble_eq_true rfl) (by decide +kernel) (by decide) rfl (c_M_hoursGo_0 (okp_bind H)) (fun M H => ?_)
    refine oj_ald0 (pc := 18) (by decide +kernel) ?_
    refine oj_getI' (pc := 19) (ki := 32) f_M_330 s_57_32 rfl (by decide +kernel) ?_
    exact oj_iret (pc := 22) (by decide +kernel) rfl rfl (Nat.le_refl _) (Nat.le_refl _) ⟨rfl, H⟩
  · refine oj_iconst (pc := 11) (v := -1) ⟨by decide, by decide⟩ (by decide +kernel) ?_
    exact oj_iret (pc := 12) (by decide +kernel) rfl rfl (Nat.le_refl _) (Nat.le_refl _) ⟨rfl, H⟩
theorem c_M_copies_0 {l : Launch} {f : Nat} {M : oM} {K : Int × oM → Prop} (H : okp (p_M_copies f 58 59 M) K) : oKf l m_M_copies 2 [vr 58, vr 59] M K := by
  refine oK_intro (lv := [vr 58, vr 59, vu]) (by decide +kernel) (Nat.le_of_ble_eq_true rfl) rfl ?_
  have h2 : ∀ (g : Nat) (l2 : Int) (M : oM), okp (iter (p_M_copies_L2 f 58 59) g (l2, M)) K → oJ l m_M_copies (oEf 2 K) 0 0 2 [vr 58, vr 59, vi l2] [] WD M := by
    intro g l2 M H
    have HL := fun hs => iter_J' (Jh := fun s => oJ l m_M_copies (oEf 2 K) 0 0 2 [vr 58, vr 59, vi s.1] [] WD s.2) (G := K) hs g (l2, M) H
    refine HL ?_
    intro K2 s i2 e2 H
    obtain ⟨l2, M⟩ := s
    show oJ l m_M_copies (oEf 2 K) 0 0 2 [vr 58, vr 59, vi l2] [] WD M
    refine oj_ld2 (pc := 2) (by decide +kernel) ?_
    refine oj_sipush (pc := 3) (v := 159) ⟨by decide, by decide⟩ (by decide +kernel) ?_
    refine oj_icmp_ge (pc := 6) (off := 15) (tgt := 21) (by decide +kernel) (by decide) H (fun _ H => ?_) (fun _ H => ?_)
    · have H := e2 _ H
      exact oj_vret (pc := 21) (by decide +kernel) rfl (Nat.le_refl _) (Nat.le_refl _) ⟨rfl, H⟩
    · refine oj_ald1 (pc := 9) (by decide +kernel) ?_
      refine oj_ld2 (pc := 10) (by decide +kernel) ?_
      refine oj_ald0 (pc := 11) (by decide +kernel) ?_
      refine oj_ld2 (pc := 12) (by decide +kernel) ?_
      refine oj_iald (pc := 13) (NN := 159) a_58 rfl (by decide +kernel) H (fun H => ?_)
      refine oj_iast (pc := 14) (NN := 159) a_59 rfl (by decide +kernel) H (fun H => ?_)
      have H := okp_lt H
      refine oj_inc2 (pc := 15) (d := 1) (by decide +kernel) (by decide +kernel) ?_
      have H := okp_lt H
      refine oj_goto (pc := 18) (off := -16) (tgt := 2) (by decide +kernel) (by decide) ?_
      have H := i2 _ H
      exact H
  refine oj_iconst (pc := 0) (v := 0) ⟨by decide, by decide⟩ (by decide +kernel) ?_
  refine oj_st2 (pc := 1) (by decide +kernel) (by decide +kernel) ?_
  exact h2 _ _ _ H
theorem c_M_copies_1 {l : Launch} {f : Nat} {M : oM} {K : Int × oM → Prop} (H : okp (p_M_copies f 59 58 M) K) : oKf l m_M_copies 2 [vr 59, vr 58] M K := by
  refine oK_intro (lv := [vr 59, vr 58, vu]) (by decide +kernel) (Nat.le_of_ble_eq_true rfl) rfl ?_
  have h2 : ∀ (g : Nat) (l2 : Int) (M : oM), okp (iter (p_M_copies_L2 f 59 58) g (l2, M)) K → oJ l m_M_copies (oEf 2 K) 0 0 2 [vr 59, vr 58, vi l2] [] WD M := by
    intro g l2 M H
    have HL := fun hs => iter_J' (Jh := fun s => oJ l m_M_copies (oEf 2 K) 0 0 2 [vr 59, vr 58, vi s.1] [] WD s.2) (G := K) hs g (l2, M) H
    refine HL ?_
    intro K2 s i2 e2 H
    obtain ⟨l2, M⟩ := s
    show oJ l m_M_copies (oEf 2 K) 0 0 2 [vr 59, vr 58, vi l2] [] WD M
    refine oj_ld2 (pc := 2) (by decide +kernel) ?_
    refine oj_sipush (pc := 3) (v := 159) ⟨by decide, by decide⟩ (by decide +kernel) ?_
    refine oj_icmp_ge (pc := 6) (off := 15) (tgt := 21) (by decide +kernel) (by decide) H (fun _ H => ?_) (fun _ H => ?_)
    · have H := e2 _ H
      exact oj_vret (pc := 21) (by decide +kernel) rfl (Nat.le_refl _) (Nat.le_refl _) ⟨rfl, H⟩
    · refine oj_ald1 (pc := 9) (by decide +kernel) ?_
      refine oj_ld2 (pc := 10) (by decide +kernel) ?_
      refine oj_ald0 (pc := 11) (by decide +kernel) ?_
      refine oj_ld2 (pc := 12) (by decide +kernel) ?_
      refine oj_iald (pc := 13) (NN := 159) a_59 rfl (by decide +kernel) H (fun H => ?_)
      refine oj_iast (pc := 14) (NN := 159) a_58 rfl (by decide +kernel) H (fun H => ?_)
      have H := okp_lt H
      refine oj_inc2 (pc := 15) (d := 1) (by decide +kernel) (by decide +kernel) ?_
      have H := okp_lt H
      refine oj_goto (pc := 18) (off := -16) (tgt := 2) (by decide +kernel) (by decide) ?_
      have H := i2 _ H
      exact H
  refine oj_iconst (pc := 0) (v := 0) ⟨by decide, by decide⟩ (by decide +kernel) ?_
  refine oj_st2 (pc := 1) (by decide +kernel) (by decide +kernel) ?_
  exact h2 _ _ _ H
theorem c_M_copies_2 {l : Launch} {f : Nat} {M : oM} {K : Int × oM → Prop} (H : okp (p_M_copies f 58 60 M) K) : oKf l m_M_copies 2 [vr 58, vr 60] M K := by
  refine oK_intro (lv := [vr 58, vr 60, vu]) (by decide +kernel) (Nat.le_of_ble_eq_true rfl) rfl ?_
  have h2 : ∀ (g : Nat) (l2 : Int) (M : oM), okp (iter (p_M_copies_L2 f 58 60) g (l2, M)) K → oJ l m_M_copies (oEf 2 K) 0 0 2 [vr 58, vr 60, vi l2] [] WD M := by
    intro g l2 M H
    have HL := fun hs => iter_J' (Jh := fun s => oJ l m_M_copies (oEf 2 K) 0 0 2 [vr 58, vr 60, vi s.1] [] WD s.2) (G := K) hs g (l2, M) H
    refine HL ?_
    intro K2 s i2 e2 H
    obtain ⟨l2, M⟩ := s
    show oJ l m_M_copies (oEf 2 K) 0 0 2 [vr 58, vr 60, vi l2] [] WD M
    refine oj_ld2 (pc := 2) (by decide +kernel) ?_
    refine oj_sipush (pc := 3) (v := 159) ⟨by decide, by decide⟩ (by decide +kernel) ?_
    refine oj_icmp_ge (pc := 6) (off := 15) (tgt := 21) (by decide +kernel) (by decide) H (fun _ H => ?_) (fun _ H => ?_)
    · have H := e2 _ H
      exact oj_vret (pc := 21) (by decide +kernel) rfl (Nat.le_refl _) (Nat.le_refl _) ⟨rfl, H⟩
    · refine oj_ald1 (pc := 9) (by decide +kernel) ?_
      refine oj_ld2 (pc := 10) (by decide +kernel) ?_
      refine oj_ald0 (pc := 11) (by decide +kernel) ?_
      refine oj_ld2 (pc := 12) (by decide +kernel) ?_
      refine oj_iald (pc := 13) (NN := 159) a_58 rfl (by decide +kernel) H (fun H => ?_)
      refine oj_iast (pc := 14) (NN := 159) a_60 rfl (by decide +kernel) H (fun H => ?_)
      have H := okp_lt H
      refine oj_inc2 (pc := 15) (d := 1) (by decide +kernel) (by decide +kernel) ?_
      have H := okp_lt H
      refine oj_goto (pc := 18) (off := -16) (tgt := 2) (by decide +kernel) (by decide) ?_
      have H := i2 _ H
      exact H
  refine oj_iconst (pc := 0) (v := 0) ⟨by decide, by decide⟩ (by decide +kernel) ?_
  refine oj_st2 (pc := 1) (by decide +kernel) (by decide +kernel) ?_
  exact h2 _ _ _ H
theorem c_M_copies_3 {l : Launch} {f : Nat} {M : oM} {K : Int × oM → Prop} (H : okp (p_M_copies f 60 58 M) K) : oKf l m_M_copies 2 [vr 60, vr 58] M K := by
  refine oK_intro (lv := [vr 60, vr 58, vu]) (by decide +kernel) (Nat.le_of_ble_eq_true rfl) rfl ?_
  have h2 : ∀ (g : Nat) (l2 : Int) (M : oM), okp (iter (p_M_copies_L2 f 60 58) g (l2, M)) K → oJ l m_M_copies (oEf 2 K) 0 0 2 [vr 60, vr 58, vi l2] [] WD M := by
    intro g l2 M H
    have HL := fun hs => iter_J' (Jh := fun s => oJ l m_M_copies (oEf 2 K) 0 0 2 [vr 60, vr 58, vi s.1] [] WD s.2) (G := K) hs g (l2, M) H
    refine HL ?_
    intro K2 s i2 e2 H
    obtain ⟨l2, M⟩ := s
    show oJ l m_M_copies (oEf 2 K) 0 0 2 [vr 60, vr 58, vi l2] [] WD M
    refine oj_ld2 (pc := 2) (by decide +kernel) ?_
    refine oj_sipush (pc := 3) (v := 159) ⟨by decide, by decide⟩ (by decide +kernel) ?_
    refine oj_icmp_ge (pc := 6) (off := 15) (tgt := 21) (by decide +kernel) (by decide) H (fun _ H => ?_) (fun _ H => ?_)
    · have H := e2 _ H
      exact oj_vret (pc := 21) (by decide +kernel) rfl (Nat.le_refl _) (Nat.le_refl _) ⟨rfl, H⟩
    · refine oj_ald1 (pc := 9) (by decide +kernel) ?_
      refine oj_ld2 (pc := 10) (by decide +kernel) ?_
      refine oj_ald0 (pc := 11) (by decide +kernel) ?_
      refine oj_ld2 (pc := 12) (by decide +kernel) ?_
      refine oj_iald (pc := 13) (NN := 159) a_60 rfl (by decide +kernel) H (fun H => ?_)
      refine oj_iast (pc := 14) (NN := 159) a_58 rfl (by decide +kernel) H (fun H => ?_)
      have H := okp_lt H
      refine oj_inc2 (pc := 15) (d := 1) (by decide +kernel) (by decide +kernel) ?_
      have H := okp_lt H
      refine oj_goto (pc := 18) (off := -16) (tgt := 2) (by decide +kernel) (by decide) ?_
      have H := i2 _ H
      exact H
  refine oj_iconst (pc := 0) (v := 0) ⟨by decide, by decide⟩ (by decide +kernel) ?_
  refine oj_st2 (pc := 1) (by decide +kernel) (by decide +kernel) ?_
  exact h2 _ _ _ H
theorem c_M_tried_0 {l : Launch} {f : Nat} {l1 l2 : Int} {M : oM} {K : Int × oM → Prop} (H : okp (p_M_tried f l1 l2 M) K) : oKf l m_M_tried 10 [vr 57, vi l1, vi l2] M K := by
  refine oK_intro (lv := [vr 57, vi l1, vi l2, vu]) (by decide +kernel) (Nat.le_of_ble_eq_true rfl) rfl ?_
  have h182 : ∀ (l3 : Int) (M : oM), okp (p_M_tried_B182 f l3 M) K → oJ l m_M_tried (oEf 10 K) 0 0 182 [vr 57, vu, vu, vi l3] [] WD M := by
    intro l3 M H
    refine oj_ald0 (pc := 182) (by decide +kernel) ?_
    refine oj_getR' (pc := 183) f_M_13 s_57_1 (by decide +kernel) ?_
    refine oj_ald0 (pc := 186) (by decide +kernel) ?_
    refine oj_getR' (pc := 187) f_M_7 s_57_0 (by decide +kernel) ?_
    refine of_Sv (pc := 190) (as := [_, _]) v_M_345 rfl rfl (Nat.le_of_ble_eq_true rfl) (by decide +kernel) (by decide) rfl (c_M_copies_1 (okp_bind H)) (fun M H => ?_)
    refine oj_ld3 (pc := 193) (by decide +kernel) ?_
    exact oj_iret (pc := 194) (by decide +kernel) rfl rfl (Nat.le_refl _) (Nat.le_refl _) ⟨rfl, H⟩
  have h44 : ∀ (l1 l2 : Int) (M : oM), okp (p_M_tried_B44 f l1 l2 M) K → oJ l m_M_tried (oEf 10 K) 0 0 44 [vr 57, vi l1, vi l2, vu] [] WD M := by
    intro l1 l2 M H
    refine oj_ald0 (pc := 44) (by decide +kernel) ?_
    refine oj_getR' (pc := 45) f_M_7 s_57_0 (by decide +kernel) ?_
    refine oj_ald0 (pc := 48) (by decide +kernel) ?_
    refine oj_getR' (pc := 49) f_M_13 s_57_1 (by decide +kernel) ?_
    refine of_Sv (pc := 52) (as := [_, _]) v_M_345 rfl rfl (Nat.le_of_ble_eq_true rfl) (by decide +kernel) (by decide) rfl (c_M_copies_0 (okp_bind H)) (fun M H => ?_)
    refine oj_ald0 (pc := 55) (by decide +kernel) ?_
    refine oj_ld1 (pc := 56) (by decide +kernel) ?_
    refine of_Vv (pc := 57) (as := [_]) v_M_342 o_57 rfl rfl (Nat.le_of_ble_eq_true rfl) (by decide +kernel) (by decide) rfl (c_M_hoursGo_0 (okp_bind H)) (fun M H => ?_)
    refine oj_ld2 (pc := 60) (by decide +kernel) ?_
    refine oj_case (c := _ = 0) H (fun c0 H => ?_) (fun c0 H => ?_)
    · refine oj_tin (pc := 61) (dflt := 95) (lo := 0) (hi := 5) (offs := #[39, 47, 55, 67, 75, 83]) (len := 39) (off := 39) (tgt := 100) 0 c0 (by decide +kernel) ⟨by decide, by decide⟩ (by decide +kernel) (by decide) ?_
      refine oj_ald0 (pc := 100) (by decide +kernel) ?_
      refine oj_getI' (pc := 101) (ki := 32) f_M_330 s_57_32 rfl (by decide +kernel) ?_
      refine oj_st3 (pc := 104) (by decide +kernel) (by decide +kernel) ?_
      have H := okp_lt H
      refine oj_goto (pc := 105) (off := 77) (tgt := 182) (by decide +kernel) (by decide) ?_
      refine oj_le (lv' := [_, vu, vu, _]) ⟨Or.inr rfl, Or.inl rfl, Or.inl rfl, Or.inr rfl, trivial⟩ ?_
      exact h182 _ _ H
    refine oj_case (c := _ = 1) H (fun c1 H => ?_) (fun c1 H => ?_)
    · refine oj_tin (pc := 61) (dflt := 95) (lo := 0) (hi := 5) (offs := #[39, 47, 55, 67, 75, 83]) (len := 39) (off := 47) (tgt := 108) 1 c1 (by decide +kernel) ⟨by decide, by decide⟩ (by decide +kernel) (by decide) ?_
      refine oj_ald0 (pc := 108) (by decide +kernel) ?_
      refine of_Vi (pc := 109) (as := []) v_M_296 o_57 rfl rfl (Nat.le_of_ble_eq_true rfl) (by decide +kernel) (by decide) rfl (c_M_owedInAll_0 (okp_bind H)) (fun r M H => ?_)
      refine oj_st3 (pc := 112) (by decide +kernel) (by decide +kernel) ?_
      refine oj_goto (pc := 113) (off := 69) (tgt := 182) (by decide +kernel) (by decide) ?_
      refine oj_le (lv' := [_, vu, vu, _]) ⟨Or.inr rfl, Or.inl rfl, Or.inl rfl, Or.inr rfl, trivial⟩ ?_
      exact h182 _ _ H
    refine oj_case (c := _ = 2) H (fun c2 H => ?_) (fun c2 H => ?_)
    · refine oj_tin (pc := 61) (dflt := 95) (lo := 0) (hi := 5) (offs := #[39, 47, 55, 67, 75, 83]) (len := 39) (off := 55) (tgt := 116) 2 c2 (by decide +kernel) ⟨by decide, by decide⟩ (by decide +kernel) (by decide) ?_
      refine oj_ald0 (pc := 116) (by decide +kernel) ?_
      refine oj_getR' (pc := 117) f_M_7 s_57_0 (by decide +kernel) ?_
      refine oj_sipush (pc := 120) (v := 151) ⟨by decide, by decide⟩ (by decide +kernel) ?_
      refine oj_iald (pc := 123) (NN := 159) a_58 rfl (by decide +kernel) H (fun H => ?_)
      refine oj_st3 (pc := 124) (by decide +kernel) (by decide +kernel) ?_
      have H := okp_lt H
      refine oj_goto (pc := 125) (off := 57) (tgt := 182) (by decide +kernel) (by decide) ?_
      refine oj_le (lv' := [_, vu, vu, _]) ⟨Or.inr rfl, Or.inl rfl, Or.inl rfl, Or.inr rfl, trivial⟩ ?_
      exact h182 _ _ H
    refine oj_case (c := _ = 3) H (fun c3 H => ?_) (fun c3 H => ?_)
    · refine oj_tin (pc := 61) (dflt := 95) (lo := 0) (hi := 5) (offs := #[39, 47, 55, 67, 75, 83]) (len := 39) (off := 67) (tgt := 128) 3 c3 (by decide +kernel) ⟨by decide, by decide⟩ (by decide +kernel) (by decide) ?_
      refine oj_ald0 (pc := 128) (by decide +kernel) ?_
      refine oj_getI' (pc := 129) (ki := 33) f_M_306 s_57_33 rfl (by decide +kernel) ?_
      refine oj_st3 (pc := 132) (by decide +kernel) (by decide +kernel) ?_
      have H := okp_lt H
      refine oj_goto (pc := 133) (off := 49) (tgt := 182) (by decide +kernel) (by decide) ?_
      refine oj_le (lv' := [_, vu, vu, _]) ⟨Or.inr rfl, Or.inl rfl, Or.inl rfl, Or.inr rfl, trivial⟩ ?_
      exact h182 _ _ H
    refine oj_case (c := _ = 4) H (fun c4 H => ?_) (fun c4 H => ?_)
    · refine oj_tin (pc := 61) (dflt := 95) (lo := 0) (hi := 5) (offs := #[39, 47, 55, 67, 75, 83]) (len := 39) (off := 75) (tgt := 136) 4 c4 (by decide +kernel) ⟨by decide, by decide⟩ (by decide +kernel) (by decide) ?_
      refine oj_ald0 (pc := 136) (by decide +kernel) ?_
      refine oj_getI' (pc := 137) (ki := 34) f_M_309 s_57_34 rfl (by decide +kernel) ?_
      refine oj_st3 (pc := 140) (by decide +kernel) (by decide +kernel) ?_
      have H := okp_lt H
      refine oj_goto (pc := 141) (off := 41) (tgt := 182) (by decide +kernel) (by decide) ?_
      refine oj_le (lv' := [_, vu, vu, _]) ⟨Or.inr rfl, Or.inl rfl, Or.inl rfl, Or.inr rfl, trivial⟩ ?_
      exact h182 _ _ H
    refine oj_case (c := _ = 5) H (fun c5 H => ?_) (fun c5 H => ?_)
    · refine oj_tin (pc := 61) (dflt := 95) (lo := 0) (hi := 5) (offs := #[39, 47, 55, 67, 75, 83]) (len := 39) (off := 83) (tgt := 144) 5 c5 (by decide +kernel) ⟨by decide, by decide⟩ (by decide +kernel) (by decide) ?_
      refine oj_ald0 (pc := 144) (by decide +kernel) ?_
      refine oj_getR' (pc := 145) f_M_7 s_57_0 (by decide +kernel) ?_
      refine oj_sipush (pc := 148) (v := 155) ⟨by decide, by decide⟩ (by decide +kernel) ?_
      refine oj_iald (pc := 151) (NN := 159) a_58 rfl (by decide +kernel) H (fun H => ?_)
      refine oj_st3 (pc := 152) (by decide +kernel) (by decide +kernel) ?_
      have H := okp_lt H
      refine oj_goto (pc := 153) (off := 29) (tgt := 182) (by decide +kernel) (by decide) ?_
      refine oj_le (lv' := [_, vu, vu, _]) ⟨Or.inr rfl, Or.inl rfl, Or.inl rfl, Or.inr rfl, trivial⟩ ?_
      exact h182 _ _ H
    refine oj_tout (pc := 61) (dflt := 95) (lo := 0) (hi := 5) (offs := #[39, 47, 55, 67, 75, 83]) (len := 39) (tgt := 156) (by decide +kernel) (by omega) (by decide) ?_
    refine oj_ald0 (pc := 156) (by decide +kernel) ?_
    refine oj_getR' (pc := 157) f_M_7 s_57_0 (by decide +kernel) ?_
    refine oj_bipush (pc := 160) (v := 100) ⟨by decide, by decide⟩ (by decide +kernel) ?_
    refine oj_ld2 (pc := 162) (by decide +kernel) ?_
    refine oj_iadd (pc := 163) (by decide +kernel) ?_
    refine oj_bipush (pc := 164) (v := 10) ⟨by decide, by decide⟩ (by decide +kernel) ?_
    refine oj_isub (pc := 166) (by decide +kernel) ?_
    refine oj_iald (pc := 167) (NN := 159) a_58 rfl (by decide +kernel) H (fun H => ?_)
    refine oj_ald0 (pc := 168) (by decide +kernel) ?_
    refine oj_getR' (pc := 169) f_M_13 s_57_1 (by decide +kernel) ?_
    refine oj_bipush (pc := 172) (v := 100) ⟨by decide, by decide⟩ (by decide +kernel) ?_
    refine oj_ld2 (pc := 174) (by decide +kernel) ?_
    refine oj_iadd (pc := 175) (by decide +kernel) ?_
    refine oj_bipush (pc := 176) (v := 10) ⟨by decide, by decide⟩ (by decide +kernel) ?_
    refine oj_isub (pc := 178) (by decide +kernel) ?_
    refine oj_iald (pc := 179) (NN := 159) a_59 rfl (by decide +kernel) H (fun H => ?_)
    refine oj_isub (pc := 180) (by decide +kernel) ?_
    refine oj_st3 (pc := 181) (by decide +kernel) (by decide +kernel) ?_
    have H := okp_lt H
    refine oj_le (lv' := [_, vu, vu, _]) ⟨Or.inr rfl, Or.inl rfl, Or.inl rfl, Or.inr rfl, trivial⟩ ?_
    exact h182 _ _ H
  refine oj_ld1 (pc := 0) (by decide +kernel) ?_
  refine oj_iconst (pc := 1) (v := 1) ⟨by decide, by decide⟩ (by decide +kernel) ?_
  refine oj_sipush (pc := 2) (v := 240) ⟨by decide, by decide⟩ (by decide +kernel) ?_
  refine of_Si (pc := 5) (as := [_, _, _]) v_M_123 rfl rfl (Nat.le_of_ble_eq_true rfl) (by decide +kernel) (by decide) rfl (c_M_in_0 (okp_bind H)) (fun r M H => ?_)
  refine oj_if_eq (pc := 8) (off := 34) (tgt := 42) (by decide +kernel) (by decide) H (fun _ H => ?_) (fun _ H => ?_)
  · refine oj_iconst (pc := 42) (v := -1) ⟨by decide, by decide⟩ (by decide +kernel) ?_
    exact oj_iret (pc := 43) (by decide +kernel) rfl rfl (Nat.le_refl _) (Nat.le_refl _) ⟨rfl, H⟩
  · refine oj_ld2 (pc := 11) (by decide +kernel) ?_
    refine oj_iconst (pc := 12) (v := 0) ⟨by decide, by decide⟩ (by decide +kernel) ?_
    refine oj_iconst (pc := 13) (v := 5) ⟨by decide, by decide⟩ (by decide +kernel) ?_
    refine of_Si (pc := 14) (as := [_, _, _]) v_M_123 rfl rfl (Nat.le_of_ble_eq_true rfl) (by decide +kernel) (by decide) rfl (c_M_in_0 (okp_bind H)) (fun r M H => ?_)
    refine oj_if_ne (pc := 17) (off := 27) (tgt := 44) (by decide +kernel) (by decide) H (fun _ H => ?_) (fun _ H => ?_)
    · exact h44 _ _ _ H
    · refine oj_ld2 (pc := 20) (by decide +kernel) ?_
      refine oj_bipush (pc := 21) (v := 10) ⟨by decide, by decide⟩ (by decide +kernel) ?_
      refine oj_bipush (pc := 23) (v := 19) ⟨by decide, by decide⟩ (by decide +kernel) ?_
      refine of_Si (pc := 25) (as := [_, _, _]) v_M_123 rfl rfl (Nat.le_of_ble_eq_true rfl) (by decide +kernel) (by decide) rfl (c_M_in_0 (okp_bind H)) (fun r M H => ?_)
      refine oj_if_eq (pc := 28) (off := 14) (tgt := 42) (by decide +kernel) (by decide) H (fun _ H => ?_) (fun _ H => ?_)
      · refine oj_iconst (pc := 42) (v := -1) ⟨by decide, by decide⟩ (by decide +kernel) ?_
        exact oj_iret (pc := 43) (by decide +kernel) rfl rfl (Nat.le_refl _) (Nat.le_refl _) ⟨rfl, H⟩
      · refine oj_ald0 (pc := 31) (by decide +kernel) ?_
        refine oj_ld2 (pc := 32) (by decide +kernel) ?_
        refine oj_bipush (pc := 33) (v := 10) ⟨by decide, by decide⟩ (by decide +kernel) ?_
        refine oj_isub (pc := 35) (by decide +kernel) ?_
        refine of_Vi (pc := 36) (as := [_]) v_M_135 o_57 rfl rfl (Nat.le_of_ble_eq_true rfl) (by decide +kernel) (by decide) rfl (c_M_isPerson_0 (okp_bind H)) (fun r M H => ?_)
        refine oj_if_ne (pc := 39) (off := 5) (tgt := 44) (by decide +kernel) (by decide) H (fun _ H => ?_) (fun _ H => ?_)
        · exact h44 _ _ _ H
        · refine oj_iconst (pc := 42) (v := -1) ⟨by decide, by decide⟩ (by decide +kernel) ?_
          exact oj_iret (pc := 43) (by decide +kernel) rfl rfl (Nat.le_refl _) (Nat.le_refl _) ⟨rfl, H⟩
theorem c_M_getsAll_0 {l : Launch} {f : Nat} {l1 : Int} {M : oM} {K : Int × oM → Prop} (H : okp (p_M_getsAll f l1 M) K) : oKf l m_M_getsAll 3 [vr 57, vi l1] M K := by
  refine oK_intro (lv := [vr 57, vi l1, vu, vu]) (by decide +kernel) (Nat.le_of_ble_eq_true rfl) rfl ?_
  have h4 : ∀ (g : Nat) (l1 l2 l3 : Int) (M : oM), okp (iter (p_M_getsAll_L4 f l1) g (l2, l3, M)) K → oJ l m_M_getsAll (oEf 3 K) 0 0 4 [vr 57, vi l1, vi l2, vi l3] [] WD M := by
    intro g l1 l2 l3 M H
    have HL := fun hs => iter_J' (Jh := fun s => oJ l m_M_getsAll (oEf 3 K) 0 0 4 [vr 57, vi l1, vi s.1, vi s.2.1] [] WD s.2.2) (G := K) hs g (l2, l3, M) H
    refine HL ?_
    intro K4 s i4 e4 H
    obtain ⟨l2, l3, M⟩ := s
    show oJ l m_M_getsAll (oEf 3 K) 0 0 4 [vr 57, vi l1, vi l2, vi l3] [] WD M
    refine oj_ld3 (pc := 4) (by decide +kernel) ?_
    refine oj_bipush (pc := 5) (v := 10) ⟨by decide, by decide⟩ (by decide +kernel) ?_
    refine oj_icmp_ge (pc := 7) (off := 18) (tgt := 25) (by decide +kernel) (by decide) H (fun _ H => ?_) (fun _ H => ?_)
    · refine oj_ld2 (pc := 25) (by decide +kernel) ?_
      have H := e4 _ H
      exact oj_iret (pc := 26) (by decide +kernel) rfl rfl (Nat.le_refl _) (Nat.le_refl _) ⟨rfl, H⟩
    · refine oj_ld2 (pc := 10) (by decide +kernel) ?_
      refine oj_ald0 (pc := 11) (by decide +kernel) ?_
      refine oj_ld3 (pc := 12) (by decide +kernel) ?_
      refine oj_ld1 (pc := 13) (by decide +kernel) ?_
      refine of_Vi (pc := 14) (as := [_, _]) v_M_147 o_57 rfl rfl (Nat.le_of_ble_eq_true rfl) (by decide +kernel) (by decide) rfl (c_M_debtOf_0 (okp_bind H)) (fun r M H => ?_)
      refine oj_iadd (pc := 17) (by decide +kernel) ?_
      refine oj_st2 (pc := 18) (by decide +kernel) (by decide +kernel) ?_
      have H := okp_lt H
      refine oj_inc3 (pc := 19) (d := 1) (by decide +kernel) (by decide +kernel) ?_
      have H := okp_lt H
      refine oj_goto (pc := 22) (off := -18) (tgt := 4) (by decide +kernel) (by decide) ?_
      have H := i4 _ H
      exact H
  refine oj_iconst (pc := 0) (v := 0) ⟨by decide, by decide⟩ (by decide +kernel) ?_
  refine oj_st2 (pc := 1) (by decide +kernel) (by decide +kernel) ?_
  refine oj_iconst (pc := 2) (v := 0) ⟨by decide, by decide⟩ (by decide +kernel) ?_
  refine oj_st3 (pc := 3) (by decide +kernel) (by decide +kernel) ?_
  exact h4 _ _ _ _ _ H
theorem c_M_personIs_0 {l : Launch} {f : Nat} {l1 l2 : Int} {M : oM} {K : Int × oM → Prop} (H : okp (p_M_personIs f l1 l2 M) K) : oKf l m_M_personIs 4 [vr 57, vi l1, vi l2] M K := by
  refine oK_intro (lv := [vr 57, vi l1, vi l2]) (by decide +kernel) (Nat.le_of_ble_eq_true rfl) rfl ?_
  refine oj_ald0 (pc := 0) (by decide +kernel) ?_
  refine oj_ld1 (pc := 1) (by decide +kernel) ?_
  refine of_Vi (pc := 2) (as := [_]) v_M_135 o_57 rfl rfl (Nat.le_of_ble_eq_true rfl) (by decide +kernel) (by decide) rfl (c_M_isPerson_0 (okp_bind H)) (fun r M H => ?_)
  refine oj_if_ne (pc := 5) (off := 5) (tgt := 10) (by decide +kernel) (by decide) H (fun _ H => ?_) (fun _ H => ?_)
  · refine oj_ld2 (pc := 10) (by decide +kernel) ?_
    refine oj_case (c := _ = 0) H (fun c0 H => ?_) (fun c0 H => ?_)
    · refine oj_tin (pc := 11) (dflt := 79) (lo := 0) (hi := 5) (offs := #[37, 44, 51, 57, 63, 73]) (len := 37) (off := 37) (tgt := 48) 0 c0 (by decide +kernel) ⟨by decide, by decide⟩ (by decide +kernel) (by decide) ?_
      refine oj_ald0 (pc := 48) (by decide +kernel) ?_
      refine oj_getR' (pc := 49) f_M_19 s_57_3 (by decide +kernel) ?_
      refine oj_ld1 (pc := 52) (by decide +kernel) ?_
      refine oj_iald (pc := 53) (NN := 10) a_61 rfl (by decide +kernel) H (fun H => ?_)
      exact oj_iret (pc := 54) (by decide +kernel) rfl rfl (Nat.le_refl _) (Nat.le_refl _) ⟨rfl, H⟩
    refine oj_case (c := _ = 1) H (fun c1 H => ?_) (fun c1 H => ?_)
    · refine oj_tin (pc := 11) (dflt := 79) (lo := 0) (hi := 5) (offs := #[37, 44, 51, 57, 63, 73]) (len := 37) (off := 44) (tgt := 55) 1 c1 (by decide +kernel) ⟨by decide, by decide⟩ (by decide +kernel) (by decide) ?_
      refine oj_ald0 (pc := 55) (by decide +kernel) ?_
      refine oj_getR' (pc := 56) f_M_22 s_57_4 (by decide +kernel) ?_
      refine oj_ld1 (pc := 59) (by decide +kernel) ?_
      refine oj_iald (pc := 60) (NN := 10) a_62 rfl (by decide +kernel) H (fun H => ?_)
      exact oj_iret (pc := 61) (by decide +kernel) rfl rfl (Nat.le_refl _) (Nat.le_refl _) ⟨rfl, H⟩
    refine oj_case (c := _ = 2) H (fun c2 H => ?_) (fun c2 H => ?_)
    · refine oj_tin (pc := 11) (dflt := 79) (lo := 0) (hi := 5) (offs := #[37, 44, 51, 57, 63, 73]) (len := 37) (off := 51) (tgt := 62) 2 c2 (by decide +kernel) ⟨by decide, by decide⟩ (by decide +kernel) (by decide) ?_
      refine oj_ald0 (pc := 62) (by decide +kernel) ?_
      refine oj_ld1 (pc := 63) (by decide +kernel) ?_
      refine of_Vi (pc := 64) (as := [_]) v_M_150 o_57 rfl rfl (Nat.le_of_ble_eq_true rfl) (by decide +kernel) (by decide) rfl (c_M_owesAll_0 (okp_bind H)) (fun r M H => ?_)
      exact oj_iret (pc := 67) (by decide +kernel) rfl rfl (Nat.le_refl _) (Nat.le_refl _) ⟨rfl, H⟩
    refine oj_case (c := _ = 3) H (fun c3 H => ?_) (fun c3 H => ?_)
    · refine oj_tin (pc := 11) (dflt := 79) (lo := 0) (hi := 5) (offs := #[37, 44, 51, 57, 63, 73]) (len := 37) (off := 57) (tgt := 68) 3 c3 (by decide +kernel) ⟨by decide, by decide⟩ (by decide +kernel) (by decide) ?_
      refine oj_ald0 (pc := 68) (by decide +kernel) ?_
      refine oj_ld1 (pc := 69) (by decide +kernel) ?_
      refine of_Vi (pc := 70) (as := [_]) v_M_349 o_57 rfl rfl (Nat.le_of_ble_eq_true rfl) (by decide +kernel) (by decide) rfl (c_M_getsAll_0 (okp_bind H)) (fun r M H => ?_)
      exact oj_iret (pc := 73) (by decide +kernel) rfl rfl (Nat.le_refl _) (Nat.le_refl _) ⟨rfl, H⟩
    refine oj_case (c := _ = 4) H (fun c4 H => ?_) (fun c4 H => ?_)
    · refine oj_tin (pc := 11) (dflt := 79) (lo := 0) (hi := 5) (offs := #[37, 44, 51, 57, 63, 73]) (len := 37) (off := 63) (tgt := 74) 4 c4 (by decide +kernel) ⟨by decide, by decide⟩ (by decide +kernel) (by decide) ?_
      refine oj_ald0 (pc := 74) (by decide +kernel) ?_
      refine oj_getR' (pc := 75) f_M_7 s_57_0 (by decide +kernel) ?_
      refine oj_bipush (pc := 78) (v := 100) ⟨by decide, by decide⟩ (by decide +kernel) ?_
      refine oj_ld1 (pc := 80) (by decide +kernel) ?_
      refine oj_iadd (pc := 81) (by decide +kernel) ?_
      refine oj_iald (pc := 82) (NN := 159) a_58 rfl (by decide +kernel) H (fun H => ?_)
      exact oj_iret (pc := 83) (by decide +kernel) rfl rfl (Nat.le_refl _) (Nat.le_refl _) ⟨rfl, H⟩
    refine oj_case (c := _ = 5) H (fun c5 H => ?_) (fun c5 H => ?_)
    · refine oj_tin (pc := 11) (dflt := 79) (lo := 0) (hi := 5) (offs := #[37, 44, 51, 57, 63, 73]) (len := 37) (off := 73) (tgt := 84) 5 c5 (by decide +kernel) ⟨by decide, by decide⟩ (by decide +kernel) (by decide) ?_
      refine oj_ald0 (pc := 84) (by decide +kernel) ?_
      refine oj_ld1 (pc := 85) (by decide +kernel) ?_
      refine of_Vi (pc := 86) (as := [_]) v_M_271 o_57 rfl rfl (Nat.le_of_ble_eq_true rfl) (by decide +kernel) (by decide) rfl (c_M_chalksOf_0 (okp_bind H)) (fun r M H => ?_)
      exact oj_iret (pc := 89) (by decide +kernel) rfl rfl (Nat.le_refl _) (Nat.le_refl _) ⟨rfl, H⟩
    refine oj_tout (pc := 11) (dflt := 79) (lo := 0) (hi := 5) (offs := #[37, 44, 51, 57, 63, 73]) (len := 37) (tgt := 90) (by decide +kernel) (by omega) (by decide) ?_
    refine oj_iconst (pc := 90) (v := -1) ⟨by decide, by decide⟩ (by decide +kernel) ?_
    exact oj_iret (pc := 91) (by decide +kernel) rfl rfl (Nat.le_refl _) (Nat.le_refl _) ⟨rfl, H⟩
  · refine oj_iconst (pc := 8) (v := -1) ⟨by decide, by decide⟩ (by decide +kernel) ?_
    exact oj_iret (pc := 9) (by decide +kernel) rfl rfl (Nat.le_refl _) (Nat.le_refl _) ⟨rfl, H⟩
theorem c_M_owes_0 {l : Launch} {f : Nat} {l1 l2 : Int} {M : oM} {K : Int × oM → Prop} (H : okp (p_M_owes f l1 l2 M) K) : oKf l m_M_owes 5 [vr 57, vi l1, vi l2] M K := by
  refine oK_intro (lv := [vr 57, vi l1, vi l2]) (by decide +kernel) (Nat.le_of_ble_eq_true rfl) rfl ?_
  refine oj_ald0 (pc := 0) (by decide +kernel) ?_
  refine oj_ld1 (pc := 1) (by decide +kernel) ?_
  refine oj_ld2 (pc := 2) (by decide +kernel) ?_
  refine of_Vi (pc := 3) (as := [_, _]) v_M_153 o_57 rfl rfl (Nat.le_of_ble_eq_true rfl) (by decide +kernel) (by decide) rfl (c_M_areTwo_0 (okp_bind H)) (fun r M H => ?_)
  refine oj_if_eq (pc := 6) (off := 12) (tgt := 18) (by decide +kernel) (by decide) H (fun _ H => ?_) (fun _ H => ?_)
  · refine oj_iconst (pc := 18) (v := -1) ⟨by decide, by decide⟩ (by decide +kernel) ?_
    exact oj_iret (pc := 19) (by decide +kernel) rfl rfl (Nat.le_refl _) (Nat.le_refl _) ⟨rfl, H⟩
  · refine oj_ald0 (pc := 9) (by decide +kernel) ?_
    refine oj_ld1 (pc := 10) (by decide +kernel) ?_
    refine oj_ld2 (pc := 11) (by decide +kernel) ?_
    refine of_Vi (pc := 12) (as := [_, _]) v_M_147 o_57 rfl rfl (Nat.le_of_ble_eq_true rfl) (by decide +kernel) (by decide) rfl (c_M_debtOf_0 (okp_bind H)) (fun r M H => ?_)
    refine oj_goto (pc := 15) (off := 4) (tgt := 19) (by decide +kernel) (by decide) ?_
    exact oj_iret (pc := 19) (by decide +kernel) rfl rfl (Nat.le_refl _) (Nat.le_refl _) ⟨rfl, H⟩
theorem c_M_likes_0 {l : Launch} {f : Nat} {l1 l2 : Int} {M : oM} {K : Int × oM → Prop} (H : okp (p_M_likes f l1 l2 M) K) : oKf l m_M_likes 6 [vr 57, vi l1, vi l2] M K := by
  refine oK_intro (lv := [vr 57, vi l1, vi l2]) (by decide +kernel) (Nat.le_of_ble_eq_true rfl) rfl ?_
  refine oj_ald0 (pc := 0) (by decide +kernel) ?_
  refine oj_ld1 (pc := 1) (by decide +kernel) ?_
  refine oj_ld2 (pc := 2) (by decide +kernel) ?_
  refine of_Vi (pc := 3) (as := [_, _]) v_M_153 o_57 rfl rfl (Nat.le_of_ble_eq_true rfl) (by decide +kernel) (by decide) rfl (c_M_areTwo_0 (okp_bind H)) (fun r M H => ?_)
  refine oj_if_eq (pc := 6) (off := 12) (tgt := 18) (by decide +kernel) (by decide) H (fun _ H => ?_) (fun _ H => ?_)
  · refine oj_iconst (pc := 18) (v := -1) ⟨by decide, by decide⟩ (by decide +kernel) ?_
    exact oj_iret (pc := 19) (by decide +kernel) rfl rfl (Nat.le_refl _) (Nat.le_refl _) ⟨rfl, H⟩
  · refine oj_ald0 (pc := 9) (by decide +kernel) ?_
    refine oj_ld1 (pc := 10) (by decide +kernel) ?_
    refine oj_ld2 (pc := 11) (by decide +kernel) ?_
    refine of_Vi (pc := 12) (as := [_, _]) v_M_312 o_57 rfl rfl (Nat.le_of_ble_eq_true rfl) (by decide +kernel) (by decide) rfl (c_M_likesBy_0 (okp_bind H)) (fun r M H => ?_)
    refine oj_goto (pc := 15) (off := 4) (tgt := 19) (by decide +kernel) (by decide) ?_
    exact oj_iret (pc := 19) (by decide +kernel) rfl rfl (Nat.le_refl _) (Nat.le_refl _) ⟨rfl, H⟩
theorem c_M_readsTimes_0 {l : Launch} {f : Nat} {M : oM} {K : Int × oM → Prop} (H : okp (p_M_readsTimes f M) K) : oKf l m_M_readsTimes 3 [vr 57] M K := by
  refine oK_intro (lv := [vr 57]) (by decide +kernel) (Nat.le_of_ble_eq_true rfl) rfl ?_
  refine oj_ald0 (pc := 0) (by decide +kernel) ?_
  refine oj_ald0 (pc := 1) (by decide +kernel) ?_
  refine oj_getI' (pc := 2) (ki := 8) f_M_166 s_57_8 rfl (by decide +kernel) ?_
  refine oj_putI' (pc := 5) (ki := 42) f_M_355 s_57_42 rfl (by decide +kernel) ?_
  have H := okp_lt H
  refine oj_ald0 (pc := 8) (by decide +kernel) ?_
  refine oj_iconst (pc := 9) (v := 1) ⟨by decide, by decide⟩ (by decide +kernel) ?_
  refine oj_putI' (pc := 10) (ki := 43) f_M_358 s_57_43 rfl (by decide +kernel) ?_
  have H := okp_lt H
  refine oj_ald0 (pc := 13) (by decide +kernel) ?_
  refine of_Vi (pc := 14) (as := []) v_M_172 o_57 rfl rfl (Nat.le_of_ble_eq_true rfl) (by decide +kernel) (by decide) rfl (c_M_here_0 (okp_bind H)) (fun r M H => ?_)
  refine oj_bipush (pc := 17) (v := 50) ⟨by decide, by decide⟩ (by decide +kernel) ?_
  refine oj_bipush (pc := 19) (v := 57) ⟨by decide, by decide⟩ (by decide +kernel) ?_
  refine of_Si (pc := 21) (as := [_, _, _]) v_M_123 rfl rfl (Nat.le_of_ble_eq_true rfl) (by decide +kernel) (by decide) rfl (c_M_in_0 (okp_bind H)) (fun r M H => ?_)
  refine oj_if_ne (pc := 24) (off := 4) (tgt := 28) (by decide +kernel) (by decide) H (fun _ H => ?_) (fun _ H => ?_)
  · refine oj_ald0 (pc := 28) (by decide +kernel) ?_
    refine oj_ald0 (pc := 29) (by decide +kernel) ?_
    refine of_Vi (pc := 30) (as := []) v_M_172 o_57 rfl rfl (Nat.le_of_ble_eq_true rfl) (by decide +kernel) (by decide) rfl (c_M_here_0 (okp_bind H)) (fun r M H => ?_)
    refine oj_bipush (pc := 33) (v := 48) ⟨by decide, by decide⟩ (by decide +kernel) ?_
    refine oj_isub (pc := 35) (by decide +kernel) ?_
    refine oj_putI' (pc := 36) (ki := 43) f_M_358 s_57_43 rfl (by decide +kernel) ?_
    have H := okp_lt H
    refine oj_ald0 (pc := 39) (by decide +kernel) ?_
    refine oj_ald0 (pc := 40) (by decide +kernel) ?_
    refine oj_getI' (pc := 41) (ki := 8) f_M_166 s_57_8 rfl (by decide +kernel) ?_
    refine oj_iconst (pc := 44) (v := 1) ⟨by decide, by decide⟩ (by decide +kernel) ?_
    refine oj_iadd (pc := 45) (by decide +kernel) ?_
    refine oj_putI' (pc := 46) (ki := 8) f_M_166 s_57_8 rfl (by decide +kernel) ?_
    have H := okp_lt H
    exact oj_vret (pc := 49) (by decide +kernel) rfl (Nat.le_refl _) (Nat.le_refl _) ⟨rfl, H⟩
  · exact oj_vret (pc := 27) (by decide +kernel) rfl (Nat.le_refl _) (Nat.le_refl _) ⟨rfl, H⟩
theorem c_M_repeats_0 {l : Launch} {f : Nat} {l1 l2 l3 : Int} {M : oM} {K : Int × oM → Prop} (H : okp (p_M_repeats f l1 l2 l3 M) K) : oKf l m_M_repeats 3 [vr 57, vi l1, vi l2, vi l3] M K := by
  refine oK_intro (lv := [vr 57, vi l1, vi l2, vi l3, vu, vu]) (by decide +kernel) (Nat.le_of_ble_eq_true rfl) rfl ?_
  have h31 : ∀ (g : Nat) (l1 l2 l4 l5 : Int) (M : oM), okp (iter (p_M_repeats_L31 f l1 l2 l4) g (l5, M)) K → oJ l m_M_repeats (oEf 3 K) 0 0 31 [vr 57, vi l1, vi l2, vu, vi l4, vi l5] [] WD M := by
    intro g l1 l2 l4 l5 M H
    have HL := fun hs => iter_J' (Jh := fun s => oJ l m_M_repeats (oEf 3 K) 0 0 31 [vr 57, vi l1, vi l2, vu, vi l4, vi s.1] [] WD s.2) (G := K) hs g (l5, M) H
    refine HL ?_
    intro K31 s i31 e31 H
    obtain ⟨l5, M⟩ := s
    show oJ l m_M_repeats (oEf 3 K) 0 0 31 [vr 57, vi l1, vi l2, vu, vi l4, vi l5] [] WD M
    refine oj_ld5 (pc := 31) (by decide +kernel) ?_
    refine oj_ld4 (pc := 33) (by decide +kernel) ?_
    refine oj_ld2 (pc := 35) (by decide +kernel) ?_
    refine oj_imul (pc := 36) (by decide +kernel) ?_
    refine oj_icmp_ge (pc := 37) (off := 30) (tgt := 67) (by decide +kernel) (by decide) H (fun _ H => ?_) (fun _ H => ?_)
    · refine oj_ald0 (pc := 67) (by decide +kernel) ?_
      refine oj_ld1 (pc := 68) (by decide +kernel) ?_
      refine oj_ld4 (pc := 69) (by decide +kernel) ?_
      refine oj_ld2 (pc := 71) (by decide +kernel) ?_
      refine oj_imul (pc := 72) (by decide +kernel) ?_
      refine oj_iadd (pc := 73) (by decide +kernel) ?_
      refine oj_putI' (pc := 74) (ki := 40) f_M_352 s_57_40 rfl (by decide +kernel) ?_
      have H := okp_lt H
      refine oj_iconst (pc := 77) (v := 1) ⟨by decide, by decide⟩ (by decide +kernel) ?_
      have H := e31 _ H
      exact oj_iret (pc := 78) (by decide +kernel) rfl rfl (Nat.le_refl _) (Nat.le_refl _) ⟨rfl, H⟩
    · refine oj_ald0 (pc := 40) (by decide +kernel) ?_
      refine oj_getR' (pc := 41) f_M_71 s_57_36 (by decide +kernel) ?_
      refine oj_ld1 (pc := 44) (by decide +kernel) ?_
      refine oj_ld5 (pc := 45) (by decide +kernel) ?_
      refine oj_iadd (pc := 47) (by decide +kernel) ?_
      refine oj_ald0 (pc := 48) (by decide +kernel) ?_
      refine oj_getR' (pc := 49) f_M_71 s_57_36 (by decide +kernel) ?_
      refine oj_ld1 (pc := 52) (by decide +kernel) ?_
      refine oj_ld5 (pc := 53) (by decide +kernel) ?_
      refine oj_iadd (pc := 55) (by decide +kernel) ?_
      refine oj_ld4 (pc := 56) (by decide +kernel) ?_
      refine oj_isub (pc := 58) (by decide +kernel) ?_
      refine oj_iald (pc := 59) (NN := 60) a_78 rfl (by decide +kernel) H (fun H => ?_)
      refine oj_iast (pc := 60) (NN := 60) a_78 rfl (by decide +kernel) H (fun H => ?_)
      have H := okp_lt H
      refine oj_inc5 (pc := 61) (d := 1) (by decide +kernel) (by decide +kernel) ?_
      have H := okp_lt H
      refine oj_goto (pc := 64) (off := -33) (tgt := 31) (by decide +kernel) (by decide) ?_
      have H := i31 _ H
      exact H
  refine oj_ald0 (pc := 0) (by decide +kernel) ?_
  refine oj_getI' (pc := 1) (ki := 40) f_M_352 s_57_40 rfl (by decide +kernel) ?_
  refine oj_ld1 (pc := 4) (by decide +kernel) ?_
  refine oj_isub (pc := 5) (by decide +kernel) ?_
  refine oj_st4 (pc := 6) (by decide +kernel) (by decide +kernel) ?_
  have H := okp_lt H
  refine oj_ld1 (pc := 8) (by decide +kernel) ?_
  refine oj_ld4 (pc := 9) (by decide +kernel) ?_
  refine oj_ld2 (pc := 11) (by decide +kernel) ?_
  refine oj_imul (pc := 12) (by decide +kernel) ?_
  refine oj_iadd (pc := 13) (by decide +kernel) ?_
  refine oj_bipush (pc := 14) (v := 60) ⟨by decide, by decide⟩ (by decide +kernel) ?_
  refine oj_icmp_le (pc := 16) (off := 11) (tgt := 27) (by decide +kernel) (by decide) H (fun _ H => ?_) (fun _ H => ?_)
  · refine oj_ld4 (pc := 27) (by decide +kernel) ?_
    refine oj_st5 (pc := 29) (by decide +kernel) (by decide +kernel) ?_
    refine oj_le (lv' := [_, _, _, vu, _, _]) ⟨Or.inr rfl, Or.inr rfl, Or.inr rfl, Or.inl rfl, Or.inr rfl, Or.inr rfl, trivial⟩ ?_
    exact h31 _ _ _ _ _ _ H
  · refine oj_ald0 (pc := 19) (by decide +kernel) ?_
    refine oj_bipush (pc := 20) (v := 6) ⟨by decide, by decide⟩ (by decide +kernel) ?_
    refine oj_ld3 (pc := 22) (by decide +kernel) ?_
    refine of_Vi (pc := 23) (as := [_, _]) v_M_179 o_57 rfl rfl (Nat.le_of_ble_eq_true rfl) (by decide +kernel) (by decide) rfl (c_M_wrongAt_0 (okp_bind H)) (fun r M H => ?_)
    exact oj_zret (pc := 26) (by decide +kernel) rfl (Nat.le_refl _) (Nat.le_refl _) H (fun H => ⟨rfl, H⟩)
theorem c_M_readsItem_0 {l : Launch} {f : Nat} {M : oM} {K : Int × oM → Prop} (H : okp (p_M_readsItem f M) K) : oKf l m_M_readsItem 4 [vr 57] M K := by
  refine oK_intro (lv := [vr 57, vu, vu]) (by decide +kernel) (Nat.le_of_ble_eq_true rfl) rfl ?_
  have h203 : ∀ (g : Nat) (M : oM), okp (iter (p_M_readsItem_L203 f) g M) K → oJ l m_M_readsItem (oEf 4 K) 0 0 203 [vr 57, vu, vu] [] WD M := by
    intro g  M H
    have HL := fun hs => iter_J' (Jh := fun s => oJ l m_M_readsItem (oEf 4 K) 0 0 203 [vr 57, vu, vu] [] WD s) (G := K) hs g M H
    refine HL ?_
    intro K203 M i203 e203 H
    show oJ l m_M_readsItem (oEf 4 K) 0 0 203 [vr 57, vu, vu] [] WD M
    unfold p_M_readsItem_L203 at H
    refine oj_ald0 (pc := 203) (by decide +kernel) ?_
    refine of_Vi (pc := 204) (as := []) v_M_172 o_57 rfl rfl (Nat.le_of_ble_eq_true rfl) (by decide +kernel) (by decide) rfl (c_M_here_0 (okp_bind H)) (fun r M H => ?_)
    refine oj_bipush (pc := 207) (v := 41) ⟨by decide, by decide⟩ (by decide +kernel) ?_
    refine oj_icmp_ne (pc := 209) (off := 66) (tgt := 275) (by decide +kernel) (by decide) H (fun _ H => ?_) (fun _ H => ?_)
    · refine oj_iconst (pc := 275) (v := 1) ⟨by decide, by decide⟩ (by decide +kernel) ?_
      have H := e203 _ H
      exact oj_iret (pc := 276) (by decide +kernel) rfl rfl (Nat.le_refl _) (Nat.le_refl _) ⟨rfl, H⟩
    · refine oj_ald0 (pc := 212) (by decide +kernel) ?_
      refine oj_getI' (pc := 213) (ki := 41) f_M_364 s_57_41 rfl (by decide +kernel) ?_
      refine oj_if_le (pc := 216) (off := 59) (tgt := 275) (by decide +kernel) (by decide) H (fun _ H => ?_) (fun _ H => ?_)
      · refine oj_iconst (pc := 275) (v := 1) ⟨by decide, by decide⟩ (by decide +kernel) ?_
        have H := e203 _ H
        exact oj_iret (pc := 276) (by decide +kernel) rfl rfl (Nat.le_refl _) (Nat.le_refl _) ⟨rfl, H⟩
      · refine oj_ald0 (pc := 219) (by decide +kernel) ?_
        refine oj_ald0 (pc := 220) (by decide +kernel) ?_
        refine oj_getI' (pc := 221) (ki := 8) f_M_166 s_57_8 rfl (by decide +kernel) ?_
        refine oj_iconst (pc := 224) (v := 1) ⟨by decide, by decide⟩ (by decide +kernel) ?_
        refine oj_iadd (pc := 225) (by decide +kernel) ?_
        refine oj_putI' (pc := 226) (ki := 8) f_M_166 s_57_8 rfl (by decide +kernel) ?_
        have H := okp_lt H
        refine oj_ald0 (pc := 229) (by decide +kernel) ?_
        refine oj_ald0 (pc := 230) (by decide +kernel) ?_
        refine oj_getI' (pc := 231) (ki := 41) f_M_364 s_57_41 rfl (by decide +kernel) ?_
        refine oj_iconst (pc := 234) (v := 1) ⟨by decide, by decide⟩ (by decide +kernel) ?_
        refine oj_isub (pc := 235) (by decide +kernel) ?_
        refine oj_putI' (pc := 236) (ki := 41) f_M_364 s_57_41 rfl (by decide +kernel) ?_
        have H := okp_lt H
        refine oj_ald0 (pc := 239) (by decide +kernel) ?_
        refine oj_ald0 (pc := 240) (by decide +kernel) ?_
        refine oj_getR' (pc := 241) f_M_77 s_57_38 (by decide +kernel) ?_
        refine oj_ald0 (pc := 244) (by decide +kernel) ?_
        refine oj_getI' (pc := 245) (ki := 41) f_M_364 s_57_41 rfl (by decide +kernel) ?_
        refine oj_iald (pc := 248) (NN := 2) a_80 rfl (by decide +kernel) H (fun H => ?_)
        refine oj_ald0 (pc := 249) (by decide +kernel) ?_
        refine oj_getR' (pc := 250) f_M_80 s_57_39 (by decide +kernel) ?_
        refine oj_ald0 (pc := 253) (by decide +kernel) ?_
        refine oj_getI' (pc := 254) (ki := 41) f_M_364 s_57_41 rfl (by decide +kernel) ?_
        refine oj_iald (pc := 257) (NN := 2) a_81 rfl (by decide +kernel) H (fun H => ?_)
        refine oj_ald0 (pc := 258) (by decide +kernel) ?_
        refine oj_getR' (pc := 259) f_M_74 s_57_37 (by decide +kernel) ?_
        refine oj_ald0 (pc := 262) (by decide +kernel) ?_
        refine oj_getI' (pc := 263) (ki := 41) f_M_364 s_57_41 rfl (by decide +kernel) ?_
        refine oj_iald (pc := 266) (NN := 2) a_79 rfl (by decide +kernel) H (fun H => ?_)
        refine of_Vi (pc := 267) (as := [_, _, _]) v_M_367 o_57 rfl rfl (Nat.le_of_ble_eq_true rfl) (by decide +kernel) (by decide) rfl (c_M_repeats_0 (okp_bind H)) (fun r M H => ?_)
        refine oj_if_ne (pc := 270) (off := -67) (tgt := 203) (by decide +kernel) (by decide) H (fun _ H => ?_) (fun _ H => ?_)
        · have H := i203 _ H
          exact H
        · refine oj_iconst (pc := 273) (v := 0) ⟨by decide, by decide⟩ (by decide +kernel) ?_
          have H := e203 _ H
          exact oj_iret (pc := 274) (by decide +kernel) rfl rfl (Nat.le_refl _) (Nat.le_refl _) ⟨rfl, H⟩
  have x4 : ∀ (M : oM), okp (p_M_readsItem_X4 f (.inr M)) K → oJ l m_M_readsItem (oEf 4 K) 0 0 97 [vr 57, vu, vu] [] WD M := by
    intro  M H
    unfold p_M_readsItem_X4 at H
    refine oj_ald0 (pc := 97) (by decide +kernel) ?_
    refine oj_getI' (pc := 98) (ki := 42) f_M_355 s_57_42 rfl (by decide +kernel) ?_
    refine oj_st1 (pc := 101) (by decide +kernel) (by decide +kernel) ?_
    have H := okp_lt H
    refine oj_ald0 (pc := 102) (by decide +kernel) ?_
    refine oj_getI' (pc := 103) (ki := 43) f_M_358 s_57_43 rfl (by decide +kernel) ?_
    refine oj_st2 (pc := 106) (by decide +kernel) (by decide +kernel) ?_
    have H := okp_lt H
    refine oj_ald0 (pc := 107) (by decide +kernel) ?_
    refine of_Vi (pc := 108) (as := []) v_M_172 o_57 rfl rfl (Nat.le_of_ble_eq_true rfl) (by decide +kernel) (by decide) rfl (c_M_here_0 (okp_bind H)) (fun r M H => ?_)
    refine oj_bipush (pc := 111) (v := 97) ⟨by decide, by decide⟩ (by decide +kernel) ?_
    refine oj_bipush (pc := 113) (v := 106) ⟨by decide, by decide⟩ (by decide +kernel) ?_
    refine of_Si (pc := 115) (as := [_, _, _]) v_M_123 rfl rfl (Nat.le_of_ble_eq_true rfl) (by decide +kernel) (by decide) rfl (c_M_in_0 (okp_bind H)) (fun r M H => ?_)
    refine oj_if_ne (pc := 118) (off := 13) (tgt := 131) (by decide +kernel) (by decide) H (fun _ H => ?_) (fun _ H => ?_)
    · refine oj_ald0 (pc := 131) (by decide +kernel) ?_
      refine oj_getI' (pc := 132) (ki := 40) f_M_352 s_57_40 rfl (by decide +kernel) ?_
      refine oj_ld2 (pc := 135) (by decide +kernel) ?_
      refine oj_iadd (pc := 136) (by decide +kernel) ?_
      refine oj_bipush (pc := 137) (v := 60) ⟨by decide, by decide⟩ (by decide +kernel) ?_
      refine oj_icmp_le (pc := 139) (off := 11) (tgt := 150) (by decide +kernel) (by decide) H (fun _ H => ?_) (fun _ H => ?_)
      · refine oj_ald0 (pc := 150) (by decide +kernel) ?_
        refine oj_getR' (pc := 151) f_M_71 s_57_36 (by decide +kernel) ?_
        refine oj_ald0 (pc := 154) (by decide +kernel) ?_
        refine oj_getI' (pc := 155) (ki := 40) f_M_352 s_57_40 rfl (by decide +kernel) ?_
        refine oj_ald0 (pc := 158) (by decide +kernel) ?_
        refine of_Vi (pc := 159) (as := []) v_M_172 o_57 rfl rfl (Nat.le_of_ble_eq_true rfl) (by decide +kernel) (by decide) rfl (c_M_here_0 (okp_bind H)) (fun r M H => ?_)
        refine oj_bipush (pc := 162) (v := 97) ⟨by decide, by decide⟩ (by decide +kernel) ?_
        refine oj_isub (pc := 164) (by decide +kernel) ?_
        refine oj_iast (pc := 165) (NN := 60) a_78 rfl (by decide +kernel) H (fun H => ?_)
        have H := okp_lt H
        refine oj_ald0 (pc := 166) (by decide +kernel) ?_
        refine oj_ald0 (pc := 167) (by decide +kernel) ?_
        refine oj_getI' (pc := 168) (ki := 40) f_M_352 s_57_40 rfl (by decide +kernel) ?_
        refine oj_iconst (pc := 171) (v := 1) ⟨by decide, by decide⟩ (by decide +kernel) ?_
        refine oj_iadd (pc := 172) (by decide +kernel) ?_
        refine oj_putI' (pc := 173) (ki := 40) f_M_352 s_57_40 rfl (by decide +kernel) ?_
        have H := okp_lt H
        refine oj_ald0 (pc := 176) (by decide +kernel) ?_
        refine oj_ald0 (pc := 177) (by decide +kernel) ?_
        refine oj_getI' (pc := 178) (ki := 8) f_M_166 s_57_8 rfl (by decide +kernel) ?_
        refine oj_iconst (pc := 181) (v := 1) ⟨by decide, by decide⟩ (by decide +kernel) ?_
        refine oj_iadd (pc := 182) (by decide +kernel) ?_
        refine oj_putI' (pc := 183) (ki := 8) f_M_166 s_57_8 rfl (by decide +kernel) ?_
        have H := okp_lt H
        refine oj_ald0 (pc := 186) (by decide +kernel) ?_
        refine oj_ald0 (pc := 187) (by decide +kernel) ?_
        refine oj_getI' (pc := 188) (ki := 40) f_M_352 s_57_40 rfl (by decide +kernel) ?_
        refine oj_iconst (pc := 191) (v := 1) ⟨by decide, by decide⟩ (by decide +kernel) ?_
        refine oj_isub (pc := 192) (by decide +kernel) ?_
        refine oj_ld2 (pc := 193) (by decide +kernel) ?_
        refine oj_ld1 (pc := 194) (by decide +kernel) ?_
        refine of_Vi (pc := 195) (as := [_, _, _]) v_M_367 o_57 rfl rfl (Nat.le_of_ble_eq_true rfl) (by decide +kernel) (by decide) rfl (c_M_repeats_0 (okp_bind H)) (fun r M H => ?_)
        refine oj_if_ne (pc := 198) (off := 5) (tgt := 203) (by decide +kernel) (by decide) H (fun _ H => ?_) (fun _ H => ?_)
        · refine oj_le (lv' := [_, vu, vu]) ⟨Or.inr rfl, Or.inl rfl, Or.inl rfl, trivial⟩ ?_
          exact h203 _  _ H
        · refine oj_iconst (pc := 201) (v := 0) ⟨by decide, by decide⟩ (by decide +kernel) ?_
          exact oj_iret (pc := 202) (by decide +kernel) rfl rfl (Nat.le_refl _) (Nat.le_refl _) ⟨rfl, H⟩
      · refine oj_ald0 (pc := 142) (by decide +kernel) ?_
        refine oj_bipush (pc := 143) (v := 6) ⟨by decide, by decide⟩ (by decide +kernel) ?_
        refine oj_ld1 (pc := 145) (by decide +kernel) ?_
        refine of_Vi (pc := 146) (as := [_, _]) v_M_179 o_57 rfl rfl (Nat.le_of_ble_eq_true rfl) (by decide +kernel) (by decide) rfl (c_M_wrongAt_0 (okp_bind H)) (fun r M H => ?_)
        exact oj_zret (pc := 149) (by decide +kernel) rfl (Nat.le_refl _) (Nat.le_refl _) H (fun H => ⟨rfl, H⟩)
    · refine oj_ald0 (pc := 121) (by decide +kernel) ?_
      refine oj_iconst (pc := 122) (v := 1) ⟨by decide, by decide⟩ (by decide +kernel) ?_
      refine oj_ald0 (pc := 123) (by decide +kernel) ?_
      refine oj_getI' (pc := 124) (ki := 8) f_M_166 s_57_8 rfl (by decide +kernel) ?_
      refine of_Vi (pc := 127) (as := [_, _]) v_M_179 o_57 rfl rfl (Nat.le_of_ble_eq_true rfl) (by decide +kernel) (by decide) rfl (c_M_wrongAt_0 (okp_bind H)) (fun r M H => ?_)
      exact oj_zret (pc := 130) (by decide +kernel) rfl (Nat.le_refl _) (Nat.le_refl _) H (fun H => ⟨rfl, H⟩)
  have h4 : ∀ (g : Nat) (M : oM), okp (iter (p_M_readsItem_L4 f) g M) (fun r => okp (p_M_readsItem_X4 f r) K) → oJ l m_M_readsItem (oEf 4 K) 0 0 4 [vr 57, vu, vu] [] WD M := by
    intro g  M H
    have HL := fun hs => iter_J' (Jh := fun s => oJ l m_M_readsItem (oEf 4 K) 0 0 4 [vr 57, vu, vu] [] WD s) (G := (fun r => okp (p_M_readsItem_X4 f r) K)) hs g M H
    refine HL ?_
    intro K4 M i4 e4 H
    show oJ l m_M_readsItem (oEf 4 K) 0 0 4 [vr 57, vu, vu] [] WD M
    unfold p_M_readsItem_L4 at H
    refine oj_ald0 (pc := 4) (by decide +kernel) ?_
    refine of_Vi (pc := 5) (as := []) v_M_172 o_57 rfl rfl (Nat.le_of_ble_eq_true rfl) (by decide +kernel) (by decide) rfl (c_M_here_0 (okp_bind H)) (fun r M H => ?_)
    refine oj_bipush (pc := 8) (v := 40) ⟨by decide, by decide⟩ (by decide +kernel) ?_
    refine oj_icmp_ne (pc := 10) (off := 87) (tgt := 97) (by decide +kernel) (by decide) H (fun _ H => ?_) (fun _ H => ?_)
    · have H := e4 _ H
      exact x4  _ H
    · refine oj_ald0 (pc := 13) (by decide +kernel) ?_
      refine oj_getI' (pc := 14) (ki := 41) f_M_364 s_57_41 rfl (by decide +kernel) ?_
      refine oj_iconst (pc := 17) (v := 2) ⟨by decide, by decide⟩ (by decide +kernel) ?_
      refine oj_icmp_ne (pc := 18) (off := 13) (tgt := 31) (by decide +kernel) (by decide) H (fun _ H => ?_) (fun _ H => ?_)
      · refine oj_ald0 (pc := 31) (by decide +kernel) ?_
        refine oj_getR' (pc := 32) f_M_74 s_57_37 (by decide +kernel) ?_
        refine oj_ald0 (pc := 35) (by decide +kernel) ?_
        refine oj_getI' (pc := 36) (ki := 41) f_M_364 s_57_41 rfl (by decide +kernel) ?_
        refine oj_ald0 (pc := 39) (by decide +kernel) ?_
        refine oj_getI' (pc := 40) (ki := 42) f_M_355 s_57_42 rfl (by decide +kernel) ?_
        refine oj_iast (pc := 43) (NN := 2) a_79 rfl (by decide +kernel) H (fun H => ?_)
        have H := okp_lt H
        refine oj_ald0 (pc := 44) (by decide +kernel) ?_
        refine oj_getR' (pc := 45) f_M_77 s_57_38 (by decide +kernel) ?_
        refine oj_ald0 (pc := 48) (by decide +kernel) ?_
        refine oj_getI' (pc := 49) (ki := 41) f_M_364 s_57_41 rfl (by decide +kernel) ?_
        refine oj_ald0 (pc := 52) (by decide +kernel) ?_
        refine oj_getI' (pc := 53) (ki := 40) f_M_352 s_57_40 rfl (by decide +kernel) ?_
        refine oj_iast (pc := 56) (NN := 2) a_80 rfl (by decide +kernel) H (fun H => ?_)
        have H := okp_lt H
        refine oj_ald0 (pc := 57) (by decide +kernel) ?_
        refine oj_getR' (pc := 58) f_M_80 s_57_39 (by decide +kernel) ?_
        refine oj_ald0 (pc := 61) (by decide +kernel) ?_
        refine oj_getI' (pc := 62) (ki := 41) f_M_364 s_57_41 rfl (by decide +kernel) ?_
        refine oj_ald0 (pc := 65) (by decide +kernel) ?_
        refine oj_getI' (pc := 66) (ki := 43) f_M_358 s_57_43 rfl (by decide +kernel) ?_
        refine oj_iast (pc := 69) (NN := 2) a_81 rfl (by decide +kernel) H (fun H => ?_)
        have H := okp_lt H
        refine oj_ald0 (pc := 70) (by decide +kernel) ?_
        refine oj_ald0 (pc := 71) (by decide +kernel) ?_
        refine oj_getI' (pc := 72) (ki := 41) f_M_364 s_57_41 rfl (by decide +kernel) ?_
        refine oj_iconst (pc := 75) (v := 1) ⟨by decide, by decide⟩ (by decide +kernel) ?_
        refine oj_iadd (pc := 76) (by decide +kernel) ?_
        refine oj_putI' (pc := 77) (ki := 41) f_M_364 s_57_41 rfl (by decide +kernel) ?_
        have H := okp_lt H
        refine oj_ald0 (pc := 80) (by decide +kernel) ?_
        refine oj_ald0 (pc := 81) (by decide +kernel) ?_
        refine oj_getI' (pc := 82) (ki := 8) f_M_166 s_57_8 rfl (by decide +kernel) ?_
        refine oj_iconst (pc := 85) (v := 1) ⟨by decide, by decide⟩ (by decide +kernel) ?_
        refine oj_iadd (pc := 86) (by decide +kernel) ?_
        refine oj_putI' (pc := 87) (ki := 8) f_M_166 s_57_8 rfl (by decide +kernel) ?_
        have H := okp_lt H
        refine oj_ald0 (pc := 90) (by decide +kernel) ?_
        refine of_Vv (pc := 91) (as := []) v_M_361 o_57 rfl rfl (Nat.le_of_ble_eq_true rfl) (by decide +kernel) (by decide) rfl (c_M_readsTimes_0 (okp_bind H)) (fun M H => ?_)
        refine oj_goto (pc := 94) (off := -90) (tgt := 4) (by decide +kernel) (by decide) ?_
        have H := i4 _ H
        exact H
      · refine oj_ald0 (pc := 21) (by decide +kernel) ?_
        refine oj_iconst (pc := 22) (v := 5) ⟨by decide, by decide⟩ (by decide +kernel) ?_
        refine oj_ald0 (pc := 23) (by decide +kernel) ?_
        refine oj_getI' (pc := 24) (ki := 8) f_M_166 s_57_8 rfl (by decide +kernel) ?_
        refine of_Vi (pc := 27) (as := [_, _]) v_M_179 o_57 rfl rfl (Nat.le_of_ble_eq_true rfl) (by decide +kernel) (by decide) rfl (c_M_wrongAt_0 (okp_bind H)) (fun r M H => ?_)
        refine oj_zret (pc := 30) (f := _) (K := _) (by decide +kernel) rfl (Nat.le_refl _) (Nat.le_refl _) H (fun H => ?_)
        have H := e4 _ H
        exact ⟨rfl, H⟩
  refine oj_ald0 (pc := 0) (by decide +kernel) ?_
  refine of_Vv (pc := 1) (as := []) v_M_361 o_57 rfl rfl (Nat.le_of_ble_eq_true rfl) (by decide +kernel) (by decide) rfl (c_M_readsTimes_0 (okp_bind H)) (fun M H => ?_)
  exact h4 _  _ (okp_bind H)
theorem c_M_readsRoute_0 {l : Launch} {f : Nat} {l1 : Int} {M : oM} {K : Int × oM → Prop} (H : okp (p_M_readsRoute f l1 M) K) : oKf l m_M_readsRoute 5 [vr 57, vi l1] M K := by
  refine oK_intro (lv := [vr 57, vi l1, vu]) (by decide +kernel) (Nat.le_of_ble_eq_true rfl) rfl ?_
  have h25 : ∀ (g : Nat) (l2 : Int) (M : oM), okp (iter (p_M_readsRoute_L25 f) g (l2, M)) K → oJ l m_M_readsRoute (oEf 5 K) 0 0 25 [vr 57, vu, vi l2] [] WD M := by
    intro g l2 M H
    have HL := fun hs => iter_J' (Jh := fun s => oJ l m_M_readsRoute (oEf 5 K) 0 0 25 [vr 57, vu, vi s.1] [] WD s.2) (G := K) hs g (l2, M) H
    refine HL ?_
    intro K25 s i25 e25 H
    obtain ⟨l2, M⟩ := s
    show oJ l m_M_readsRoute (oEf 5 K) 0 0 25 [vr 57, vu, vi l2] [] WD M
    have h55 : ∀ (l2 : Int) (M : oM), okp (p_M_readsRoute_B55_25 f l2 M) K25 → oJ l m_M_readsRoute (oEf 5 K) 0 0 55 [vr 57, vu, vi l2] [] WD M := by
      intro l2 M H
      refine oj_ald0 (pc := 55) (by decide +kernel) ?_
      refine oj_iconst (pc := 56) (v := 0) ⟨by decide, by decide⟩ (by decide +kernel) ?_
      refine oj_putI' (pc := 57) (ki := 7) f_M_160 s_57_7 rfl (by decide +kernel) ?_
      have H := okp_lt H
      refine oj_ld2 (pc := 60) (by decide +kernel) ?_
      refine oj_if_eq (pc := 61) (off := 7) (tgt := 68) (by decide +kernel) (by decide) H (fun _ H => ?_) (fun _ H => ?_)
      · refine oj_ald0 (pc := 68) (by decide +kernel) ?_
        refine oj_getI' (pc := 69) (ki := 10) f_M_176 s_57_10 rfl (by decide +kernel) ?_
        have H := e25 _ H
        exact oj_iret (pc := 72) (by decide +kernel) rfl rfl (Nat.le_refl _) (Nat.le_refl _) ⟨rfl, H⟩
      · refine oj_iconst (pc := 64) (v := 0) ⟨by decide, by decide⟩ (by decide +kernel) ?_
        refine oj_goto (pc := 65) (off := 7) (tgt := 72) (by decide +kernel) (by decide) ?_
        have H := e25 _ H
        exact oj_iret (pc := 72) (by decide +kernel) rfl rfl (Nat.le_refl _) (Nat.le_refl _) ⟨rfl, H⟩
    have h47 : ∀ (M : oM), okp (p_M_readsRoute_B47_25 f M) K25 → oJ l m_M_readsRoute (oEf 5 K) 0 0 47 [vr 57, vu, vu] [] WD M := by
      intro  M H
      refine oj_ald0 (pc := 47) (by decide +kernel) ?_
      refine of_Vi (pc := 48) (as := []) v_M_370 o_57 rfl rfl (Nat.le_of_ble_eq_true rfl) (by decide +kernel) (by decide) rfl (c_M_readsItem_0 (okp_bind H)) (fun r M H => ?_)
      refine oj_st2 (pc := 51) (by decide +kernel) (by decide +kernel) ?_
      refine oj_goto (pc := 52) (off := -27) (tgt := 25) (by decide +kernel) (by decide) ?_
      have H := i25 _ H
      exact H
    refine oj_ld2 (pc := 25) (by decide +kernel) ?_
    refine oj_if_eq (pc := 26) (off := 29) (tgt := 55) (by decide +kernel) (by decide) H (fun _ H => ?_) (fun _ H => ?_)
    · exact h55 _ _ H
    · refine oj_ald0 (pc := 29) (by decide +kernel) ?_
      refine oj_getI' (pc := 30) (ki := 8) f_M_166 s_57_8 rfl (by decide +kernel) ?_
      refine oj_ald0 (pc := 33) (by decide +kernel) ?_
      refine oj_getI' (pc := 34) (ki := 9) f_M_169 s_57_9 rfl (by decide +kernel) ?_
      refine oj_icmp_lt (pc := 37) (off := 10) (tgt := 47) (by decide +kernel) (by decide) H (fun _ H => ?_) (fun _ H => ?_)
      · refine oj_le (lv' := [_, vu, vu]) ⟨Or.inr rfl, Or.inr rfl, Or.inl rfl, trivial⟩ ?_
        exact h47  _ H
      · refine oj_ald0 (pc := 40) (by decide +kernel) ?_
        refine oj_getI' (pc := 41) (ki := 41) f_M_364 s_57_41 rfl (by decide +kernel) ?_
        refine oj_if_le (pc := 44) (off := 11) (tgt := 55) (by decide +kernel) (by decide) H (fun _ H => ?_) (fun _ H => ?_)
        · exact h55 _ _ H
        · refine oj_le (lv' := [_, vu, vu]) ⟨Or.inr rfl, Or.inr rfl, Or.inl rfl, trivial⟩ ?_
          exact h47  _ H
  refine oj_ald0 (pc := 0) (by decide +kernel) ?_
  refine oj_iconst (pc := 1) (v := 0) ⟨by decide, by decide⟩ (by decide +kernel) ?_
  refine oj_putI' (pc := 2) (ki := 8) f_M_166 s_57_8 rfl (by decide +kernel) ?_
  have H := okp_lt H
  refine oj_ald0 (pc := 5) (by decide +kernel) ?_
  refine oj_ld1 (pc := 6) (by decide +kernel) ?_
  refine oj_putI' (pc := 7) (ki := 9) f_M_169 s_57_9 rfl (by decide +kernel) ?_
  have H := okp_lt H
  refine oj_ald0 (pc := 10) (by decide +kernel) ?_
  refine oj_iconst (pc := 11) (v := 0) ⟨by decide, by decide⟩ (by decide +kernel) ?_
  refine oj_putI' (pc := 12) (ki := 40) f_M_352 s_57_40 rfl (by decide +kernel) ?_
  have H := okp_lt H
  refine oj_ald0 (pc := 15) (by decide +kernel) ?_
  refine oj_iconst (pc := 16) (v := 0) ⟨by decide, by decide⟩ (by decide +kernel) ?_
  refine oj_putI' (pc := 17) (ki := 41) f_M_364 s_57_41 rfl (by decide +kernel) ?_
  have H := okp_lt H
  refine oj_ald0 (pc := 20) (by decide +kernel) ?_
  refine of_Vi (pc := 21) (as := []) v_M_370 o_57 rfl rfl (Nat.le_of_ble_eq_true rfl) (by decide +kernel) (by decide) rfl (c_M_readsItem_0 (okp_bind H)) (fun r M H => ?_)
  refine oj_st2 (pc := 24) (by decide +kernel) (by decide +kernel) ?_
  refine oj_le (lv' := [_, vu, _]) ⟨Or.inr rfl, Or.inl rfl, Or.inr rfl, trivial⟩ ?_
  exact h25 _ _ _ H
theorem c_M_walksRoute_0 {l : Launch} {f : Nat} {M : oM} {K : Int × oM → Prop} (H : okp (p_M_walksRoute f M) K) : oKf l m_M_walksRoute 4 [vr 57] M K := by
  refine oK_intro (lv := [vr 57, vu, vu]) (by decide +kernel) (Nat.le_of_ble_eq_true rfl) rfl ?_
  have h10 : ∀ (g : Nat) (M : oM), okp (iter (p_M_walksRoute_L10 f) g M) K → oJ l m_M_walksRoute (oEf 4 K) 0 0 10 [vr 57, vu, vu] [] WD M := by
    intro g  M H
    have HL := fun hs => iter_J' (Jh := fun s => oJ l m_M_walksRoute (oEf 4 K) 0 0 10 [vr 57, vu, vu] [] WD s) (G := K) hs g M H
    refine HL ?_
    intro K10 M i10 e10 H
    show oJ l m_M_walksRoute (oEf 4 K) 0 0 10 [vr 57, vu, vu] [] WD M
    refine oj_ald0 (pc := 10) (by decide +kernel) ?_
    refine oj_getI' (pc := 11) (ki := 44) f_M_373 s_57_44 rfl (by decide +kernel) ?_
    refine oj_ald0 (pc := 14) (by decide +kernel) ?_
    refine oj_getI' (pc := 15) (ki := 40) f_M_352 s_57_40 rfl (by decide +kernel) ?_
    refine oj_icmp_ge (pc := 18) (off := 66) (tgt := 84) (by decide +kernel) (by decide) H (fun _ H => ?_) (fun _ H => ?_)
    · have H := e10 _ H
      exact oj_vret (pc := 84) (by decide +kernel) rfl (Nat.le_refl _) (Nat.le_refl _) ⟨rfl, H⟩
    · refine oj_ald0 (pc := 21) (by decide +kernel) ?_
      refine oj_getR' (pc := 22) f_M_7 s_57_0 (by decide +kernel) ?_
      refine oj_sipush (pc := 25) (v := 151) ⟨by decide, by decide⟩ (by decide +kernel) ?_
      refine oj_iald (pc := 28) (NN := 159) a_58 rfl (by decide +kernel) H (fun H => ?_)
      refine oj_st1 (pc := 29) (by decide +kernel) (by decide +kernel) ?_
      have H := okp_lt H
      refine oj_ald0 (pc := 30) (by decide +kernel) ?_
      refine oj_getR' (pc := 31) f_M_71 s_57_36 (by decide +kernel) ?_
      refine oj_ald0 (pc := 34) (by decide +kernel) ?_
      refine oj_getI' (pc := 35) (ki := 44) f_M_373 s_57_44 rfl (by decide +kernel) ?_
      refine oj_iald (pc := 38) (NN := 60) a_78 rfl (by decide +kernel) H (fun H => ?_)
      refine oj_st2 (pc := 39) (by decide +kernel) (by decide +kernel) ?_
      have H := okp_lt H
      refine oj_ald0 (pc := 40) (by decide +kernel) ?_
      refine oj_ld1 (pc := 41) (by decide +kernel) ?_
      refine oj_ld2 (pc := 42) (by decide +kernel) ?_
      refine of_Vi (pc := 43) (as := [_, _]) v_M_147 o_57 rfl rfl (Nat.le_of_ble_eq_true rfl) (by decide +kernel) (by decide) rfl (c_M_debtOf_0 (okp_bind H)) (fun r M H => ?_)
      refine oj_if_ne (pc := 46) (off := 4) (tgt := 50) (by decide +kernel) (by decide) H (fun _ H => ?_) (fun _ H => ?_)
      · refine oj_ald0 (pc := 50) (by decide +kernel) ?_
        refine oj_ald0 (pc := 51) (by decide +kernel) ?_
        refine oj_getI' (pc := 52) (ki := 45) f_M_376 s_57_45 rfl (by decide +kernel) ?_
        refine oj_ald0 (pc := 55) (by decide +kernel) ?_
        refine oj_ld1 (pc := 56) (by decide +kernel) ?_
        refine oj_ld2 (pc := 57) (by decide +kernel) ?_
        refine of_Vi (pc := 58) (as := [_, _]) v_M_268 o_57 rfl rfl (Nat.le_of_ble_eq_true rfl) (by decide +kernel) (by decide) rfl (c_M_wayOf_0 (okp_bind H)) (fun r M H => ?_)
        refine oj_iadd (pc := 61) (by decide +kernel) ?_
        refine oj_putI' (pc := 62) (ki := 45) f_M_376 s_57_45 rfl (by decide +kernel) ?_
        have H := okp_lt H
        refine oj_ald0 (pc := 65) (by decide +kernel) ?_
        refine oj_ld1 (pc := 66) (by decide +kernel) ?_
        refine oj_ld2 (pc := 67) (by decide +kernel) ?_
        refine of_Vv (pc := 68) (as := [_, _]) v_M_327 o_57 rfl rfl (Nat.le_of_ble_eq_true rfl) (by decide +kernel) (by decide) rfl (c_M_pays_0 (okp_bind H)) (fun M H => ?_)
        refine oj_ald0 (pc := 71) (by decide +kernel) ?_
        refine oj_ald0 (pc := 72) (by decide +kernel) ?_
        refine oj_getI' (pc := 73) (ki := 44) f_M_373 s_57_44 rfl (by decide +kernel) ?_
        refine oj_iconst (pc := 76) (v := 1) ⟨by decide, by decide⟩ (by decide +kernel) ?_
        refine oj_iadd (pc := 77) (by decide +kernel) ?_
        refine oj_putI' (pc := 78) (ki := 44) f_M_373 s_57_44 rfl (by decide +kernel) ?_
        have H := okp_lt H
        refine oj_goto (pc := 81) (off := -71) (tgt := 10) (by decide +kernel) (by decide) ?_
        refine oj_le (lv' := [_, vu, vu]) ⟨Or.inr rfl, Or.inl rfl, Or.inl rfl, trivial⟩ ?_
        have H := i10 _ H
        exact H
      · have H := e10 _ H
        exact oj_vret (pc := 49) (by decide +kernel) rfl (Nat.le_refl _) (Nat.le_refl _) ⟨rfl, H⟩
  refine oj_ald0 (pc := 0) (by decide +kernel) ?_
  refine oj_iconst (pc := 1) (v := 0) ⟨by decide, by decide⟩ (by decide +kernel) ?_
  refine oj_putI' (pc := 2) (ki := 44) f_M_373 s_57_44 rfl (by decide +kernel) ?_
  have H := okp_lt H
  refine oj_ald0 (pc := 5) (by decide +kernel) ?_
  refine oj_iconst (pc := 6) (v := 0) ⟨by decide, by decide⟩ (by decide +kernel) ?_
  refine oj_putI' (pc := 7) (ki := 45) f_M_376 s_57_45 rfl (by decide +kernel) ?_
  have H := okp_lt H
  exact h10 _  _ H
theorem c_M_route_0 {l : Launch} {f : Nat} {l1 l2 : Int} {M : oM} {K : Int × oM → Prop} (H : okp (p_M_route f l1 l2 M) K) : oKf l m_M_route 6 [vr 57, vi l1, vi l2] M K := by
  refine oK_intro (lv := [vr 57, vi l1, vi l2, vu, vu]) (by decide +kernel) (Nat.le_of_ble_eq_true rfl) rfl ?_
  refine oj_ld1 (pc := 0) (by decide +kernel) ?_
  refine oj_iconst (pc := 1) (v := 1) ⟨by decide, by decide⟩ (by decide +kernel) ?_
  refine oj_bipush (pc := 2) (v := 60) ⟨by decide, by decide⟩ (by decide +kernel) ?_
  refine of_Si (pc := 4) (as := [_, _, _]) v_M_123 rfl rfl (Nat.le_of_ble_eq_true rfl) (by decide +kernel) (by decide) rfl (c_M_in_0 (okp_bind H)) (fun r M H => ?_)
  refine oj_if_eq (pc := 7) (off := 20) (tgt := 27) (by decide +kernel) (by decide) H (fun _ H => ?_) (fun _ H => ?_)
  · refine oj_iconst (pc := 27) (v := -1) ⟨by decide, by decide⟩ (by decide +kernel) ?_
    exact oj_iret (pc := 28) (by decide +kernel) rfl rfl (Nat.le_refl _) (Nat.le_refl _) ⟨rfl, H⟩
  · refine oj_ld2 (pc := 10) (by decide +kernel) ?_
    refine oj_iconst (pc := 11) (v := 0) ⟨by decide, by decide⟩ (by decide +kernel) ?_
    refine oj_iconst (pc := 12) (v := 2) ⟨by decide, by decide⟩ (by decide +kernel) ?_
    refine of_Si (pc := 13) (as := [_, _, _]) v_M_123 rfl rfl (Nat.le_of_ble_eq_true rfl) (by decide +kernel) (by decide) rfl (c_M_in_0 (okp_bind H)) (fun r M H => ?_)
    refine oj_if_eq (pc := 16) (off := 11) (tgt := 27) (by decide +kernel) (by decide) H (fun _ H => ?_) (fun _ H => ?_)
    · refine oj_iconst (pc := 27) (v := -1) ⟨by decide, by decide⟩ (by decide +kernel) ?_
      exact oj_iret (pc := 28) (by decide +kernel) rfl rfl (Nat.le_refl _) (Nat.le_refl _) ⟨rfl, H⟩
    · refine oj_ld1 (pc := 19) (by decide +kernel) ?_
      refine oj_ald0 (pc := 20) (by decide +kernel) ?_
      refine oj_getI' (pc := 21) (ki := 7) f_M_160 s_57_7 rfl (by decide +kernel) ?_
      refine oj_icmp_le (pc := 24) (off := 5) (tgt := 29) (by decide +kernel) (by decide) H (fun _ H => ?_) (fun _ H => ?_)
      · refine oj_ald0 (pc := 29) (by decide +kernel) ?_
        refine oj_ld1 (pc := 30) (by decide +kernel) ?_
        refine of_Vi (pc := 31) (as := [_]) v_M_379 o_57 rfl rfl (Nat.le_of_ble_eq_true rfl) (by decide +kernel) (by decide) rfl (c_M_readsRoute_0 (okp_bind H)) (fun r M H => ?_)
        refine oj_st3 (pc := 34) (by decide +kernel) (by decide +kernel) ?_
        refine oj_ld3 (pc := 35) (by decide +kernel) ?_
        refine oj_if_eq (pc := 36) (off := 5) (tgt := 41) (by decide +kernel) (by decide) H (fun _ H => ?_) (fun _ H => ?_)
        · refine oj_ald0 (pc := 41) (by decide +kernel) ?_
          refine oj_getR' (pc := 42) f_M_7 s_57_0 (by decide +kernel) ?_
          refine oj_sipush (pc := 45) (v := 151) ⟨by decide, by decide⟩ (by decide +kernel) ?_
          refine oj_iald (pc := 48) (NN := 159) a_58 rfl (by decide +kernel) H (fun H => ?_)
          refine oj_if_ge (pc := 49) (off := 6) (tgt := 55) (by decide +kernel) (by decide) H (fun _ H => ?_) (fun _ H => ?_)
          · refine oj_ald0 (pc := 55) (by decide +kernel) ?_
            refine oj_getR' (pc := 56) f_M_7 s_57_0 (by decide +kernel) ?_
            refine oj_ald0 (pc := 59) (by decide +kernel) ?_
            refine oj_getR' (pc := 60) f_M_13 s_57_1 (by decide +kernel) ?_
            refine of_Sv (pc := 63) (as := [_, _]) v_M_345 rfl rfl (Nat.le_of_ble_eq_true rfl) (by decide +kernel) (by decide) rfl (c_M_copies_0 (okp_bind H)) (fun M H => ?_)
            refine oj_ald0 (pc := 66) (by decide +kernel) ?_
            refine of_Vv (pc := 67) (as := []) v_M_382 o_57 rfl rfl (Nat.le_of_ble_eq_true rfl) (by decide +kernel) (by decide) rfl (c_M_walksRoute_0 (okp_bind H)) (fun M H => ?_)
            refine oj_ald0 (pc := 70) (by decide +kernel) ?_
            refine oj_getR' (pc := 71) f_M_7 s_57_0 (by decide +kernel) ?_
            refine oj_sipush (pc := 74) (v := 151) ⟨by decide, by decide⟩ (by decide +kernel) ?_
            refine oj_iald (pc := 77) (NN := 159) a_58 rfl (by decide +kernel) H (fun H => ?_)
            refine oj_st4 (pc := 78) (by decide +kernel) (by decide +kernel) ?_
            have H := okp_lt H
            refine oj_ald0 (pc := 80) (by decide +kernel) ?_
            refine oj_getR' (pc := 81) f_M_13 s_57_1 (by decide +kernel) ?_
            refine oj_ald0 (pc := 84) (by decide +kernel) ?_
            refine oj_getR' (pc := 85) f_M_7 s_57_0 (by decide +kernel) ?_
            refine of_Sv (pc := 88) (as := [_, _]) v_M_345 rfl rfl (Nat.le_of_ble_eq_true rfl) (by decide +kernel) (by decide) rfl (c_M_copies_1 (okp_bind H)) (fun M H => ?_)
            refine oj_ld2 (pc := 91) (by decide +kernel) ?_
            refine oj_if_ne (pc := 92) (off := 10) (tgt := 102) (by decide +kernel) (by decide) H (fun _ H => ?_) (fun _ H => ?_)
            · refine oj_ld2 (pc := 102) (by decide +kernel) ?_
              refine oj_iconst (pc := 103) (v := 1) ⟨by decide, by decide⟩ (by decide +kernel) ?_
              refine oj_icmp_ne (pc := 104) (off := 10) (tgt := 114) (by decide +kernel) (by decide) H (fun _ H => ?_) (fun _ H => ?_)
              · refine oj_ld4 (pc := 114) (by decide +kernel) ?_
                exact oj_iret (pc := 116) (by decide +kernel) rfl rfl (Nat.le_refl _) (Nat.le_refl _) ⟨rfl, H⟩
              · refine oj_ald0 (pc := 107) (by decide +kernel) ?_
                refine oj_getI' (pc := 108) (ki := 45) f_M_376 s_57_45 rfl (by decide +kernel) ?_
                refine oj_goto (pc := 111) (off := 5) (tgt := 116) (by decide +kernel) (by decide) ?_
                exact oj_iret (pc := 116) (by decide +kernel) rfl rfl (Nat.le_refl _) (Nat.le_refl _) ⟨rfl, H⟩
            · refine oj_ald0 (pc := 95) (by decide +kernel) ?_
              refine oj_getI' (pc := 96) (ki := 44) f_M_373 s_57_44 rfl (by decide +kernel) ?_
              refine oj_goto (pc := 99) (off := 17) (tgt := 116) (by decide +kernel) (by decide) ?_
              exact oj_iret (pc := 116) (by decide +kernel) rfl rfl (Nat.le_refl _) (Nat.le_refl _) ⟨rfl, H⟩
          · refine oj_bipush (pc := 52) (v := -2) ⟨by decide, by decide⟩ (by decide +kernel) ?_
            exact oj_iret (pc := 54) (by decide +kernel) rfl rfl (Nat.le_refl _) (Nat.le_refl _) ⟨rfl, H⟩
        · refine oj_ld3 (pc := 39) (by decide +kernel) ?_
          exact oj_iret (pc := 40) (by decide +kernel) rfl rfl (Nat.le_refl _) (Nat.le_refl _) ⟨rfl, H⟩
      · refine oj_iconst (pc := 27) (v := -1) ⟨by decide, by decide⟩ (by decide +kernel) ?_
        exact oj_iret (pc := 28) (by decide +kernel) rfl rfl (Nat.le_refl _) (Nat.le_refl _) ⟨rfl, H⟩
theorem c_M_walk_0 {l : Launch} {f : Nat} {l1 : Int} {M : oM} {K : Int × oM → Prop} (H : okp (p_M_walk f l1 M) K) : oKf l m_M_walk 6 [vr 57, vi l1] M K := by
  refine oK_intro (lv := [vr 57, vi l1, vu]) (by decide +kernel) (Nat.le_of_ble_eq_true rfl) rfl ?_
  refine oj_ld1 (pc := 0) (by decide +kernel) ?_
  refine oj_iconst (pc := 1) (v := 1) ⟨by decide, by decide⟩ (by decide +kernel) ?_
  refine oj_bipush (pc := 2) (v := 60) ⟨by decide, by decide⟩ (by decide +kernel) ?_
  refine of_Si (pc := 4) (as := [_, _, _]) v_M_123 rfl rfl (Nat.le_of_ble_eq_true rfl) (by decide +kernel) (by decide) rfl (c_M_in_0 (okp_bind H)) (fun r M H => ?_)
  refine oj_if_eq (pc := 7) (off := 11) (tgt := 18) (by decide +kernel) (by decide) H (fun _ H => ?_) (fun _ H => ?_)
  · refine oj_iconst (pc := 18) (v := -1) ⟨by decide, by decide⟩ (by decide +kernel) ?_
    exact oj_iret (pc := 19) (by decide +kernel) rfl rfl (Nat.le_refl _) (Nat.le_refl _) ⟨rfl, H⟩
  · refine oj_ld1 (pc := 10) (by decide +kernel) ?_
    refine oj_ald0 (pc := 11) (by decide +kernel) ?_
    refine oj_getI' (pc := 12) (ki := 7) f_M_160 s_57_7 rfl (by decide +kernel) ?_
    refine oj_icmp_le (pc := 15) (off := 5) (tgt := 20) (by decide +kernel) (by decide) H (fun _ H => ?_) (fun _ H => ?_)
    · refine oj_ald0 (pc := 20) (by decide +kernel) ?_
      refine oj_ld1 (pc := 21) (by decide +kernel) ?_
      refine of_Vi (pc := 22) (as := [_]) v_M_379 o_57 rfl rfl (Nat.le_of_ble_eq_true rfl) (by decide +kernel) (by decide) rfl (c_M_readsRoute_0 (okp_bind H)) (fun r M H => ?_)
      refine oj_st2 (pc := 25) (by decide +kernel) (by decide +kernel) ?_
      refine oj_ld2 (pc := 26) (by decide +kernel) ?_
      refine oj_if_eq (pc := 27) (off := 5) (tgt := 32) (by decide +kernel) (by decide) H (fun _ H => ?_) (fun _ H => ?_)
      · refine oj_ald0 (pc := 32) (by decide +kernel) ?_
        refine oj_getR' (pc := 33) f_M_7 s_57_0 (by decide +kernel) ?_
        refine oj_sipush (pc := 36) (v := 151) ⟨by decide, by decide⟩ (by decide +kernel) ?_
        refine oj_iald (pc := 39) (NN := 159) a_58 rfl (by decide +kernel) H (fun H => ?_)
        refine oj_if_ge (pc := 40) (off := 6) (tgt := 46) (by decide +kernel) (by decide) H (fun _ H => ?_) (fun _ H => ?_)
        · refine oj_ald0 (pc := 46) (by decide +kernel) ?_
          refine of_Vv (pc := 47) (as := []) v_M_382 o_57 rfl rfl (Nat.le_of_ble_eq_true rfl) (by decide +kernel) (by decide) rfl (c_M_walksRoute_0 (okp_bind H)) (fun M H => ?_)
          refine oj_ald0 (pc := 50) (by decide +kernel) ?_
          refine oj_getI' (pc := 51) (ki := 44) f_M_373 s_57_44 rfl (by decide +kernel) ?_
          exact oj_iret (pc := 54) (by decide +kernel) rfl rfl (Nat.le_refl _) (Nat.le_refl _) ⟨rfl, H⟩
        · refine oj_bipush (pc := 43) (v := -2) ⟨by decide, by decide⟩ (by decide +kernel) ?_
          exact oj_iret (pc := 45) (by decide +kernel) rfl rfl (Nat.le_refl _) (Nat.le_refl _) ⟨rfl, H⟩
      · refine oj_ld2 (pc := 30) (by decide +kernel) ?_
        exact oj_iret (pc := 31) (by decide +kernel) rfl rfl (Nat.le_refl _) (Nat.le_refl _) ⟨rfl, H⟩
    · refine oj_iconst (pc := 18) (v := -1) ⟨by decide, by decide⟩ (by decide +kernel) ?_
      exact oj_iret (pc := 19) (by decide +kernel) rfl rfl (Nat.le_refl _) (Nat.le_refl _) ⟨rfl, H⟩
theorem c_M_leftOf_0 {l : Launch} {f : Nat} {l1 l2 : Int} {M : oM} {K : Int × oM → Prop} (H : okp (p_M_leftOf f l1 l2 M) K) : oKf l m_M_leftOf 2 [vr 57, vi l1, vi l2] M K := by
  refine oK_intro (lv := [vr 57, vi l1, vi l2]) (by decide +kernel) (Nat.le_of_ble_eq_true rfl) rfl ?_
  refine oj_ald0 (pc := 0) (by decide +kernel) ?_
  refine oj_getR' (pc := 1) f_M_83 s_57_46 (by decide +kernel) ?_
  refine oj_bipush (pc := 4) (v := 10) ⟨by decide, by decide⟩ (by decide +kernel) ?_
  refine oj_ld1 (pc := 6) (by decide +kernel) ?_
  refine oj_imul (pc := 7) (by decide +kernel) ?_
  refine oj_ld2 (pc := 8) (by decide +kernel) ?_
  refine oj_iadd (pc := 9) (by decide +kernel) ?_
  refine oj_iald (pc := 10) (NN := 100) a_82 rfl (by decide +kernel) H (fun H => ?_)
  exact oj_iret (pc := 11) (by decide +kernel) rfl rfl (Nat.le_refl _) (Nat.le_refl _) ⟨rfl, H⟩
theorem c_M_reachLeft_0 {l : Launch} {f : Nat} {l1 : Int} {M : oM} {K : Int × oM → Prop} (H : okp (p_M_reachLeft f l1 M) K) : oKf l m_M_reachLeft 3 [vr 57, vi l1] M K := by
  refine oK_intro (lv := [vr 57, vi l1, vu, vu, vu, vu]) (by decide +kernel) (Nat.le_of_ble_eq_true rfl) rfl ?_
  have h6 : ∀ (g : Nat) (l2 l3 : Int) (M : oM), okp (iter (p_M_reachLeft_L6 f) g (l2, l3, M)) K → oJ l m_M_reachLeft (oEf 3 K) 0 0 6 [vr 57, vu, vi l2, vi l3, vu, vu] [] WD M := by
    intro g l2 l3 M H
    have HL := fun hs => iter_J' (Jh := fun s => oJ l m_M_reachLeft (oEf 3 K) 0 0 6 [vr 57, vu, vi s.1, vi s.2.1, vu, vu] [] WD s.2.2) (G := K) hs g (l2, l3, M) H
    refine HL ?_
    intro K6 s i6 e6 H
    obtain ⟨l2, l3, M⟩ := s
    show oJ l m_M_reachLeft (oEf 3 K) 0 0 6 [vr 57, vu, vi l2, vi l3, vu, vu] [] WD M
    have x16 : ∀ (l2 l3 : Int) (M : oM), okp (p_M_reachLeft_X16 f l3 (l2, M)) K6 → oJ l m_M_reachLeft (oEf 3 K) 0 0 72 [vr 57, vu, vi l2, vi l3, vu, vu] [] WD M := by
      intro l2 l3 M H
      refine oj_goto (pc := 72) (off := -66) (tgt := 6) (by decide +kernel) (by decide) ?_
      have H := i6 _ H
      exact H
    have h16 : ∀ (g : Nat) (l2 l3 l4 : Int) (M : oM), okp (iter (p_M_reachLeft_L16 f l3) g (l2, l4, M)) (fun r => okp (p_M_reachLeft_X16 f l3 r) K6) → oJ l m_M_reachLeft (oEf 3 K) 0 0 16 [vr 57, vu, vi l2, vi l3, vi l4, vu] [] WD M := by
      intro g l2 l3 l4 M H
      have HL := fun hs => iter_J' (Jh := fun s => oJ l m_M_reachLeft (oEf 3 K) 0 0 16 [vr 57, vu, vi s.1, vi l3, vi s.2.1, vu] [] WD s.2.2) (G := (fun r => okp (p_M_reachLeft_X16 f l3 r) K6)) hs g (l2, l4, M) H
      refine HL ?_
      intro K16 s i16 e16 H
      obtain ⟨l2, l4, M⟩ := s
      show oJ l m_M_reachLeft (oEf 3 K) 0 0 16 [vr 57, vu, vi l2, vi l3, vi l4, vu] [] WD M
      have x26 : ∀ (l2 l4 : Int) (M : oM), okp (p_M_reachLeft_X26 f l3 l4 (l2, M)) K16 → oJ l m_M_reachLeft (oEf 3 K) 0 0 66 [vr 57, vu, vi l2, vi l3, vi l4, vu] [] WD M := by
        intro l2 l4 M H
        unfold p_M_reachLeft_X26 at H
        refine oj_inc4 (pc := 66) (d := 1) (by decide +kernel) (by decide +kernel) ?_
        have H := okp_lt H
        refine oj_goto (pc := 69) (off := -53) (tgt := 16) (by decide +kernel) (by decide) ?_
        have H := i16 _ H
        exact H
      have h26 : ∀ (g : Nat) (l2 l4 l5 : Int) (M : oM), okp (iter (p_M_reachLeft_L26 f l3 l4) g (l2, l5, M)) (fun r => okp (p_M_reachLeft_X26 f l3 l4 r) K16) → oJ l m_M_reachLeft (oEf 3 K) 0 0 26 [vr 57, vu, vi l2, vi l3, vi l4, vi l5] [] WD M := by
        intro g l2 l4 l5 M H
        have HL := fun hs => iter_J' (Jh := fun s => oJ l m_M_reachLeft (oEf 3 K) 0 0 26 [vr 57, vu, vi s.1, vi l3, vi l4, vi s.2.1] [] WD s.2.2) (G := (fun r => okp (p_M_reachLeft_X26 f l3 l4 r) K16)) hs g (l2, l5, M) H
        refine HL ?_
        intro K26 s i26 e26 H
        obtain ⟨l2, l5, M⟩ := s
        show oJ l m_M_reachLeft (oEf 3 K) 0 0 26 [vr 57, vu, vi l2, vi l3, vi l4, vi l5] [] WD M
        have h60 : ∀ (l2 l5 : Int) (M : oM), okp (p_M_reachLeft_B60_26 f l2 l3 l4 l5 M) K26 → oJ l m_M_reachLeft (oEf 3 K) 0 0 60 [vr 57, vu, vi l2, vi l3, vi l4, vi l5] [] WD M := by
          intro l2 l5 M H
          refine oj_inc5 (pc := 60) (d := 1) (by decide +kernel) (by decide +kernel) ?_
          have H := okp_lt H
          refine oj_goto (pc := 63) (off := -37) (tgt := 26) (by decide +kernel) (by decide) ?_
          have H := i26 _ H
          exact H
        refine oj_ld5 (pc := 26) (by decide +kernel) ?_
        refine oj_bipush (pc := 28) (v := 10) ⟨by decide, by decide⟩ (by decide +kernel) ?_
        refine oj_icmp_ge (pc := 30) (off := 36) (tgt := 66) (by decide +kernel) (by decide) H (fun _ H => ?_) (fun _ H => ?_)
        · refine oj_le (lv' := [_, vu, _, _, _, vu]) ⟨Or.inr rfl, Or.inr rfl, Or.inr rfl, Or.inr rfl, Or.inr rfl, Or.inl rfl, trivial⟩ ?_
          have H := e26 _ H
          exact x26 _ _ _ H
        · refine oj_ld2 (pc := 33) (by decide +kernel) ?_
          refine oj_ld4 (pc := 34) (by decide +kernel) ?_
          refine of_Si (pc := 36) (as := [_, _]) v_M_131 rfl rfl (Nat.le_of_ble_eq_true rfl) (by decide +kernel) (by decide) rfl (c_M_has_0 (okp_bind H)) (fun r M H => ?_)
          refine oj_if_eq (pc := 39) (off := 21) (tgt := 60) (by decide +kernel) (by decide) H (fun _ H => ?_) (fun _ H => ?_)
          · exact h60 _ _ _ H
          · refine oj_ald0 (pc := 42) (by decide +kernel) ?_
            refine oj_ld4 (pc := 43) (by decide +kernel) ?_
            refine oj_ld5 (pc := 45) (by decide +kernel) ?_
            refine of_Vi (pc := 47) (as := [_, _]) v_M_385 o_57 rfl rfl (Nat.le_of_ble_eq_true rfl) (by decide +kernel) (by decide) rfl (c_M_leftOf_0 (okp_bind H)) (fun r M H => ?_)
            refine oj_if_le (pc := 50) (off := 10) (tgt := 60) (by decide +kernel) (by decide) H (fun _ H => ?_) (fun _ H => ?_)
            · exact h60 _ _ _ H
            · refine oj_ld2 (pc := 53) (by decide +kernel) ?_
              refine oj_iconst (pc := 54) (v := 1) ⟨by decide, by decide⟩ (by decide +kernel) ?_
              refine oj_ld5 (pc := 55) (by decide +kernel) ?_
              refine oj_ishl (pc := 57) (by decide +kernel) ?_
              refine oj_ior (pc := 58) (by decide +kernel) ?_
              refine oj_st2 (pc := 59) (by decide +kernel) (by decide +kernel) ?_
              have H := okp_lt H
              exact h60 _ _ _ H
      refine oj_ld4 (pc := 16) (by decide +kernel) ?_
      refine oj_bipush (pc := 18) (v := 10) ⟨by decide, by decide⟩ (by decide +kernel) ?_
      refine oj_icmp_ge (pc := 20) (off := 52) (tgt := 72) (by decide +kernel) (by decide) H (fun _ H => ?_) (fun _ H => ?_)
      · refine oj_le (lv' := [_, vu, _, _, vu, vu]) ⟨Or.inr rfl, Or.inr rfl, Or.inr rfl, Or.inr rfl, Or.inl rfl, Or.inr rfl, trivial⟩ ?_
        have H := e16 _ H
        exact x16 _ _ _ H
      · refine oj_iconst (pc := 23) (v := 0) ⟨by decide, by decide⟩ (by decide +kernel) ?_
        refine oj_st5 (pc := 24) (by decide +kernel) (by decide +kernel) ?_
        exact h26 _ _ _ _ _ (okp_bind H)
    refine oj_ld2 (pc := 6) (by decide +kernel) ?_
    refine oj_ld3 (pc := 7) (by decide +kernel) ?_
    refine oj_icmp_eq (pc := 8) (off := 67) (tgt := 75) (by decide +kernel) (by decide) H (fun _ H => ?_) (fun _ H => ?_)
    · refine oj_ld2 (pc := 75) (by decide +kernel) ?_
      have H := e6 _ H
      exact oj_iret (pc := 76) (by decide +kernel) rfl rfl (Nat.le_refl _) (Nat.le_refl _) ⟨rfl, H⟩
    · refine oj_ld2 (pc := 11) (by decide +kernel) ?_
      refine oj_st3 (pc := 12) (by decide +kernel) (by decide +kernel) ?_
      refine oj_iconst (pc := 13) (v := 0) ⟨by decide, by decide⟩ (by decide +kernel) ?_
      refine oj_st4 (pc := 14) (by decide +kernel) (by decide +kernel) ?_
      exact h16 _ _ _ _ _ (okp_bind H)
  refine oj_iconst (pc := 0) (v := 1) ⟨by decide, by decide⟩ (by decide +kernel) ?_
  refine oj_ld1 (pc := 1) (by decide +kernel) ?_
  refine oj_ishl (pc := 2) (by decide +kernel) ?_
  refine oj_st2 (pc := 3) (by decide +kernel) (by decide +kernel) ?_
  have H := okp_lt H
  refine oj_iconst (pc := 4) (v := 0) ⟨by decide, by decide⟩ (by decide +kernel) ?_
  refine oj_st3 (pc := 5) (by decide +kernel) (by decide +kernel) ?_
  refine oj_le (lv' := [_, vu, _, _, vu, vu]) ⟨Or.inr rfl, Or.inl rfl, Or.inr rfl, Or.inr rfl, Or.inr rfl, Or.inr rfl, trivial⟩ ?_
  exact h6 _ _ _ _ H
theorem c_M_isRow_0 {l : Launch} {f : Nat} {l1 : Int} {M : oM} {K : Int × oM → Prop} (H : okp (p_M_isRow f l1 M) K) : oKf l m_M_isRow 4 [vr 57, vi l1] M K := by
  refine oK_intro (lv := [vr 57, vi l1, vu, vu, vu, vu, vu, vu, vu]) (by decide +kernel) (Nat.le_of_ble_eq_true rfl) rfl ?_
  have h14 : ∀ (g : Nat) (l1 l2 l3 l4 l5 : Int) (M : oM), okp (iter (p_M_isRow_L14 f l1 l2) g (l3, l4, l5, M)) K → oJ l m_M_isRow (oEf 4 K) 0 0 14 [vr 57, vi l1, vi l2, vi l3, vi l4, vi l5, vu, vu, vu] [] WD M := by
    intro g l1 l2 l3 l4 l5 M H
    have HL := fun hs => iter_J' (Jh := fun s => oJ l m_M_isRow (oEf 4 K) 0 0 14 [vr 57, vi l1, vi l2, vi s.1, vi s.2.1, vi s.2.2.1, vu, vu, vu] [] WD s.2.2.2) (G := K) hs g (l3, l4, l5, M) H
    refine HL ?_
    intro K14 s i14 e14 H
    obtain ⟨l3, l4, l5, M⟩ := s
    show oJ l m_M_isRow (oEf 4 K) 0 0 14 [vr 57, vi l1, vi l2, vi l3, vi l4, vi l5, vu, vu, vu] [] WD M
    have h144 : ∀ (M : oM), okp (p_M_isRow_B144_14 f M) K14 → oJ l m_M_isRow (oEf 4 K) 0 0 144 [vr 57, vu, vu, vu, vu, vu, vu, vu, vu] [] WD M := by
      intro  M H
      refine oj_iconst (pc := 144) (v := 1) ⟨by decide, by decide⟩ (by decide +kernel) ?_
      refine oj_goto (pc := 145) (off := 4) (tgt := 149) (by decide +kernel) (by decide) ?_
      have H := e14 _ H
      exact oj_iret (pc := 149) (by decide +kernel) rfl rfl (Nat.le_refl _) (Nat.le_refl _) ⟨rfl, H⟩
    have h133 : ∀ (l3 l4 : Int) (M : oM), okp (p_M_isRow_B133_14 f l3 l4 M) K14 → oJ l m_M_isRow (oEf 4 K) 0 0 133 [vr 57, vu, vu, vi l3, vi l4, vu, vu, vu, vu] [] WD M := by
      intro l3 l4 M H
      refine oj_ld3 (pc := 133) (by decide +kernel) ?_
      refine oj_iconst (pc := 134) (v := 1) ⟨by decide, by decide⟩ (by decide +kernel) ?_
      refine oj_icmp_ne (pc := 135) (off := 13) (tgt := 148) (by decide +kernel) (by decide) H (fun _ H => ?_) (fun _ H => ?_)
      · refine oj_iconst (pc := 148) (v := 0) ⟨by decide, by decide⟩ (by decide +kernel) ?_
        have H := e14 _ H
        exact oj_iret (pc := 149) (by decide +kernel) rfl rfl (Nat.le_refl _) (Nat.le_refl _) ⟨rfl, H⟩
      · refine oj_ld4 (pc := 138) (by decide +kernel) ?_
        refine oj_iconst (pc := 140) (v := 1) ⟨by decide, by decide⟩ (by decide +kernel) ?_
        refine oj_icmp_ne (pc := 141) (off := 7) (tgt := 148) (by decide +kernel) (by decide) H (fun _ H => ?_) (fun _ H => ?_)
        · refine oj_iconst (pc := 148) (v := 0) ⟨by decide, by decide⟩ (by decide +kernel) ?_
          have H := e14 _ H
          exact oj_iret (pc := 149) (by decide +kernel) rfl rfl (Nat.le_refl _) (Nat.le_refl _) ⟨rfl, H⟩
        · refine oj_le (lv' := [_, vu, vu, vu, vu, vu, vu, vu, vu]) ⟨Or.inr rfl, Or.inr rfl, Or.inr rfl, Or.inl rfl, Or.inl rfl, Or.inr rfl, Or.inr rfl, Or.inr rfl, Or.inr rfl, trivial⟩ ?_
          exact h144  _ H
    have h118 : ∀ (l3 l4 l5 : Int) (M : oM), okp (p_M_isRow_B118_14 f l1 l2 l3 l4 l5 M) K14 → oJ l m_M_isRow (oEf 4 K) 0 0 118 [vr 57, vi l1, vi l2, vi l3, vi l4, vi l5, vu, vu, vu] [] WD M := by
      intro l3 l4 l5 M H
      refine oj_inc5 (pc := 118) (d := 1) (by decide +kernel) (by decide +kernel) ?_
      have H := okp_lt H
      refine oj_goto (pc := 121) (off := -107) (tgt := 14) (by decide +kernel) (by decide) ?_
      have H := i14 _ H
      exact H
    have h105 : ∀ (l3 l4 l5 l6 l7 : Int) (M : oM), okp (p_M_isRow_B105_14 f l1 l2 l3 l4 l5 l6 l7 M) K14 → oJ l m_M_isRow (oEf 4 K) 0 0 105 [vr 57, vi l1, vi l2, vi l3, vi l4, vi l5, vi l6, vi l7, vu] [] WD M := by
      intro l3 l4 l5 l6 l7 M H
      refine oj_ld5 (pc := 105) (by decide +kernel) ?_
      refine oj_ld1 (pc := 107) (by decide +kernel) ?_
      refine oj_icmp_ne (pc := 108) (off := 10) (tgt := 118) (by decide +kernel) (by decide) H (fun _ H => ?_) (fun _ H => ?_)
      · refine oj_le (lv' := [_, _, _, _, _, _, vu, vu, vu]) ⟨Or.inr rfl, Or.inr rfl, Or.inr rfl, Or.inr rfl, Or.inr rfl, Or.inr rfl, Or.inl rfl, Or.inl rfl, Or.inr rfl, trivial⟩ ?_
        exact h118 _ _ _ _ H
      · refine oj_ld6 (pc := 111) (by decide +kernel) ?_
        refine oj_ld7 (pc := 113) (by decide +kernel) ?_
        refine oj_isub (pc := 115) (by decide +kernel) ?_
        refine oj_st4 (pc := 116) (by decide +kernel) (by decide +kernel) ?_
        have H := okp_lt H
        refine oj_le (lv' := [_, _, _, _, _, _, vu, vu, vu]) ⟨Or.inr rfl, Or.inr rfl, Or.inr rfl, Or.inr rfl, Or.inr rfl, Or.inr rfl, Or.inl rfl, Or.inl rfl, Or.inr rfl, trivial⟩ ?_
        exact h118 _ _ _ _ H
    have h83 : ∀ (l3 l4 l5 l6 l7 : Int) (M : oM), okp (p_M_isRow_B83_14 f l1 l2 l3 l4 l5 l6 l7 M) K14 → oJ l m_M_isRow (oEf 4 K) 0 0 83 [vr 57, vi l1, vi l2, vi l3, vi l4, vi l5, vi l6, vi l7, vu] [] WD M := by
      intro l3 l4 l5 l6 l7 M H
      refine oj_ld6 (pc := 83) (by decide +kernel) ?_
      refine oj_ld7 (pc := 85) (by decide +kernel) ?_
      refine oj_iconst (pc := 87) (v := 1) ⟨by decide, by decide⟩ (by decide +kernel) ?_
      refine oj_iadd (pc := 88) (by decide +kernel) ?_
      refine oj_icmp_le (pc := 89) (off := 5) (tgt := 94) (by decide +kernel) (by decide) H (fun _ H => ?_) (fun _ H => ?_)
      · refine oj_ld6 (pc := 94) (by decide +kernel) ?_
        refine oj_ld7 (pc := 96) (by decide +kernel) ?_
        refine oj_icmp_le (pc := 98) (off := 7) (tgt := 105) (by decide +kernel) (by decide) H (fun _ H => ?_) (fun _ H => ?_)
        · exact h105 _ _ _ _ _ _ H
        · refine oj_ld3 (pc := 101) (by decide +kernel) ?_
          refine oj_iconst (pc := 102) (v := 1) ⟨by decide, by decide⟩ (by decide +kernel) ?_
          refine oj_iadd (pc := 103) (by decide +kernel) ?_
          refine oj_st3 (pc := 104) (by decide +kernel) (by decide +kernel) ?_
          have H := okp_lt H
          exact h105 _ _ _ _ _ _ H
      · refine oj_iconst (pc := 92) (v := 0) ⟨by decide, by decide⟩ (by decide +kernel) ?_
        have H := e14 _ H
        exact oj_iret (pc := 93) (by decide +kernel) rfl rfl (Nat.le_refl _) (Nat.le_refl _) ⟨rfl, H⟩
    have x30 : ∀ (l3 l4 l5 l6 l7 : Int) (M : oM), okp (p_M_isRow_X30 f l1 l2 l3 l4 l5 (l6, l7, M)) K14 → oJ l m_M_isRow (oEf 4 K) 0 0 69 [vr 57, vi l1, vi l2, vi l3, vi l4, vi l5, vi l6, vi l7, vu] [] WD M := by
      intro l3 l4 l5 l6 l7 M H
      refine oj_ld6 (pc := 69) (by decide +kernel) ?_
      refine oj_if_le (pc := 71) (off := 12) (tgt := 83) (by decide +kernel) (by decide) H (fun _ H => ?_) (fun _ H => ?_)
      · exact h83 _ _ _ _ _ _ H
      · refine oj_ld2 (pc := 74) (by decide +kernel) ?_
        refine oj_ld5 (pc := 75) (by decide +kernel) ?_
        refine of_Si (pc := 77) (as := [_, _]) v_M_131 rfl rfl (Nat.le_of_ble_eq_true rfl) (by decide +kernel) (by decide) rfl (c_M_has_0 (okp_bind H)) (fun r M H => ?_)
        refine oj_if_eq (pc := 80) (off := 12) (tgt := 92) (by decide +kernel) (by decide) H (fun _ H => ?_) (fun _ H => ?_)
        · refine oj_iconst (pc := 92) (v := 0) ⟨by decide, by decide⟩ (by decide +kernel) ?_
          have H := e14 _ H
          exact oj_iret (pc := 93) (by decide +kernel) rfl rfl (Nat.le_refl _) (Nat.le_refl _) ⟨rfl, H⟩
        · exact h83 _ _ _ _ _ _ H
    have h30 : ∀ (g : Nat) (l3 l4 l5 l6 l7 l8 : Int) (M : oM), okp (iter (p_M_isRow_L30 f l1 l2 l3 l4 l5) g (l6, l7, l8, M)) (fun r => okp (p_M_isRow_X30 f l1 l2 l3 l4 l5 r) K14) → oJ l m_M_isRow (oEf 4 K) 0 0 30 [vr 57, vi l1, vi l2, vi l3, vi l4, vi l5, vi l6, vi l7, vi l8] [] WD M := by
      intro g l3 l4 l5 l6 l7 l8 M H
      have HL := fun hs => iter_J' (Jh := fun s => oJ l m_M_isRow (oEf 4 K) 0 0 30 [vr 57, vi l1, vi l2, vi l3, vi l4, vi l5, vi s.1, vi s.2.1, vi s.2.2.1] [] WD s.2.2.2) (G := (fun r => okp (p_M_isRow_X30 f l1 l2 l3 l4 l5 r) K14)) hs g (l6, l7, l8, M) H
      refine HL ?_
      intro K30 s i30 e30 H
      obtain ⟨l6, l7, l8, M⟩ := s
      show oJ l m_M_isRow (oEf 4 K) 0 0 30 [vr 57, vi l1, vi l2, vi l3, vi l4, vi l5, vi l6, vi l7, vi l8] [] WD M
      refine oj_ld8 (pc := 30) (by decide +kernel) ?_
      refine oj_bipush (pc := 32) (v := 10) ⟨by decide, by decide⟩ (by decide +kernel) ?_
      refine oj_icmp_ge (pc := 34) (off := 35) (tgt := 69) (by decide +kernel) (by decide) H (fun _ H => ?_) (fun _ H => ?_)
      · refine oj_le (lv' := [_, _, _, _, _, _, _, _, vu]) ⟨Or.inr rfl, Or.inr rfl, Or.inr rfl, Or.inr rfl, Or.inr rfl, Or.inr rfl, Or.inr rfl, Or.inr rfl, Or.inl rfl, trivial⟩ ?_
        have H := e30 _ H
        exact x30 _ _ _ _ _ _ H
      · refine oj_ld6 (pc := 37) (by decide +kernel) ?_
        refine oj_ald0 (pc := 39) (by decide +kernel) ?_
        refine oj_ld5 (pc := 40) (by decide +kernel) ?_
        refine oj_ld8 (pc := 42) (by decide +kernel) ?_
        refine of_Vi (pc := 44) (as := [_, _]) v_M_385 o_57 rfl rfl (Nat.le_of_ble_eq_true rfl) (by decide +kernel) (by decide) rfl (c_M_leftOf_0 (okp_bind H)) (fun r M H => ?_)
        refine oj_iadd (pc := 47) (by decide +kernel) ?_
        refine oj_st6 (pc := 48) (by decide +kernel) (by decide +kernel) ?_
        have H := okp_lt H
        refine oj_ld7 (pc := 50) (by decide +kernel) ?_
        refine oj_ald0 (pc := 52) (by decide +kernel) ?_
        refine oj_ld8 (pc := 53) (by decide +kernel) ?_
        refine oj_ld5 (pc := 55) (by decide +kernel) ?_
        refine of_Vi (pc := 57) (as := [_, _]) v_M_385 o_57 rfl rfl (Nat.le_of_ble_eq_true rfl) (by decide +kernel) (by decide) rfl (c_M_leftOf_0 (okp_bind H)) (fun r M H => ?_)
        refine oj_iadd (pc := 60) (by decide +kernel) ?_
        refine oj_st7 (pc := 61) (by decide +kernel) (by decide +kernel) ?_
        have H := okp_lt H
        refine oj_inc8 (pc := 63) (d := 1) (by decide +kernel) (by decide +kernel) ?_
        have H := okp_lt H
        refine oj_goto (pc := 66) (off := -36) (tgt := 30) (by decide +kernel) (by decide) ?_
        have H := i30 _ H
        exact H
    refine oj_ld5 (pc := 14) (by decide +kernel) ?_
    refine oj_bipush (pc := 16) (v := 10) ⟨by decide, by decide⟩ (by decide +kernel) ?_
    refine oj_icmp_ge (pc := 18) (off := 106) (tgt := 124) (by decide +kernel) (by decide) H (fun _ H => ?_) (fun _ H => ?_)
    · refine oj_ld3 (pc := 124) (by decide +kernel) ?_
      refine oj_if_ne (pc := 125) (off := 8) (tgt := 133) (by decide +kernel) (by decide) H (fun _ H => ?_) (fun _ H => ?_)
      · refine oj_le (lv' := [_, vu, vu, _, _, vu, vu, vu, vu]) ⟨Or.inr rfl, Or.inl rfl, Or.inl rfl, Or.inr rfl, Or.inr rfl, Or.inl rfl, Or.inr rfl, Or.inr rfl, Or.inr rfl, trivial⟩ ?_
        exact h133 _ _ _ H
      · refine oj_ld4 (pc := 128) (by decide +kernel) ?_
        refine oj_if_eq (pc := 130) (off := 14) (tgt := 144) (by decide +kernel) (by decide) H (fun _ H => ?_) (fun _ H => ?_)
        · refine oj_le (lv' := [_, vu, vu, vu, vu, vu, vu, vu, vu]) ⟨Or.inr rfl, Or.inl rfl, Or.inl rfl, Or.inl rfl, Or.inl rfl, Or.inl rfl, Or.inr rfl, Or.inr rfl, Or.inr rfl, trivial⟩ ?_
          exact h144  _ H
        · refine oj_le (lv' := [_, vu, vu, _, _, vu, vu, vu, vu]) ⟨Or.inr rfl, Or.inl rfl, Or.inl rfl, Or.inr rfl, Or.inr rfl, Or.inl rfl, Or.inr rfl, Or.inr rfl, Or.inr rfl, trivial⟩ ?_
          exact h133 _ _ _ H
    · refine oj_iconst (pc := 21) (v := 0) ⟨by decide, by decide⟩ (by decide +kernel) ?_
      refine oj_st6 (pc := 22) (by decide +kernel) (by decide +kernel) ?_
      refine oj_iconst (pc := 24) (v := 0) ⟨by decide, by decide⟩ (by decide +kernel) ?_
      refine oj_st7 (pc := 25) (by decide +kernel) (by decide +kernel) ?_
      refine oj_iconst (pc := 27) (v := 0) ⟨by decide, by decide⟩ (by decide +kernel) ?_
      refine oj_st8 (pc := 28) (by decide +kernel) (by decide +kernel) ?_
      exact h30 _ _ _ _ _ _ _ _ (okp_bind H)
  refine oj_ald0 (pc := 0) (by decide +kernel) ?_
  refine oj_ld1 (pc := 1) (by decide +kernel) ?_
  refine of_Vi (pc := 2) (as := [_]) v_M_388 o_57 rfl rfl (Nat.le_of_ble_eq_true rfl) (by decide +kernel) (by decide) rfl (c_M_reachLeft_0 (okp_bind H)) (fun r M H => ?_)
  refine oj_st2 (pc := 5) (by decide +kernel) (by decide +kernel) ?_
  refine oj_iconst (pc := 6) (v := 0) ⟨by decide, by decide⟩ (by decide +kernel) ?_
  refine oj_st3 (pc := 7) (by decide +kernel) (by decide +kernel) ?_
  refine oj_iconst (pc := 8) (v := 0) ⟨by decide, by decide⟩ (by decide +kernel) ?_
  refine oj_st4 (pc := 9) (by decide +kernel) (by decide +kernel) ?_
  refine oj_iconst (pc := 11) (v := 0) ⟨by decide, by decide⟩ (by decide +kernel) ?_
  refine oj_st5 (pc := 12) (by decide +kernel) (by decide +kernel) ?_
  exact h14 _ _ _ _ _ _ _ H
theorem c_M_canGo_0 {l : Launch} {f : Nat} {l1 l2 : Int} {M : oM} {K : Int × oM → Prop} (H : okp (p_M_canGo f l1 l2 M) K) : oKf l m_M_canGo 5 [vr 57, vi l1, vi l2] M K := by
  refine oK_intro (lv := [vr 57, vi l1, vi l2, vu]) (by decide +kernel) (Nat.le_of_ble_eq_true rfl) rfl ?_
  refine oj_ald0 (pc := 0) (by decide +kernel) ?_
  refine oj_ld1 (pc := 1) (by decide +kernel) ?_
  refine oj_ld2 (pc := 2) (by decide +kernel) ?_
  refine of_Vi (pc := 3) (as := [_, _]) v_M_385 o_57 rfl rfl (Nat.le_of_ble_eq_true rfl) (by decide +kernel) (by decide) rfl (c_M_leftOf_0 (okp_bind H)) (fun r M H => ?_)
  refine oj_if_ne (pc := 6) (off := 5) (tgt := 11) (by decide +kernel) (by decide) H (fun _ H => ?_) (fun _ H => ?_)
  · refine oj_ald0 (pc := 11) (by decide +kernel) ?_
    refine oj_getR' (pc := 12) f_M_83 s_57_46 (by decide +kernel) ?_
    refine oj_bipush (pc := 15) (v := 10) ⟨by decide, by decide⟩ (by decide +kernel) ?_
    refine oj_ld1 (pc := 17) (by decide +kernel) ?_
    refine oj_imul (pc := 18) (by decide +kernel) ?_
    refine oj_ld2 (pc := 19) (by decide +kernel) ?_
    refine oj_iadd (pc := 20) (by decide +kernel) ?_
    refine oj_ald0 (pc := 21) (by decide +kernel) ?_
    refine oj_ld1 (pc := 22) (by decide +kernel) ?_
    refine oj_ld2 (pc := 23) (by decide +kernel) ?_
    refine of_Vi (pc := 24) (as := [_, _]) v_M_385 o_57 rfl rfl (Nat.le_of_ble_eq_true rfl) (by decide +kernel) (by decide) rfl (c_M_leftOf_0 (okp_bind H)) (fun r M H => ?_)
    refine oj_iconst (pc := 27) (v := 1) ⟨by decide, by decide⟩ (by decide +kernel) ?_
    refine oj_isub (pc := 28) (by decide +kernel) ?_
    refine oj_iast (pc := 29) (NN := 100) a_82 rfl (by decide +kernel) H (fun H => ?_)
    have H := okp_lt H
    refine oj_ald0 (pc := 30) (by decide +kernel) ?_
    refine oj_ld2 (pc := 31) (by decide +kernel) ?_
    refine of_Vi (pc := 32) (as := [_]) v_M_391 o_57 rfl rfl (Nat.le_of_ble_eq_true rfl) (by decide +kernel) (by decide) rfl (c_M_isRow_0 (okp_bind H)) (fun r M H => ?_)
    refine oj_st3 (pc := 35) (by decide +kernel) (by decide +kernel) ?_
    refine oj_ald0 (pc := 36) (by decide +kernel) ?_
    refine oj_getR' (pc := 37) f_M_83 s_57_46 (by decide +kernel) ?_
    refine oj_bipush (pc := 40) (v := 10) ⟨by decide, by decide⟩ (by decide +kernel) ?_
    refine oj_ld1 (pc := 42) (by decide +kernel) ?_
    refine oj_imul (pc := 43) (by decide +kernel) ?_
    refine oj_ld2 (pc := 44) (by decide +kernel) ?_
    refine oj_iadd (pc := 45) (by decide +kernel) ?_
    refine oj_ald0 (pc := 46) (by decide +kernel) ?_
    refine oj_ld1 (pc := 47) (by decide +kernel) ?_
    refine oj_ld2 (pc := 48) (by decide +kernel) ?_
    refine of_Vi (pc := 49) (as := [_, _]) v_M_385 o_57 rfl rfl (Nat.le_of_ble_eq_true rfl) (by decide +kernel) (by decide) rfl (c_M_leftOf_0 (okp_bind H)) (fun r M H => ?_)
    refine oj_iconst (pc := 52) (v := 1) ⟨by decide, by decide⟩ (by decide +kernel) ?_
    refine oj_iadd (pc := 53) (by decide +kernel) ?_
    refine oj_iast (pc := 54) (NN := 100) a_82 rfl (by decide +kernel) H (fun H => ?_)
    have H := okp_lt H
    refine oj_ld3 (pc := 55) (by decide +kernel) ?_
    exact oj_zret (pc := 56) (by decide +kernel) rfl (Nat.le_refl _) (Nat.le_refl _) H (fun H => ⟨rfl, H⟩)
  · refine oj_iconst (pc := 9) (v := 0) ⟨by decide, by decide⟩ (by decide +kernel) ?_
    exact oj_iret (pc := 10) (by decide +kernel) rfl rfl (Nat.le_refl _) (Nat.le_refl _) ⟨rfl, H⟩
theorem c_M_laysTour_0 {l : Launch} {f : Nat} {l1 l2 : Int} {M : oM} {K : Int × oM → Prop} (H : okp (p_M_laysTour f l1 l2 M) K) : oKf l m_M_laysTour 6 [vr 57, vi l1, vi l2] M K := by
  refine oK_intro (lv := [vr 57, vi l1, vi l2, vu, vu, vu]) (by decide +kernel) (Nat.le_of_ble_eq_true rfl) rfl ?_
  have h43 : ∀ (g : Nat) (l2 l3 l4 : Int) (M : oM), okp (iter (p_M_laysTour_L43 f l2) g (l3, l4, M)) K → oJ l m_M_laysTour (oEf 6 K) 0 0 43 [vr 57, vu, vi l2, vi l3, vi l4, vu] [] WD M := by
    intro g l2 l3 l4 M H
    have HL := fun hs => iter_J' (Jh := fun s => oJ l m_M_laysTour (oEf 6 K) 0 0 43 [vr 57, vu, vi l2, vi s.1, vi s.2.1, vu] [] WD s.2.2) (G := K) hs g (l3, l4, M) H
    refine HL ?_
    intro K43 s i43 e43 H
    obtain ⟨l3, l4, M⟩ := s
    show oJ l m_M_laysTour (oEf 6 K) 0 0 43 [vr 57, vu, vi l2, vi l3, vi l4, vu] [] WD M
    have x52 : ∀ (l3 l4 l5 : Int) (M : oM), okp (p_M_laysTour_X52 f l2 l3 l4 (l5, M)) K43 → oJ l m_M_laysTour (oEf 6 K) 0 0 71 [vr 57, vu, vi l2, vi l3, vi l4, vi l5] [] WD M := by
      intro l3 l4 l5 M H
      unfold p_M_laysTour_X52 at H
      refine oj_ald0 (pc := 71) (by decide +kernel) ?_
      refine oj_getR' (pc := 72) f_M_83 s_57_46 (by decide +kernel) ?_
      refine oj_bipush (pc := 75) (v := 10) ⟨by decide, by decide⟩ (by decide +kernel) ?_
      refine oj_ld3 (pc := 77) (by decide +kernel) ?_
      refine oj_imul (pc := 78) (by decide +kernel) ?_
      refine oj_ld5 (pc := 79) (by decide +kernel) ?_
      refine oj_iadd (pc := 81) (by decide +kernel) ?_
      refine oj_ald0 (pc := 82) (by decide +kernel) ?_
      refine oj_ld3 (pc := 83) (by decide +kernel) ?_
      refine oj_ld5 (pc := 84) (by decide +kernel) ?_
      refine of_Vi (pc := 86) (as := [_, _]) v_M_385 o_57 rfl rfl (Nat.le_of_ble_eq_true rfl) (by decide +kernel) (by decide) rfl (c_M_leftOf_0 (okp_bind H)) (fun r M H => ?_)
      refine oj_iconst (pc := 89) (v := 1) ⟨by decide, by decide⟩ (by decide +kernel) ?_
      refine oj_isub (pc := 90) (by decide +kernel) ?_
      refine oj_iast (pc := 91) (NN := 100) a_82 rfl (by decide +kernel) H (fun H => ?_)
      have H := okp_lt H
      refine oj_ald0 (pc := 92) (by decide +kernel) ?_
      refine oj_getR' (pc := 93) f_M_86 s_57_47 (by decide +kernel) ?_
      refine oj_ld4 (pc := 96) (by decide +kernel) ?_
      refine oj_ld5 (pc := 98) (by decide +kernel) ?_
      refine oj_iast (pc := 100) (NN := 60) a_83 rfl (by decide +kernel) H (fun H => ?_)
      have H := okp_lt H
      refine oj_ld5 (pc := 101) (by decide +kernel) ?_
      refine oj_st3 (pc := 103) (by decide +kernel) (by decide +kernel) ?_
      refine oj_inc4 (pc := 104) (d := 1) (by decide +kernel) (by decide +kernel) ?_
      have H := okp_lt H
      refine oj_goto (pc := 107) (off := -64) (tgt := 43) (by decide +kernel) (by decide) ?_
      refine oj_le (lv' := [_, vu, _, _, _, vu]) ⟨Or.inr rfl, Or.inr rfl, Or.inr rfl, Or.inr rfl, Or.inr rfl, Or.inl rfl, trivial⟩ ?_
      have H := i43 _ H
      exact H
    have h52 : ∀ (g : Nat) (l3 l4 l5 : Int) (M : oM), okp (iter (p_M_laysTour_L52 f l2 l3 l4) g (l5, M)) (fun r => okp (p_M_laysTour_X52 f l2 l3 l4 r) K43) → oJ l m_M_laysTour (oEf 6 K) 0 0 52 [vr 57, vu, vi l2, vi l3, vi l4, vi l5] [] WD M := by
      intro g l3 l4 l5 M H
      have HL := fun hs => iter_J' (Jh := fun s => oJ l m_M_laysTour (oEf 6 K) 0 0 52 [vr 57, vu, vi l2, vi l3, vi l4, vi s.1] [] WD s.2) (G := (fun r => okp (p_M_laysTour_X52 f l2 l3 l4 r) K43)) hs g (l5, M) H
      refine HL ?_
      intro K52 s i52 e52 H
      obtain ⟨l5, M⟩ := s
      show oJ l m_M_laysTour (oEf 6 K) 0 0 52 [vr 57, vu, vi l2, vi l3, vi l4, vi l5] [] WD M
      unfold p_M_laysTour_L52 at H
      refine oj_ald0 (pc := 52) (by decide +kernel) ?_
      refine oj_ld3 (pc := 53) (by decide +kernel) ?_
      refine oj_ld5 (pc := 54) (by decide +kernel) ?_
      refine of_Vi (pc := 56) (as := [_, _]) v_M_394 o_57 rfl rfl (Nat.le_of_ble_eq_true rfl) (by decide +kernel) (by decide) rfl (c_M_canGo_0 (okp_bind H)) (fun r M H => ?_)
      refine oj_if_ne (pc := 59) (off := 12) (tgt := 71) (by decide +kernel) (by decide) H (fun _ H => ?_) (fun _ H => ?_)
      · have H := e52 _ H
        exact x52 _ _ _ _ H
      · refine oj_ld5 (pc := 62) (by decide +kernel) ?_
        refine oj_iconst (pc := 64) (v := 1) ⟨by decide, by decide⟩ (by decide +kernel) ?_
        refine oj_iadd (pc := 65) (by decide +kernel) ?_
        refine oj_st5 (pc := 66) (by decide +kernel) (by decide +kernel) ?_
        have H := okp_lt H
        refine oj_goto (pc := 68) (off := -16) (tgt := 52) (by decide +kernel) (by decide) ?_
        have H := i52 _ H
        exact H
    refine oj_ld4 (pc := 43) (by decide +kernel) ?_
    refine oj_ld2 (pc := 45) (by decide +kernel) ?_
    refine oj_icmp_ge (pc := 46) (off := 64) (tgt := 110) (by decide +kernel) (by decide) H (fun _ H => ?_) (fun _ H => ?_)
    · refine oj_iconst (pc := 110) (v := 1) ⟨by decide, by decide⟩ (by decide +kernel) ?_
      have H := e43 _ H
      exact oj_iret (pc := 111) (by decide +kernel) rfl rfl (Nat.le_refl _) (Nat.le_refl _) ⟨rfl, H⟩
    · refine oj_iconst (pc := 49) (v := 0) ⟨by decide, by decide⟩ (by decide +kernel) ?_
      refine oj_st5 (pc := 50) (by decide +kernel) (by decide +kernel) ?_
      exact h52 _ _ _ _ _ (okp_bind H)
  have x2 : ∀ (l1 l2 : Int) (M : oM), okp (p_M_laysTour_X2 f l1 l2 M) K → oJ l m_M_laysTour (oEf 6 K) 0 0 28 [vr 57, vi l1, vi l2, vu, vu, vu] [] WD M := by
    intro l1 l2 M H
    unfold p_M_laysTour_X2 at H
    refine oj_ald0 (pc := 28) (by decide +kernel) ?_
    refine oj_ld1 (pc := 29) (by decide +kernel) ?_
    refine of_Vi (pc := 30) (as := [_]) v_M_391 o_57 rfl rfl (Nat.le_of_ble_eq_true rfl) (by decide +kernel) (by decide) rfl (c_M_isRow_0 (okp_bind H)) (fun r M H => ?_)
    refine oj_if_ne (pc := 33) (off := 5) (tgt := 38) (by decide +kernel) (by decide) H (fun _ H => ?_) (fun _ H => ?_)
    · refine oj_ld1 (pc := 38) (by decide +kernel) ?_
      refine oj_st3 (pc := 39) (by decide +kernel) (by decide +kernel) ?_
      refine oj_iconst (pc := 40) (v := 0) ⟨by decide, by decide⟩ (by decide +kernel) ?_
      refine oj_st4 (pc := 41) (by decide +kernel) (by decide +kernel) ?_
      refine oj_le (lv' := [_, vu, _, _, _, vu]) ⟨Or.inr rfl, Or.inl rfl, Or.inr rfl, Or.inr rfl, Or.inr rfl, Or.inr rfl, trivial⟩ ?_
      exact h43 _ _ _ _ _ H
    · refine oj_iconst (pc := 36) (v := 0) ⟨by decide, by decide⟩ (by decide +kernel) ?_
      exact oj_iret (pc := 37) (by decide +kernel) rfl rfl (Nat.le_refl _) (Nat.le_refl _) ⟨rfl, H⟩
  have h2 : ∀ (g : Nat) (l1 l2 l3 : Int) (M : oM), okp (iter (p_M_laysTour_L2 f l1 l2) g (l3, M)) (fun r => okp (p_M_laysTour_X2 f l1 l2 r) K) → oJ l m_M_laysTour (oEf 6 K) 0 0 2 [vr 57, vi l1, vi l2, vi l3, vu, vu] [] WD M := by
    intro g l1 l2 l3 M H
    have HL := fun hs => iter_J' (Jh := fun s => oJ l m_M_laysTour (oEf 6 K) 0 0 2 [vr 57, vi l1, vi l2, vi s.1, vu, vu] [] WD s.2) (G := (fun r => okp (p_M_laysTour_X2 f l1 l2 r) K)) hs g (l3, M) H
    refine HL ?_
    intro K2 s i2 e2 H
    obtain ⟨l3, M⟩ := s
    show oJ l m_M_laysTour (oEf 6 K) 0 0 2 [vr 57, vi l1, vi l2, vi l3, vu, vu] [] WD M
    refine oj_ld3 (pc := 2) (by decide +kernel) ?_
    refine oj_bipush (pc := 3) (v := 100) ⟨by decide, by decide⟩ (by decide +kernel) ?_
    refine oj_icmp_ge (pc := 5) (off := 23) (tgt := 28) (by decide +kernel) (by decide) H (fun _ H => ?_) (fun _ H => ?_)
    · refine oj_le (lv' := [_, _, _, vu, vu, vu]) ⟨Or.inr rfl, Or.inr rfl, Or.inr rfl, Or.inl rfl, Or.inr rfl, Or.inr rfl, trivial⟩ ?_
      have H := e2 _ H
      exact x2 _ _ _ H
    · refine oj_ald0 (pc := 8) (by decide +kernel) ?_
      refine oj_getR' (pc := 9) f_M_83 s_57_46 (by decide +kernel) ?_
      refine oj_ld3 (pc := 12) (by decide +kernel) ?_
      refine oj_ald0 (pc := 13) (by decide +kernel) ?_
      refine oj_getR' (pc := 14) f_M_7 s_57_0 (by decide +kernel) ?_
      refine oj_iconst (pc := 17) (v := 0) ⟨by decide, by decide⟩ (by decide +kernel) ?_
      refine oj_ld3 (pc := 18) (by decide +kernel) ?_
      refine oj_iadd (pc := 19) (by decide +kernel) ?_
      refine oj_iald (pc := 20) (NN := 159) a_58 rfl (by decide +kernel) H (fun H => ?_)
      refine oj_iast (pc := 21) (NN := 100) a_82 rfl (by decide +kernel) H (fun H => ?_)
      have H := okp_lt H
      refine oj_inc3 (pc := 22) (d := 1) (by decide +kernel) (by decide +kernel) ?_
      have H := okp_lt H
      refine oj_goto (pc := 25) (off := -23) (tgt := 2) (by decide +kernel) (by decide) ?_
      have H := i2 _ H
      exact H
  refine oj_iconst (pc := 0) (v := 0) ⟨by decide, by decide⟩ (by decide +kernel) ?_
  refine oj_st3 (pc := 1) (by decide +kernel) (by decide +kernel) ?_
  exact h2 _ _ _ _ _ (okp_bind H)
theorem c_M_tour_0 {l : Launch} {f : Nat} {l1 : Int} {M : oM} {K : Int × oM → Prop} (H : okp (p_M_tour f l1 M) K) : oKf l m_M_tour 7 [vr 57, vi l1] M K := by
  refine oK_intro (lv := [vr 57, vi l1, vu, vu]) (by decide +kernel) (Nat.le_of_ble_eq_true rfl) rfl ?_
  have h143 : ∀ (M : oM), okp (p_M_tour_B143 f M) K → oJ l m_M_tour (oEf 7 K) 0 0 143 [vr 57, vu, vu, vu] [] WD M := by
    intro  M H
    refine oj_iconst (pc := 143) (v := 1) ⟨by decide, by decide⟩ (by decide +kernel) ?_
    refine oj_goto (pc := 144) (off := 4) (tgt := 148) (by decide +kernel) (by decide) ?_
    exact oj_iret (pc := 148) (by decide +kernel) rfl rfl (Nat.le_refl _) (Nat.le_refl _) ⟨rfl, H⟩
  have h107 : ∀ (l1 l2 : Int) (M : oM), okp (p_M_tour_B107 f l1 l2 M) K → oJ l m_M_tour (oEf 7 K) 0 0 107 [vr 57, vi l1, vi l2, vu] [] WD M := by
    intro l1 l2 M H
    refine oj_ld1 (pc := 107) (by decide +kernel) ?_
    refine oj_bipush (pc := 108) (v := 100) ⟨by decide, by decide⟩ (by decide +kernel) ?_
    refine oj_icmp_ge (pc := 110) (off := 10) (tgt := 120) (by decide +kernel) (by decide) H (fun _ H => ?_) (fun _ H => ?_)
    · refine oj_ld2 (pc := 120) (by decide +kernel) ?_
      refine oj_if_eq (pc := 121) (off := 22) (tgt := 143) (by decide +kernel) (by decide) H (fun _ H => ?_) (fun _ H => ?_)
      · refine oj_le (lv' := [_, vu, vu, vu]) ⟨Or.inr rfl, Or.inl rfl, Or.inl rfl, Or.inr rfl, trivial⟩ ?_
        exact h143  _ H
      · refine oj_ald0 (pc := 124) (by decide +kernel) ?_
        refine oj_getR' (pc := 125) f_M_86 s_57_47 (by decide +kernel) ?_
        refine oj_ld2 (pc := 128) (by decide +kernel) ?_
        refine oj_iconst (pc := 129) (v := 1) ⟨by decide, by decide⟩ (by decide +kernel) ?_
        refine oj_isub (pc := 130) (by decide +kernel) ?_
        refine oj_iald (pc := 131) (NN := 60) a_83 rfl (by decide +kernel) H (fun H => ?_)
        refine oj_ald0 (pc := 132) (by decide +kernel) ?_
        refine oj_getR' (pc := 133) f_M_7 s_57_0 (by decide +kernel) ?_
        refine oj_sipush (pc := 136) (v := 151) ⟨by decide, by decide⟩ (by decide +kernel) ?_
        refine oj_iald (pc := 139) (NN := 159) a_58 rfl (by decide +kernel) H (fun H => ?_)
        refine oj_icmp_ne (pc := 140) (off := 7) (tgt := 147) (by decide +kernel) (by decide) H (fun _ H => ?_) (fun _ H => ?_)
        · refine oj_iconst (pc := 147) (v := 0) ⟨by decide, by decide⟩ (by decide +kernel) ?_
          exact oj_iret (pc := 148) (by decide +kernel) rfl rfl (Nat.le_refl _) (Nat.le_refl _) ⟨rfl, H⟩
        · refine oj_le (lv' := [_, vu, vu, vu]) ⟨Or.inr rfl, Or.inl rfl, Or.inl rfl, Or.inr rfl, trivial⟩ ?_
          exact h143  _ H
    · refine oj_ald0 (pc := 113) (by decide +kernel) ?_
      refine oj_getR' (pc := 114) f_M_86 s_57_47 (by decide +kernel) ?_
      refine oj_ld1 (pc := 117) (by decide +kernel) ?_
      refine oj_iald (pc := 118) (NN := 60) a_83 rfl (by decide +kernel) H (fun H => ?_)
      exact oj_iret (pc := 119) (by decide +kernel) rfl rfl (Nat.le_refl _) (Nat.le_refl _) ⟨rfl, H⟩
  have h23 : ∀ (l1 : Int) (M : oM), okp (p_M_tour_B23 f l1 M) K → oJ l m_M_tour (oEf 7 K) 0 0 23 [vr 57, vi l1, vu, vu] [] WD M := by
    intro l1 M H
    refine oj_ald0 (pc := 23) (by decide +kernel) ?_
    refine oj_getR' (pc := 24) f_M_7 s_57_0 (by decide +kernel) ?_
    refine oj_sipush (pc := 27) (v := 151) ⟨by decide, by decide⟩ (by decide +kernel) ?_
    refine oj_iald (pc := 30) (NN := 159) a_58 rfl (by decide +kernel) H (fun H => ?_)
    refine oj_if_ge (pc := 31) (off := 6) (tgt := 37) (by decide +kernel) (by decide) H (fun _ H => ?_) (fun _ H => ?_)
    · refine oj_ald0 (pc := 37) (by decide +kernel) ?_
      refine of_Vi (pc := 38) (as := []) v_M_296 o_57 rfl rfl (Nat.le_of_ble_eq_true rfl) (by decide +kernel) (by decide) rfl (c_M_owedInAll_0 (okp_bind H)) (fun r M H => ?_)
      refine oj_st2 (pc := 41) (by decide +kernel) (by decide +kernel) ?_
      refine oj_ld2 (pc := 42) (by decide +kernel) ?_
      refine oj_bipush (pc := 43) (v := 60) ⟨by decide, by decide⟩ (by decide +kernel) ?_
      refine oj_icmp_le (pc := 45) (off := 6) (tgt := 51) (by decide +kernel) (by decide) H (fun _ H => ?_) (fun _ H => ?_)
      · refine oj_ld1 (pc := 51) (by decide +kernel) ?_
        refine oj_bipush (pc := 52) (v := 101) ⟨by decide, by decide⟩ (by decide +kernel) ?_
        refine oj_icmp_ne (pc := 54) (off := 5) (tgt := 59) (by decide +kernel) (by decide) H (fun _ H => ?_) (fun _ H => ?_)
        · refine oj_ald0 (pc := 59) (by decide +kernel) ?_
          refine oj_ald0 (pc := 60) (by decide +kernel) ?_
          refine oj_getR' (pc := 61) f_M_7 s_57_0 (by decide +kernel) ?_
          refine oj_sipush (pc := 64) (v := 151) ⟨by decide, by decide⟩ (by decide +kernel) ?_
          refine oj_iald (pc := 67) (NN := 159) a_58 rfl (by decide +kernel) H (fun H => ?_)
          refine oj_ld2 (pc := 68) (by decide +kernel) ?_
          refine of_Vi (pc := 69) (as := [_, _]) v_M_397 o_57 rfl rfl (Nat.le_of_ble_eq_true rfl) (by decide +kernel) (by decide) rfl (c_M_laysTour_0 (okp_bind H)) (fun r M H => ?_)
          refine oj_st3 (pc := 72) (by decide +kernel) (by decide +kernel) ?_
          refine oj_ld1 (pc := 73) (by decide +kernel) ?_
          refine oj_bipush (pc := 74) (v := 100) ⟨by decide, by decide⟩ (by decide +kernel) ?_
          refine oj_icmp_ne (pc := 76) (off := 13) (tgt := 89) (by decide +kernel) (by decide) H (fun _ H => ?_) (fun _ H => ?_)
          · refine oj_ld3 (pc := 89) (by decide +kernel) ?_
            refine oj_if_eq (pc := 90) (off := 14) (tgt := 104) (by decide +kernel) (by decide) H (fun _ H => ?_) (fun _ H => ?_)
            · refine oj_bipush (pc := 104) (v := -4) ⟨by decide, by decide⟩ (by decide +kernel) ?_
              exact oj_iret (pc := 106) (by decide +kernel) rfl rfl (Nat.le_refl _) (Nat.le_refl _) ⟨rfl, H⟩
            · refine oj_ld1 (pc := 93) (by decide +kernel) ?_
              refine oj_bipush (pc := 94) (v := 100) ⟨by decide, by decide⟩ (by decide +kernel) ?_
              refine oj_icmp_ge (pc := 96) (off := 11) (tgt := 107) (by decide +kernel) (by decide) H (fun _ H => ?_) (fun _ H => ?_)
              · refine oj_le (lv' := [_, _, _, vu]) ⟨Or.inr rfl, Or.inr rfl, Or.inr rfl, Or.inl rfl, trivial⟩ ?_
                exact h107 _ _ _ H
              · refine oj_ld1 (pc := 99) (by decide +kernel) ?_
                refine oj_ld2 (pc := 100) (by decide +kernel) ?_
                refine oj_icmp_lt (pc := 101) (off := 6) (tgt := 107) (by decide +kernel) (by decide) H (fun _ H => ?_) (fun _ H => ?_)
                · refine oj_le (lv' := [_, _, _, vu]) ⟨Or.inr rfl, Or.inr rfl, Or.inr rfl, Or.inl rfl, trivial⟩ ?_
                  exact h107 _ _ _ H
                · refine oj_bipush (pc := 104) (v := -4) ⟨by decide, by decide⟩ (by decide +kernel) ?_
                  exact oj_iret (pc := 106) (by decide +kernel) rfl rfl (Nat.le_refl _) (Nat.le_refl _) ⟨rfl, H⟩
          · refine oj_ld3 (pc := 79) (by decide +kernel) ?_
            refine oj_if_eq (pc := 80) (off := 7) (tgt := 87) (by decide +kernel) (by decide) H (fun _ H => ?_) (fun _ H => ?_)
            · refine oj_iconst (pc := 87) (v := 0) ⟨by decide, by decide⟩ (by decide +kernel) ?_
              exact oj_iret (pc := 88) (by decide +kernel) rfl rfl (Nat.le_refl _) (Nat.le_refl _) ⟨rfl, H⟩
            · refine oj_iconst (pc := 83) (v := 1) ⟨by decide, by decide⟩ (by decide +kernel) ?_
              refine oj_goto (pc := 84) (off := 4) (tgt := 88) (by decide +kernel) (by decide) ?_
              exact oj_iret (pc := 88) (by decide +kernel) rfl rfl (Nat.le_refl _) (Nat.le_refl _) ⟨rfl, H⟩
        · refine oj_ld2 (pc := 57) (by decide +kernel) ?_
          exact oj_iret (pc := 58) (by decide +kernel) rfl rfl (Nat.le_refl _) (Nat.le_refl _) ⟨rfl, H⟩
      · refine oj_bipush (pc := 48) (v := -3) ⟨by decide, by decide⟩ (by decide +kernel) ?_
        exact oj_iret (pc := 50) (by decide +kernel) rfl rfl (Nat.le_refl _) (Nat.le_refl _) ⟨rfl, H⟩
    · refine oj_bipush (pc := 34) (v := -2) ⟨by decide, by decide⟩ (by decide +kernel) ?_
      exact oj_iret (pc := 36) (by decide +kernel) rfl rfl (Nat.le_refl _) (Nat.le_refl _) ⟨rfl, H⟩
  refine oj_ld1 (pc := 0) (by decide +kernel) ?_
  refine oj_iconst (pc := 1) (v := 0) ⟨by decide, by decide⟩ (by decide +kernel) ?_
  refine oj_bipush (pc := 2) (v := 59) ⟨by decide, by decide⟩ (by decide +kernel) ?_
  refine of_Si (pc := 4) (as := [_, _, _]) v_M_123 rfl rfl (Nat.le_of_ble_eq_true rfl) (by decide +kernel) (by decide) rfl (c_M_in_0 (okp_bind H)) (fun r M H => ?_)
  refine oj_if_ne (pc := 7) (off := 16) (tgt := 23) (by decide +kernel) (by decide) H (fun _ H => ?_) (fun _ H => ?_)
  · exact h23 _ _ H
  · refine oj_ld1 (pc := 10) (by decide +kernel) ?_
    refine oj_bipush (pc := 11) (v := 100) ⟨by decide, by decide⟩ (by decide +kernel) ?_
    refine oj_bipush (pc := 13) (v := 102) ⟨by decide, by decide⟩ (by decide +kernel) ?_
    refine of_Si (pc := 15) (as := [_, _, _]) v_M_123 rfl rfl (Nat.le_of_ble_eq_true rfl) (by decide +kernel) (by decide) rfl (c_M_in_0 (okp_bind H)) (fun r M H => ?_)
    refine oj_if_ne (pc := 18) (off := 5) (tgt := 23) (by decide +kernel) (by decide) H (fun _ H => ?_) (fun _ H => ?_)
    · exact h23 _ _ H
    · refine oj_iconst (pc := 21) (v := -1) ⟨by decide, by decide⟩ (by decide +kernel) ?_
      exact oj_iret (pc := 22) (by decide +kernel) rfl rfl (Nat.le_refl _) (Nat.le_refl _) ⟨rfl, H⟩
theorem c_M_bestCoin_0 {l : Launch} {f : Nat} {l1 l2 : Int} {M : oM} {K : Int × oM → Prop} (H : okp (p_M_bestCoin f l1 l2 M) K) : oKf l m_M_bestCoin 3 [vr 57, vi l1, vi l2] M K := by
  refine oK_intro (lv := [vr 57, vi l1, vi l2, vu, vu]) (by decide +kernel) (Nat.le_of_ble_eq_true rfl) rfl ?_
  have h5 : ∀ (g : Nat) (l1 l2 l3 l4 : Int) (M : oM), okp (iter (p_M_bestCoin_L5 f l1 l2) g (l3, l4, M)) K → oJ l m_M_bestCoin (oEf 3 K) 0 0 5 [vr 57, vi l1, vi l2, vi l3, vi l4] [] WD M := by
    intro g l1 l2 l3 l4 M H
    have HL := fun hs => iter_J' (Jh := fun s => oJ l m_M_bestCoin (oEf 3 K) 0 0 5 [vr 57, vi l1, vi l2, vi s.1, vi s.2.1] [] WD s.2.2) (G := K) hs g (l3, l4, M) H
    refine HL ?_
    intro K5 s i5 e5 H
    obtain ⟨l3, l4, M⟩ := s
    show oJ l m_M_bestCoin (oEf 3 K) 0 0 5 [vr 57, vi l1, vi l2, vi l3, vi l4] [] WD M
    have h99 : ∀ (l3 l4 : Int) (M : oM), okp (p_M_bestCoin_B99_5 f l1 l2 l3 l4 M) K5 → oJ l m_M_bestCoin (oEf 3 K) 0 0 99 [vr 57, vi l1, vi l2, vi l3, vi l4] [] WD M := by
      intro l3 l4 M H
      refine oj_inc4 (pc := 99) (d := 1) (by decide +kernel) (by decide +kernel) ?_
      have H := okp_lt H
      refine oj_goto (pc := 102) (off := -97) (tgt := 5) (by decide +kernel) (by decide) ?_
      have H := i5 _ H
      exact H
    have h96 : ∀ (l4 : Int) (M : oM), okp (p_M_bestCoin_B96_5 f l1 l2 l4 M) K5 → oJ l m_M_bestCoin (oEf 3 K) 0 0 96 [vr 57, vi l1, vi l2, vu, vi l4] [] WD M := by
      intro l4 M H
      refine oj_ld4 (pc := 96) (by decide +kernel) ?_
      refine oj_st3 (pc := 98) (by decide +kernel) (by decide +kernel) ?_
      exact h99 _ _ _ H
    refine oj_ld4 (pc := 5) (by decide +kernel) ?_
    refine oj_ald0 (pc := 7) (by decide +kernel) ?_
    refine oj_getI' (pc := 8) (ki := 50) f_M_400 s_57_50 rfl (by decide +kernel) ?_
    refine oj_icmp_ge (pc := 11) (off := 94) (tgt := 105) (by decide +kernel) (by decide) H (fun _ H => ?_) (fun _ H => ?_)
    · refine oj_ld3 (pc := 105) (by decide +kernel) ?_
      have H := e5 _ H
      exact oj_iret (pc := 106) (by decide +kernel) rfl rfl (Nat.le_refl _) (Nat.le_refl _) ⟨rfl, H⟩
    · refine oj_ald0 (pc := 14) (by decide +kernel) ?_
      refine oj_getR' (pc := 15) f_M_89 s_57_48 (by decide +kernel) ?_
      refine oj_ld4 (pc := 18) (by decide +kernel) ?_
      refine oj_iald (pc := 20) (NN := 12) a_84 rfl (by decide +kernel) H (fun H => ?_)
      refine oj_ld2 (pc := 21) (by decide +kernel) ?_
      refine oj_icmp_ne (pc := 22) (off := 77) (tgt := 99) (by decide +kernel) (by decide) H (fun _ H => ?_) (fun _ H => ?_)
      · exact h99 _ _ _ H
      · refine oj_ld1 (pc := 25) (by decide +kernel) ?_
        refine oj_ld4 (pc := 26) (by decide +kernel) ?_
        refine of_Si (pc := 28) (as := [_, _]) v_M_131 rfl rfl (Nat.le_of_ble_eq_true rfl) (by decide +kernel) (by decide) rfl (c_M_has_0 (okp_bind H)) (fun r M H => ?_)
        refine oj_if_ne (pc := 31) (off := 68) (tgt := 99) (by decide +kernel) (by decide) H (fun _ H => ?_) (fun _ H => ?_)
        · exact h99 _ _ _ H
        · refine oj_iconst (pc := 34) (v := 1) ⟨by decide, by decide⟩ (by decide +kernel) ?_
          refine oj_ald0 (pc := 35) (by decide +kernel) ?_
          refine oj_getR' (pc := 36) f_M_96 s_57_51 (by decide +kernel) ?_
          refine oj_bipush (pc := 39) (v := 10) ⟨by decide, by decide⟩ (by decide +kernel) ?_
          refine oj_ld1 (pc := 41) (by decide +kernel) ?_
          refine oj_iconst (pc := 42) (v := 1) ⟨by decide, by decide⟩ (by decide +kernel) ?_
          refine oj_ld4 (pc := 43) (by decide +kernel) ?_
          refine oj_ishl (pc := 45) (by decide +kernel) ?_
          refine oj_ior (pc := 46) (by decide +kernel) ?_
          refine oj_imul (pc := 47) (by decide +kernel) ?_
          refine oj_ald0 (pc := 48) (by decide +kernel) ?_
          refine oj_getR' (pc := 49) f_M_92 s_57_49 (by decide +kernel) ?_
          refine oj_ld4 (pc := 52) (by decide +kernel) ?_
          refine oj_iald (pc := 54) (NN := 12) a_85 rfl (by decide +kernel) H (fun H => ?_)
          refine oj_iadd (pc := 55) (by decide +kernel) ?_
          refine oj_bald (pc := 56) (NN := 40960) a_86 rfl (by decide +kernel) H (fun H => ?_)
          refine oj_iadd (pc := 57) (by decide +kernel) ?_
          refine oj_ald0 (pc := 58) (by decide +kernel) ?_
          refine oj_getR' (pc := 59) f_M_96 s_57_51 (by decide +kernel) ?_
          refine oj_bipush (pc := 62) (v := 10) ⟨by decide, by decide⟩ (by decide +kernel) ?_
          refine oj_ld1 (pc := 64) (by decide +kernel) ?_
          refine oj_imul (pc := 65) (by decide +kernel) ?_
          refine oj_ld2 (pc := 66) (by decide +kernel) ?_
          refine oj_iadd (pc := 67) (by decide +kernel) ?_
          refine oj_bald (pc := 68) (NN := 40960) a_86 rfl (by decide +kernel) H (fun H => ?_)
          refine oj_icmp_eq (pc := 69) (off := 6) (tgt := 75) (by decide +kernel) (by decide) H (fun _ H => ?_) (fun _ H => ?_)
          · refine oj_ld3 (pc := 75) (by decide +kernel) ?_
            refine oj_iconst (pc := 76) (v := -1) ⟨by decide, by decide⟩ (by decide +kernel) ?_
            refine oj_icmp_eq (pc := 77) (off := 19) (tgt := 96) (by decide +kernel) (by decide) H (fun _ H => ?_) (fun _ H => ?_)
            · refine oj_le (lv' := [_, _, _, vu, _]) ⟨Or.inr rfl, Or.inr rfl, Or.inr rfl, Or.inl rfl, Or.inr rfl, trivial⟩ ?_
              exact h96 _ _ H
            · refine oj_ald0 (pc := 80) (by decide +kernel) ?_
              refine oj_getR' (pc := 81) f_M_92 s_57_49 (by decide +kernel) ?_
              refine oj_ld4 (pc := 84) (by decide +kernel) ?_
              refine oj_iald (pc := 86) (NN := 12) a_85 rfl (by decide +kernel) H (fun H => ?_)
              refine oj_ald0 (pc := 87) (by decide +kernel) ?_
              refine oj_getR' (pc := 88) f_M_92 s_57_49 (by decide +kernel) ?_
              refine oj_ld3 (pc := 91) (by decide +kernel) ?_
              refine oj_iald (pc := 92) (NN := 12) a_85 rfl (by decide +kernel) H (fun H => ?_)
              refine oj_icmp_ge (pc := 93) (off := 6) (tgt := 99) (by decide +kernel) (by decide) H (fun _ H => ?_) (fun _ H => ?_)
              · exact h99 _ _ _ H
              · refine oj_le (lv' := [_, _, _, vu, _]) ⟨Or.inr rfl, Or.inr rfl, Or.inr rfl, Or.inl rfl, Or.inr rfl, trivial⟩ ?_
                exact h96 _ _ H
          · refine oj_goto (pc := 72) (off := 27) (tgt := 99) (by decide +kernel) (by decide) ?_
            exact h99 _ _ _ H
  refine oj_iconst (pc := 0) (v := -1) ⟨by decide, by decide⟩ (by decide +kernel) ?_
  refine oj_st3 (pc := 1) (by decide +kernel) (by decide +kernel) ?_
  refine oj_iconst (pc := 2) (v := 0) ⟨by decide, by decide⟩ (by decide +kernel) ?_
  refine oj_st4 (pc := 3) (by decide +kernel) (by decide +kernel) ?_
  exact h5 _ _ _ _ _ _ H
theorem c_M_laysCoins_0 {l : Launch} {f : Nat} {l1 : Int} {M : oM} {K : Int × oM → Prop} (H : okp (p_M_laysCoins f l1 M) K) : oKf l m_M_laysCoins 5 [vr 57, vi l1] M K := by
  refine oK_intro (lv := [vr 57, vi l1, vu, vu, vu]) (by decide +kernel) (Nat.le_of_ble_eq_true rfl) rfl ?_
  have h17 : ∀ (g : Nat) (l2 : Int) (M : oM), okp (iter (p_M_laysCoins_L17 f) g (l2, M)) K → oJ l m_M_laysCoins (oEf 5 K) 0 0 17 [vr 57, vu, vi l2, vu, vu] [] WD M := by
    intro g l2 M H
    have HL := fun hs => iter_J' (Jh := fun s => oJ l m_M_laysCoins (oEf 5 K) 0 0 17 [vr 57, vu, vi s.1, vu, vu] [] WD s.2) (G := K) hs g (l2, M) H
    refine HL ?_
    intro K17 s i17 e17 H
    obtain ⟨l2, M⟩ := s
    show oJ l m_M_laysCoins (oEf 5 K) 0 0 17 [vr 57, vu, vi l2, vu, vu] [] WD M
    have x25 : ∀ (l2 : Int) (M : oM), okp (p_M_laysCoins_X25 f l2 M) K17 → oJ l m_M_laysCoins (oEf 5 K) 0 0 87 [vr 57, vu, vi l2, vu, vu] [] WD M := by
      intro l2 M H
      unfold p_M_laysCoins_X25 at H
      refine oj_inc2 (pc := 87) (d := 1) (by decide +kernel) (by decide +kernel) ?_
      have H := okp_lt H
      refine oj_goto (pc := 90) (off := -73) (tgt := 17) (by decide +kernel) (by decide) ?_
      have H := i17 _ H
      exact H
    have h25 : ∀ (g : Nat) (l2 l3 : Int) (M : oM), okp (iter (p_M_laysCoins_L25 f l2) g (l3, M)) (fun r => okp (p_M_laysCoins_X25 f l2 r) K17) → oJ l m_M_laysCoins (oEf 5 K) 0 0 25 [vr 57, vu, vi l2, vi l3, vu] [] WD M := by
      intro g l2 l3 M H
      have HL := fun hs => iter_J' (Jh := fun s => oJ l m_M_laysCoins (oEf 5 K) 0 0 25 [vr 57, vu, vi l2, vi s.1, vu] [] WD s.2) (G := (fun r => okp (p_M_laysCoins_X25 f l2 r) K17)) hs g (l3, M) H
      refine HL ?_
      intro K25 s i25 e25 H
      obtain ⟨l3, M⟩ := s
      show oJ l m_M_laysCoins (oEf 5 K) 0 0 25 [vr 57, vu, vi l2, vi l3, vu] [] WD M
      have x34 : ∀ (l3 : Int) (M : oM), okp (p_M_laysCoins_X34 f l2 l3 M) K25 → oJ l m_M_laysCoins (oEf 5 K) 0 0 81 [vr 57, vu, vi l2, vi l3, vu] [] WD M := by
        intro l3 M H
        unfold p_M_laysCoins_X34 at H
        refine oj_inc3 (pc := 81) (d := 1) (by decide +kernel) (by decide +kernel) ?_
        have H := okp_lt H
        refine oj_goto (pc := 84) (off := -59) (tgt := 25) (by decide +kernel) (by decide) ?_
        have H := i25 _ H
        exact H
      have h34 : ∀ (g : Nat) (l3 l4 : Int) (M : oM), okp (iter (p_M_laysCoins_L34 f l2 l3) g (l4, M)) (fun r => okp (p_M_laysCoins_X34 f l2 l3 r) K25) → oJ l m_M_laysCoins (oEf 5 K) 0 0 34 [vr 57, vu, vi l2, vi l3, vi l4] [] WD M := by
        intro g l3 l4 M H
        have HL := fun hs => iter_J' (Jh := fun s => oJ l m_M_laysCoins (oEf 5 K) 0 0 34 [vr 57, vu, vi l2, vi l3, vi s.1] [] WD s.2) (G := (fun r => okp (p_M_laysCoins_X34 f l2 l3 r) K25)) hs g (l4, M) H
        refine HL ?_
        intro K34 s i34 e34 H
        obtain ⟨l4, M⟩ := s
        show oJ l m_M_laysCoins (oEf 5 K) 0 0 34 [vr 57, vu, vi l2, vi l3, vi l4] [] WD M
        unfold p_M_laysCoins_L34 at H
        refine oj_ld4 (pc := 34) (by decide +kernel) ?_
        refine oj_ald0 (pc := 36) (by decide +kernel) ?_
        refine oj_ld2 (pc := 37) (by decide +kernel) ?_
        refine oj_ld3 (pc := 38) (by decide +kernel) ?_
        refine of_Vi (pc := 39) (as := [_, _]) v_M_147 o_57 rfl rfl (Nat.le_of_ble_eq_true rfl) (by decide +kernel) (by decide) rfl (c_M_debtOf_0 (okp_bind H)) (fun r M H => ?_)
        refine oj_icmp_ge (pc := 42) (off := 39) (tgt := 81) (by decide +kernel) (by decide) H (fun _ H => ?_) (fun _ H => ?_)
        · refine oj_le (lv' := [_, vu, _, _, vu]) ⟨Or.inr rfl, Or.inr rfl, Or.inr rfl, Or.inr rfl, Or.inl rfl, trivial⟩ ?_
          have H := e34 _ H
          exact x34 _ _ H
        · refine oj_ald0 (pc := 45) (by decide +kernel) ?_
          refine oj_getR' (pc := 46) f_M_89 s_57_48 (by decide +kernel) ?_
          refine oj_ald0 (pc := 49) (by decide +kernel) ?_
          refine oj_getI' (pc := 50) (ki := 50) f_M_400 s_57_50 rfl (by decide +kernel) ?_
          refine oj_ld2 (pc := 53) (by decide +kernel) ?_
          refine oj_iast (pc := 54) (NN := 12) a_84 rfl (by decide +kernel) H (fun H => ?_)
          have H := okp_lt H
          refine oj_ald0 (pc := 55) (by decide +kernel) ?_
          refine oj_getR' (pc := 56) f_M_92 s_57_49 (by decide +kernel) ?_
          refine oj_ald0 (pc := 59) (by decide +kernel) ?_
          refine oj_getI' (pc := 60) (ki := 50) f_M_400 s_57_50 rfl (by decide +kernel) ?_
          refine oj_ld3 (pc := 63) (by decide +kernel) ?_
          refine oj_iast (pc := 64) (NN := 12) a_85 rfl (by decide +kernel) H (fun H => ?_)
          have H := okp_lt H
          refine oj_ald0 (pc := 65) (by decide +kernel) ?_
          refine oj_ald0 (pc := 66) (by decide +kernel) ?_
          refine oj_getI' (pc := 67) (ki := 50) f_M_400 s_57_50 rfl (by decide +kernel) ?_
          refine oj_iconst (pc := 70) (v := 1) ⟨by decide, by decide⟩ (by decide +kernel) ?_
          refine oj_iadd (pc := 71) (by decide +kernel) ?_
          refine oj_putI' (pc := 72) (ki := 50) f_M_400 s_57_50 rfl (by decide +kernel) ?_
          have H := okp_lt H
          refine oj_inc4 (pc := 75) (d := 1) (by decide +kernel) (by decide +kernel) ?_
          have H := okp_lt H
          refine oj_goto (pc := 78) (off := -44) (tgt := 34) (by decide +kernel) (by decide) ?_
          have H := i34 _ H
          exact H
      refine oj_ld3 (pc := 25) (by decide +kernel) ?_
      refine oj_bipush (pc := 26) (v := 10) ⟨by decide, by decide⟩ (by decide +kernel) ?_
      refine oj_icmp_ge (pc := 28) (off := 59) (tgt := 87) (by decide +kernel) (by decide) H (fun _ H => ?_) (fun _ H => ?_)
      · refine oj_le (lv' := [_, vu, _, vu, vu]) ⟨Or.inr rfl, Or.inr rfl, Or.inr rfl, Or.inl rfl, Or.inr rfl, trivial⟩ ?_
        have H := e25 _ H
        exact x25 _ _ H
      · refine oj_iconst (pc := 31) (v := 0) ⟨by decide, by decide⟩ (by decide +kernel) ?_
        refine oj_st4 (pc := 32) (by decide +kernel) (by decide +kernel) ?_
        exact h34 _ _ _ _ (okp_bind H)
    refine oj_ld2 (pc := 17) (by decide +kernel) ?_
    refine oj_bipush (pc := 18) (v := 10) ⟨by decide, by decide⟩ (by decide +kernel) ?_
    refine oj_icmp_ge (pc := 20) (off := 73) (tgt := 93) (by decide +kernel) (by decide) H (fun _ H => ?_) (fun _ H => ?_)
    · refine oj_iconst (pc := 93) (v := 1) ⟨by decide, by decide⟩ (by decide +kernel) ?_
      have H := e17 _ H
      exact oj_iret (pc := 94) (by decide +kernel) rfl rfl (Nat.le_refl _) (Nat.le_refl _) ⟨rfl, H⟩
    · refine oj_iconst (pc := 23) (v := 0) ⟨by decide, by decide⟩ (by decide +kernel) ?_
      refine oj_st3 (pc := 24) (by decide +kernel) (by decide +kernel) ?_
      exact h25 _ _ _ _ (okp_bind H)
  refine oj_ald0 (pc := 0) (by decide +kernel) ?_
  refine oj_iconst (pc := 1) (v := 0) ⟨by decide, by decide⟩ (by decide +kernel) ?_
  refine oj_putI' (pc := 2) (ki := 50) f_M_400 s_57_50 rfl (by decide +kernel) ?_
  have H := okp_lt H
  refine oj_ald0 (pc := 5) (by decide +kernel) ?_
  refine of_Vi (pc := 6) (as := []) v_M_296 o_57 rfl rfl (Nat.le_of_ble_eq_true rfl) (by decide +kernel) (by decide) rfl (c_M_owedInAll_0 (okp_bind H)) (fun r M H => ?_)
  refine oj_ld1 (pc := 9) (by decide +kernel) ?_
  refine oj_icmp_le (pc := 10) (off := 5) (tgt := 15) (by decide +kernel) (by decide) H (fun _ H => ?_) (fun _ H => ?_)
  · refine oj_iconst (pc := 15) (v := 0) ⟨by decide, by decide⟩ (by decide +kernel) ?_
    refine oj_st2 (pc := 16) (by decide +kernel) (by decide +kernel) ?_
    refine oj_le (lv' := [_, vu, _, vu, vu]) ⟨Or.inr rfl, Or.inl rfl, Or.inr rfl, Or.inr rfl, Or.inr rfl, trivial⟩ ?_
    exact h17 _ _ _ H
  · refine oj_iconst (pc := 13) (v := 0) ⟨by decide, by decide⟩ (by decide +kernel) ?_
    exact oj_iret (pc := 14) (by decide +kernel) rfl rfl (Nat.le_refl _) (Nat.le_refl _) ⟨rfl, H⟩
theorem c_M_laysMore_0 {l : Launch} {f : Nat} {M : oM} {K : Int × oM → Prop} (H : okp (p_M_laysMore f M) K) : oKf l m_M_laysMore 3 [vr 57] M K := by
  refine oK_intro (lv := [vr 57, vu, vu, vu, vu, vu]) (by decide +kernel) (Nat.le_of_ble_eq_true rfl) rfl ?_
  have h11 : ∀ (g : Nat) (l2 : Int) (M : oM), okp (iter (p_M_laysMore_L11 f) g (l2, M)) K → oJ l m_M_laysMore (oEf 3 K) 0 0 11 [vr 57, vu, vi l2, vu, vu, vu] [] WD M := by
    intro g l2 M H
    have HL := fun hs => iter_J' (Jh := fun s => oJ l m_M_laysMore (oEf 3 K) 0 0 11 [vr 57, vu, vi s.1, vu, vu, vu] [] WD s.2) (G := K) hs g (l2, M) H
    refine HL ?_
    intro K11 s i11 e11 H
    obtain ⟨l2, M⟩ := s
    show oJ l m_M_laysMore (oEf 3 K) 0 0 11 [vr 57, vu, vi l2, vu, vu, vu] [] WD M
    have x17 : ∀ (l2 : Int) (M : oM), okp (p_M_laysMore_X17 f l2 M) K11 → oJ l m_M_laysMore (oEf 3 K) 0 0 115 [vr 57, vu, vi l2, vu, vu, vu] [] WD M := by
      intro l2 M H
      unfold p_M_laysMore_X17 at H
      refine oj_inc2 (pc := 115) (d := -1) (by decide +kernel) (by decide +kernel) ?_
      have H := okp_lt H
      refine oj_goto (pc := 118) (off := -107) (tgt := 11) (by decide +kernel) (by decide) ?_
      have H := i11 _ H
      exact H
    have h17 : ∀ (g : Nat) (l2 l3 : Int) (M : oM), okp (iter (p_M_laysMore_L17 f l2) g (l3, M)) (fun r => okp (p_M_laysMore_X17 f l2 r) K11) → oJ l m_M_laysMore (oEf 3 K) 0 0 17 [vr 57, vu, vi l2, vi l3, vu, vu] [] WD M := by
      intro g l2 l3 M H
      have HL := fun hs => iter_J' (Jh := fun s => oJ l m_M_laysMore (oEf 3 K) 0 0 17 [vr 57, vu, vi l2, vi s.1, vu, vu] [] WD s.2) (G := (fun r => okp (p_M_laysMore_X17 f l2 r) K11)) hs g (l3, M) H
      refine HL ?_
      intro K17 s i17 e17 H
      obtain ⟨l3, M⟩ := s
      show oJ l m_M_laysMore (oEf 3 K) 0 0 17 [vr 57, vu, vi l2, vi l3, vu, vu] [] WD M
      have x29 : ∀ (l3 l4 : Int) (M : oM), okp (p_M_laysMore_X29 f l2 l3 (l4, M)) K17 → oJ l m_M_laysMore (oEf 3 K) 0 0 95 [vr 57, vu, vi l2, vi l3, vi l4, vu] [] WD M := by
        intro l3 l4 M H
        unfold p_M_laysMore_X29 at H
        refine oj_ald0 (pc := 95) (by decide +kernel) ?_
        refine oj_getR' (pc := 96) f_M_96 s_57_51 (by decide +kernel) ?_
        refine oj_bipush (pc := 99) (v := 10) ⟨by decide, by decide⟩ (by decide +kernel) ?_
        refine oj_ld2 (pc := 101) (by decide +kernel) ?_
        refine oj_imul (pc := 102) (by decide +kernel) ?_
        refine oj_ld3 (pc := 103) (by decide +kernel) ?_
        refine oj_iadd (pc := 104) (by decide +kernel) ?_
        refine oj_ld4 (pc := 105) (by decide +kernel) ?_
        refine oj_i2b (pc := 107) (by decide +kernel) ?_
        refine oj_bast (pc := 108) (NN := 40960) a_86 rfl (by decide +kernel) H (fun H => ?_)
        have H := okp_lt H
        refine oj_inc3 (pc := 109) (d := 1) (by decide +kernel) (by decide +kernel) ?_
        have H := okp_lt H
        refine oj_goto (pc := 112) (off := -95) (tgt := 17) (by decide +kernel) (by decide) ?_
        refine oj_le (lv' := [_, vu, _, _, vu, vu]) ⟨Or.inr rfl, Or.inr rfl, Or.inr rfl, Or.inr rfl, Or.inl rfl, Or.inr rfl, trivial⟩ ?_
        have H := i17 _ H
        exact H
      have h29 : ∀ (g : Nat) (l3 l4 l5 : Int) (M : oM), okp (iter (p_M_laysMore_L29 f l2 l3) g (l4, l5, M)) (fun r => okp (p_M_laysMore_X29 f l2 l3 r) K17) → oJ l m_M_laysMore (oEf 3 K) 0 0 29 [vr 57, vu, vi l2, vi l3, vi l4, vi l5] [] WD M := by
        intro g l3 l4 l5 M H
        have HL := fun hs => iter_J' (Jh := fun s => oJ l m_M_laysMore (oEf 3 K) 0 0 29 [vr 57, vu, vi l2, vi l3, vi s.1, vi s.2.1] [] WD s.2.2) (G := (fun r => okp (p_M_laysMore_X29 f l2 l3 r) K17)) hs g (l4, l5, M) H
        refine HL ?_
        intro K29 s i29 e29 H
        obtain ⟨l4, l5, M⟩ := s
        show oJ l m_M_laysMore (oEf 3 K) 0 0 29 [vr 57, vu, vi l2, vi l3, vi l4, vi l5] [] WD M
        have h89 : ∀ (l4 l5 : Int) (M : oM), okp (p_M_laysMore_B89_29 f l2 l3 l4 l5 M) K29 → oJ l m_M_laysMore (oEf 3 K) 0 0 89 [vr 57, vu, vi l2, vi l3, vi l4, vi l5] [] WD M := by
          intro l4 l5 M H
          refine oj_inc5 (pc := 89) (d := 1) (by decide +kernel) (by decide +kernel) ?_
          have H := okp_lt H
          refine oj_goto (pc := 92) (off := -63) (tgt := 29) (by decide +kernel) (by decide) ?_
          have H := i29 _ H
          exact H
        refine oj_ld5 (pc := 29) (by decide +kernel) ?_
        refine oj_ald0 (pc := 31) (by decide +kernel) ?_
        refine oj_getI' (pc := 32) (ki := 50) f_M_400 s_57_50 rfl (by decide +kernel) ?_
        refine oj_icmp_ge (pc := 35) (off := 60) (tgt := 95) (by decide +kernel) (by decide) H (fun _ H => ?_) (fun _ H => ?_)
        · refine oj_le (lv' := [_, vu, _, _, _, vu]) ⟨Or.inr rfl, Or.inr rfl, Or.inr rfl, Or.inr rfl, Or.inr rfl, Or.inl rfl, trivial⟩ ?_
          have H := e29 _ H
          exact x29 _ _ _ H
        · refine oj_ald0 (pc := 38) (by decide +kernel) ?_
          refine oj_getR' (pc := 39) f_M_89 s_57_48 (by decide +kernel) ?_
          refine oj_ld5 (pc := 42) (by decide +kernel) ?_
          refine oj_iald (pc := 44) (NN := 12) a_84 rfl (by decide +kernel) H (fun H => ?_)
          refine oj_ld3 (pc := 45) (by decide +kernel) ?_
          refine oj_icmp_ne (pc := 46) (off := 43) (tgt := 89) (by decide +kernel) (by decide) H (fun _ H => ?_) (fun _ H => ?_)
          · exact h89 _ _ _ H
          · refine oj_ld2 (pc := 49) (by decide +kernel) ?_
            refine oj_ld5 (pc := 50) (by decide +kernel) ?_
            refine of_Si (pc := 52) (as := [_, _]) v_M_131 rfl rfl (Nat.le_of_ble_eq_true rfl) (by decide +kernel) (by decide) rfl (c_M_has_0 (okp_bind H)) (fun r M H => ?_)
            refine oj_if_ne (pc := 55) (off := 34) (tgt := 89) (by decide +kernel) (by decide) H (fun _ H => ?_) (fun _ H => ?_)
            · exact h89 _ _ _ H
            · refine oj_ld4 (pc := 58) (by decide +kernel) ?_
              refine oj_iconst (pc := 60) (v := 1) ⟨by decide, by decide⟩ (by decide +kernel) ?_
              refine oj_ald0 (pc := 61) (by decide +kernel) ?_
              refine oj_getR' (pc := 62) f_M_96 s_57_51 (by decide +kernel) ?_
              refine oj_bipush (pc := 65) (v := 10) ⟨by decide, by decide⟩ (by decide +kernel) ?_
              refine oj_ld2 (pc := 67) (by decide +kernel) ?_
              refine oj_iconst (pc := 68) (v := 1) ⟨by decide, by decide⟩ (by decide +kernel) ?_
              refine oj_ld5 (pc := 69) (by decide +kernel) ?_
              refine oj_ishl (pc := 71) (by decide +kernel) ?_
              refine oj_ior (pc := 72) (by decide +kernel) ?_
              refine oj_imul (pc := 73) (by decide +kernel) ?_
              refine oj_ald0 (pc := 74) (by decide +kernel) ?_
              refine oj_getR' (pc := 75) f_M_92 s_57_49 (by decide +kernel) ?_
              refine oj_ld5 (pc := 78) (by decide +kernel) ?_
              refine oj_iald (pc := 80) (NN := 12) a_85 rfl (by decide +kernel) H (fun H => ?_)
              refine oj_iadd (pc := 81) (by decide +kernel) ?_
              refine oj_bald (pc := 82) (NN := 40960) a_86 rfl (by decide +kernel) H (fun H => ?_)
              refine oj_iadd (pc := 83) (by decide +kernel) ?_
              refine of_Si (pc := 84) (as := [_, _]) v_M_143 rfl rfl (Nat.le_of_ble_eq_true rfl) (by decide +kernel) (by decide) rfl (c_M_max_0 (okp_bind H)) (fun r M H => ?_)
              refine oj_st4 (pc := 87) (by decide +kernel) (by decide +kernel) ?_
              exact h89 _ _ _ H
      refine oj_ld3 (pc := 17) (by decide +kernel) ?_
      refine oj_bipush (pc := 18) (v := 10) ⟨by decide, by decide⟩ (by decide +kernel) ?_
      refine oj_icmp_ge (pc := 20) (off := 95) (tgt := 115) (by decide +kernel) (by decide) H (fun _ H => ?_) (fun _ H => ?_)
      · refine oj_le (lv' := [_, vu, _, vu, vu, vu]) ⟨Or.inr rfl, Or.inr rfl, Or.inr rfl, Or.inl rfl, Or.inr rfl, Or.inr rfl, trivial⟩ ?_
        have H := e17 _ H
        exact x17 _ _ H
      · refine oj_iconst (pc := 23) (v := 0) ⟨by decide, by decide⟩ (by decide +kernel) ?_
        refine oj_st4 (pc := 24) (by decide +kernel) (by decide +kernel) ?_
        refine oj_iconst (pc := 26) (v := 0) ⟨by decide, by decide⟩ (by decide +kernel) ?_
        refine oj_st5 (pc := 27) (by decide +kernel) (by decide +kernel) ?_
        exact h29 _ _ _ _ _ (okp_bind H)
    refine oj_ld2 (pc := 11) (by decide +kernel) ?_
    refine oj_if_lt (pc := 12) (off := 109) (tgt := 121) (by decide +kernel) (by decide) H (fun _ H => ?_) (fun _ H => ?_)
    · have H := e11 _ H
      exact oj_vret (pc := 121) (by decide +kernel) rfl (Nat.le_refl _) (Nat.le_refl _) ⟨rfl, H⟩
    · refine oj_iconst (pc := 15) (v := 0) ⟨by decide, by decide⟩ (by decide +kernel) ?_
      refine oj_st3 (pc := 16) (by decide +kernel) (by decide +kernel) ?_
      exact h17 _ _ _ _ (okp_bind H)
  refine oj_iconst (pc := 0) (v := 1) ⟨by decide, by decide⟩ (by decide +kernel) ?_
  refine oj_ald0 (pc := 1) (by decide +kernel) ?_
  refine oj_getI' (pc := 2) (ki := 50) f_M_400 s_57_50 rfl (by decide +kernel) ?_
  refine oj_ishl (pc := 5) (by decide +kernel) ?_
  refine oj_iconst (pc := 6) (v := 1) ⟨by decide, by decide⟩ (by decide +kernel) ?_
  refine oj_isub (pc := 7) (by decide +kernel) ?_
  refine oj_st1 (pc := 8) (by decide +kernel) (by decide +kernel) ?_
  have H := okp_lt H
  refine oj_ld1 (pc := 9) (by decide +kernel) ?_
  refine oj_st2 (pc := 10) (by decide +kernel) (by decide +kernel) ?_
  refine oj_le (lv' := [_, vu, _, vu, vu, vu]) ⟨Or.inr rfl, Or.inl rfl, Or.inr rfl, Or.inr rfl, Or.inr rfl, Or.inr rfl, trivial⟩ ?_
  exact h11 _ _ _ H
