/-! walks (by program) -/
theorem c_O_chalk_0 {l : Launch} {f : Nat} {l1 : Int} {M : oM} {K : Int × oM → Prop} (H : okp (p_O_chalk f l1 M) K) : oKf l m_O_chalk 2 [vr 0, vi l1] M K := by
  refine oK_intro (lv := [vr 0, vi l1]) (by decide +kernel) (Nat.le_of_ble_eq_true rfl) rfl ?_
  refine oj_ld1 (pc := 0) (by decide +kernel) ?_
  refine oj_if_lt (pc := 1) (off := 32) (tgt := 33) (by decide +kernel) (by decide) H (fun _ H => ?_) (fun _ H => ?_)
  · refine oj_iconst (pc := 33) (v := -1) ⟨by decide, by decide⟩ (by decide +kernel) ?_
    exact oj_iret (pc := 34) (by decide +kernel) rfl rfl (Nat.le_refl _) (Nat.le_refl _) ⟨rfl, H⟩
  · refine oj_ld1 (pc := 4) (by decide +kernel) ?_
    refine oj_ald0 (pc := 5) (by decide +kernel) ?_
    refine oj_getR' (pc := 6) f_O_26 s_0_2 (by decide +kernel) ?_
    refine oj_getI' (pc := 9) (ki := 3) f_O_282 s_6_3 rfl (by decide +kernel) ?_
    refine oj_icmp_ge (pc := 12) (off := 21) (tgt := 33) (by decide +kernel) (by decide) H (fun _ H => ?_) (fun _ H => ?_)
    · refine oj_iconst (pc := 33) (v := -1) ⟨by decide, by decide⟩ (by decide +kernel) ?_
      exact oj_iret (pc := 34) (by decide +kernel) rfl rfl (Nat.le_refl _) (Nat.le_refl _) ⟨rfl, H⟩
    · refine oj_ld1 (pc := 15) (by decide +kernel) ?_
      refine oj_bipush (pc := 16) (v := 40) ⟨by decide, by decide⟩ (by decide +kernel) ?_
      refine oj_icmp_ge (pc := 18) (off := 15) (tgt := 33) (by decide +kernel) (by decide) H (fun _ H => ?_) (fun _ H => ?_)
      · refine oj_iconst (pc := 33) (v := -1) ⟨by decide, by decide⟩ (by decide +kernel) ?_
        exact oj_iret (pc := 34) (by decide +kernel) rfl rfl (Nat.le_refl _) (Nat.le_refl _) ⟨rfl, H⟩
      · refine oj_ald0 (pc := 21) (by decide +kernel) ?_
        refine oj_getR' (pc := 22) f_O_26 s_0_2 (by decide +kernel) ?_
        refine oj_getR' (pc := 25) f_O_285 s_6_2 (by decide +kernel) ?_
        refine oj_ld1 (pc := 28) (by decide +kernel) ?_
        refine oj_iald (pc := 29) (NN := 40) a_9 rfl (by decide +kernel) H (fun H => ?_)
        refine oj_goto (pc := 30) (off := 4) (tgt := 34) (by decide +kernel) (by decide) ?_
        exact oj_iret (pc := 34) (by decide +kernel) rfl rfl (Nat.le_refl _) (Nat.le_refl _) ⟨rfl, H⟩
theorem c_R_hoursOf_0 {l : Launch} {f : Nat} {l1 l2 : Int} {M : oM} {K : Int × oM → Prop} (H : okp (p_R_hoursOf f l1 l2 M) K) : oKf l m_R_hoursOf 4 [vr 42, vi l1, vi l2] M K := by
  refine oK_intro (lv := [vr 42, vi l1, vi l2, vu, vu]) (by decide +kernel) (Nat.le_of_ble_eq_true rfl) rfl ?_
  have h5 : ∀ (g : Nat) (l1 l2 l3 l4 : Int) (M : oM), okp (iter (p_R_hoursOf_L5 f l1 l2) g (l3, l4, M)) K → oJ l m_R_hoursOf (oEf 4 K) 0 0 5 [vr 42, vi l1, vi l2, vi l3, vi l4] [] WD M := by
    intro g l1 l2 l3 l4 M H
    have HL := fun hs => iter_J' (Jh := fun s => oJ l m_R_hoursOf (oEf 4 K) 0 0 5 [vr 42, vi l1, vi l2, vi s.1, vi s.2.1] [] WD s.2.2) (G := K) hs g (l3, l4, M) H
    refine HL ?_
    intro K5 s i5 e5 H
    obtain ⟨l3, l4, M⟩ := s
    show oJ l m_R_hoursOf (oEf 4 K) 0 0 5 [vr 42, vi l1, vi l2, vi l3, vi l4] [] WD M
    have h58 : ∀ (l3 l4 : Int) (M : oM), okp (p_R_hoursOf_B58_5 f l1 l2 l3 l4 M) K5 → oJ l m_R_hoursOf (oEf 4 K) 0 0 58 [vr 42, vi l1, vi l2, vi l3, vi l4] [] WD M := by
      intro l3 l4 M H
      refine oj_inc4 (pc := 58) (d := 1) (by decide +kernel) (by decide +kernel) ?_
      have H := okp_lt H
      refine oj_goto (pc := 61) (off := -56) (tgt := 5) (by decide +kernel) (by decide) ?_
      have H := i5 _ H
      exact H
    refine oj_ld4 (pc := 5) (by decide +kernel) ?_
    refine oj_ld2 (pc := 7) (by decide +kernel) ?_
    refine oj_icmp_ge (pc := 8) (off := 56) (tgt := 64) (by decide +kernel) (by decide) H (fun _ H => ?_) (fun _ H => ?_)
    · refine oj_ld3 (pc := 64) (by decide +kernel) ?_
      have H := e5 _ H
      exact oj_iret (pc := 65) (by decide +kernel) rfl rfl (Nat.le_refl _) (Nat.le_refl _) ⟨rfl, H⟩
    · refine oj_ld4 (pc := 11) (by decide +kernel) ?_
      refine oj_bipush (pc := 13) (v := 8) ⟨by decide, by decide⟩ (by decide +kernel) ?_
      refine oj_icmp_ge (pc := 15) (off := 49) (tgt := 64) (by decide +kernel) (by decide) H (fun _ H => ?_) (fun _ H => ?_)
      · refine oj_ld3 (pc := 64) (by decide +kernel) ?_
        have H := e5 _ H
        exact oj_iret (pc := 65) (by decide +kernel) rfl rfl (Nat.le_refl _) (Nat.le_refl _) ⟨rfl, H⟩
      · refine oj_ld1 (pc := 18) (by decide +kernel) ?_
        refine oj_ld4 (pc := 19) (by decide +kernel) ?_
        refine oj_ishr (pc := 21) (by decide +kernel) ?_
        refine oj_iconst (pc := 22) (v := 1) ⟨by decide, by decide⟩ (by decide +kernel) ?_
        refine oj_iand (pc := 23) (by decide +kernel) ?_
        refine oj_iconst (pc := 24) (v := 1) ⟨by decide, by decide⟩ (by decide +kernel) ?_
        refine oj_icmp_ne (pc := 25) (off := 33) (tgt := 58) (by decide +kernel) (by decide) H (fun _ H => ?_) (fun _ H => ?_)
        · exact h58 _ _ _ H
        · refine oj_ld3 (pc := 28) (by decide +kernel) ?_
          refine oj_ald0 (pc := 29) (by decide +kernel) ?_
          refine oj_getR' (pc := 30) f_R_30 s_42_0 (by decide +kernel) ?_
          refine oj_ald0 (pc := 33) (by decide +kernel) ?_
          refine oj_getR' (pc := 34) f_R_18 s_42_3 (by decide +kernel) ?_
          refine oj_ld4 (pc := 37) (by decide +kernel) ?_
          refine oj_iald (pc := 39) (NN := 8) a_45 rfl (by decide +kernel) H (fun H => ?_)
          refine oj_bipush (pc := 40) (v := 10) ⟨by decide, by decide⟩ (by decide +kernel) ?_
          refine oj_idiv (pc := 42) (by decide +kernel) H (fun _ H => ?_)
          refine oj_ald0 (pc := 43) (by decide +kernel) ?_
          refine oj_getR' (pc := 44) f_R_18 s_42_3 (by decide +kernel) ?_
          refine oj_ld4 (pc := 47) (by decide +kernel) ?_
          refine oj_iald (pc := 49) (NN := 8) a_45 rfl (by decide +kernel) H (fun H => ?_)
          refine oj_bipush (pc := 50) (v := 10) ⟨by decide, by decide⟩ (by decide +kernel) ?_
          refine oj_irem (pc := 52) (by decide +kernel) H (fun _ H => ?_)
          refine of_Vi (pc := 53) (as := [_, _]) v_R_70 o_3 rfl rfl (Nat.le_of_ble_eq_true rfl) (by decide +kernel) (by decide) rfl (c_P_way_0 (okp_bind H)) (fun r M H => ?_)
          refine oj_iadd (pc := 56) (by decide +kernel) ?_
          refine oj_st3 (pc := 57) (by decide +kernel) (by decide +kernel) ?_
          have H := okp_lt H
          exact h58 _ _ _ H
  refine oj_iconst (pc := 0) (v := 0) ⟨by decide, by decide⟩ (by decide +kernel) ?_
  refine oj_st3 (pc := 1) (by decide +kernel) (by decide +kernel) ?_
  refine oj_iconst (pc := 2) (v := 0) ⟨by decide, by decide⟩ (by decide +kernel) ?_
  refine oj_st4 (pc := 3) (by decide +kernel) (by decide +kernel) ?_
  exact h5 _ _ _ _ _ _ H
theorem c_R_setShare_0 {l : Launch} {f : Nat} {l2 l3 : Int} {M : oM} {K : Int × oM → Prop} (H : okp (p_R_setShare f 43 l2 l3 M) K) : oKf l m_R_setShare 3 [vr 42, vr 43, vi l2, vi l3] M K := by
  refine oK_intro (lv := [vr 42, vr 43, vi l2, vi l3, vu]) (by decide +kernel) (Nat.le_of_ble_eq_true rfl) rfl ?_
  have h8 : ∀ (g : Nat) (l2 l3 l4 : Int) (M : oM), okp (iter (p_R_setShare_L8 f 43 l2 l3) g (l4, M)) K → oJ l m_R_setShare (oEf 3 K) 0 0 8 [vr 42, vr 43, vi l2, vi l3, vi l4] [] WD M := by
    intro g l2 l3 l4 M H
    have HL := fun hs => iter_J' (Jh := fun s => oJ l m_R_setShare (oEf 3 K) 0 0 8 [vr 42, vr 43, vi l2, vi l3, vi s.1] [] WD s.2) (G := K) hs g (l4, M) H
    refine HL ?_
    intro K8 s i8 e8 H
    obtain ⟨l4, M⟩ := s
    show oJ l m_R_setShare (oEf 3 K) 0 0 8 [vr 42, vr 43, vi l2, vi l3, vi l4] [] WD M
    have h44 : ∀ (l4 : Int) (M : oM), okp (p_R_setShare_B44_8 f 43 l2 l3 l4 M) K8 → oJ l m_R_setShare (oEf 3 K) 0 0 44 [vr 42, vr 43, vi l2, vi l3, vi l4] [] WD M := by
      intro l4 M H
      refine oj_inc4 (pc := 44) (d := 1) (by decide +kernel) (by decide +kernel) ?_
      have H := okp_lt H
      refine oj_goto (pc := 47) (off := -39) (tgt := 8) (by decide +kernel) (by decide) ?_
      have H := i8 _ H
      exact H
    refine oj_ld4 (pc := 8) (by decide +kernel) ?_
    refine oj_ld3 (pc := 10) (by decide +kernel) ?_
    refine oj_icmp_ge (pc := 11) (off := 39) (tgt := 50) (by decide +kernel) (by decide) H (fun _ H => ?_) (fun _ H => ?_)
    · have H := e8 _ H
      exact oj_vret (pc := 50) (by decide +kernel) rfl (Nat.le_refl _) (Nat.le_refl _) ⟨rfl, H⟩
    · refine oj_ld4 (pc := 14) (by decide +kernel) ?_
      refine oj_bipush (pc := 16) (v := 8) ⟨by decide, by decide⟩ (by decide +kernel) ?_
      refine oj_icmp_ge (pc := 18) (off := 32) (tgt := 50) (by decide +kernel) (by decide) H (fun _ H => ?_) (fun _ H => ?_)
      · have H := e8 _ H
        exact oj_vret (pc := 50) (by decide +kernel) rfl (Nat.le_refl _) (Nat.le_refl _) ⟨rfl, H⟩
      · refine oj_ld2 (pc := 21) (by decide +kernel) ?_
        refine oj_ld4 (pc := 22) (by decide +kernel) ?_
        refine oj_ishr (pc := 24) (by decide +kernel) ?_
        refine oj_iconst (pc := 25) (v := 1) ⟨by decide, by decide⟩ (by decide +kernel) ?_
        refine oj_iand (pc := 26) (by decide +kernel) ?_
        refine oj_iconst (pc := 27) (v := 1) ⟨by decide, by decide⟩ (by decide +kernel) ?_
        refine oj_icmp_ne (pc := 28) (off := 16) (tgt := 44) (by decide +kernel) (by decide) H (fun _ H => ?_) (fun _ H => ?_)
        · exact h44 _ _ H
        · refine oj_ald1 (pc := 31) (by decide +kernel) ?_
          refine oj_ald0 (pc := 32) (by decide +kernel) ?_
          refine oj_getR' (pc := 33) f_R_18 s_42_3 (by decide +kernel) ?_
          refine oj_ld4 (pc := 36) (by decide +kernel) ?_
          refine oj_iald (pc := 38) (NN := 8) a_45 rfl (by decide +kernel) H (fun H => ?_)
          refine oj_dup2 (pc := 39) (by decide +kernel) ?_
          refine oj_iald (pc := 40) (NN := 100) a_43 rfl (by decide +kernel) H (fun H => ?_)
          refine oj_iconst (pc := 41) (v := 1) ⟨by decide, by decide⟩ (by decide +kernel) ?_
          refine oj_iadd (pc := 42) (by decide +kernel) ?_
          refine oj_iast (pc := 43) (NN := 100) a_43 rfl (by decide +kernel) H (fun H => ?_)
          have H := okp_lt H
          exact h44 _ _ H
  refine oj_ald1 (pc := 0) (by decide +kernel) ?_
  refine oj_iconst (pc := 1) (v := 0) ⟨by decide, by decide⟩ (by decide +kernel) ?_
  refine of_Sv (pc := 2) (as := [_, _]) v_R_64 rfl rfl (Nat.le_of_ble_eq_true rfl) (by decide +kernel) (by decide) rfl (c_JA_fill_3 (okp_bind H)) (fun M H => ?_)
  refine oj_iconst (pc := 5) (v := 0) ⟨by decide, by decide⟩ (by decide +kernel) ?_
  refine oj_st4 (pc := 6) (by decide +kernel) (by decide +kernel) ?_
  exact h8 _ _ _ _ _ H
theorem c_R_setShare_1 {l : Launch} {f : Nat} {l2 l3 : Int} {M : oM} {K : Int × oM → Prop} (H : okp (p_R_setShare f 44 l2 l3 M) K) : oKf l m_R_setShare 3 [vr 42, vr 44, vi l2, vi l3] M K := by
  refine oK_intro (lv := [vr 42, vr 44, vi l2, vi l3, vu]) (by decide +kernel) (Nat.le_of_ble_eq_true rfl) rfl ?_
  have h8 : ∀ (g : Nat) (l2 l3 l4 : Int) (M : oM), okp (iter (p_R_setShare_L8 f 44 l2 l3) g (l4, M)) K → oJ l m_R_setShare (oEf 3 K) 0 0 8 [vr 42, vr 44, vi l2, vi l3, vi l4] [] WD M := by
    intro g l2 l3 l4 M H
    have HL := fun hs => iter_J' (Jh := fun s => oJ l m_R_setShare (oEf 3 K) 0 0 8 [vr 42, vr 44, vi l2, vi l3, vi s.1] [] WD s.2) (G := K) hs g (l4, M) H
    refine HL ?_
    intro K8 s i8 e8 H
    obtain ⟨l4, M⟩ := s
    show oJ l m_R_setShare (oEf 3 K) 0 0 8 [vr 42, vr 44, vi l2, vi l3, vi l4] [] WD M
    have h44 : ∀ (l4 : Int) (M : oM), okp (p_R_setShare_B44_8 f 44 l2 l3 l4 M) K8 → oJ l m_R_setShare (oEf 3 K) 0 0 44 [vr 42, vr 44, vi l2, vi l3, vi l4] [] WD M := by
      intro l4 M H
      refine oj_inc4 (pc := 44) (d := 1) (by decide +kernel) (by decide +kernel) ?_
      have H := okp_lt H
      refine oj_goto (pc := 47) (off := -39) (tgt := 8) (by decide +kernel) (by decide) ?_
      have H := i8 _ H
      exact H
    refine oj_ld4 (pc := 8) (by decide +kernel) ?_
    refine oj_ld3 (pc := 10) (by decide +kernel) ?_
    refine oj_icmp_ge (pc := 11) (off := 39) (tgt := 50) (by decide +kernel) (by decide) H (fun _ H => ?_) (fun _ H => ?_)
    · have H := e8 _ H
      exact oj_vret (pc := 50) (by decide +kernel) rfl (Nat.le_refl _) (Nat.le_refl _) ⟨rfl, H⟩
    · refine oj_ld4 (pc := 14) (by decide +kernel) ?_
      refine oj_bipush (pc := 16) (v := 8) ⟨by decide, by decide⟩ (by decide +kernel) ?_
      refine oj_icmp_ge (pc := 18) (off := 32) (tgt := 50) (by decide +kernel) (by decide) H (fun _ H => ?_) (fun _ H => ?_)
      · have H := e8 _ H
        exact oj_vret (pc := 50) (by decide +kernel) rfl (Nat.le_refl _) (Nat.le_refl _) ⟨rfl, H⟩
      · refine oj_ld2 (pc := 21) (by decide +kernel) ?_
        refine oj_ld4 (pc := 22) (by decide +kernel) ?_
        refine oj_ishr (pc := 24) (by decide +kernel) ?_
        refine oj_iconst (pc := 25) (v := 1) ⟨by decide, by decide⟩ (by decide +kernel) ?_
        refine oj_iand (pc := 26) (by decide +kernel) ?_
        refine oj_iconst (pc := 27) (v := 1) ⟨by decide, by decide⟩ (by decide +kernel) ?_
        refine oj_icmp_ne (pc := 28) (off := 16) (tgt := 44) (by decide +kernel) (by decide) H (fun _ H => ?_) (fun _ H => ?_)
        · exact h44 _ _ H
        · refine oj_ald1 (pc := 31) (by decide +kernel) ?_
          refine oj_ald0 (pc := 32) (by decide +kernel) ?_
          refine oj_getR' (pc := 33) f_R_18 s_42_3 (by decide +kernel) ?_
          refine oj_ld4 (pc := 36) (by decide +kernel) ?_
          refine oj_iald (pc := 38) (NN := 8) a_45 rfl (by decide +kernel) H (fun H => ?_)
          refine oj_dup2 (pc := 39) (by decide +kernel) ?_
          refine oj_iald (pc := 40) (NN := 100) a_44 rfl (by decide +kernel) H (fun H => ?_)
          refine oj_iconst (pc := 41) (v := 1) ⟨by decide, by decide⟩ (by decide +kernel) ?_
          refine oj_iadd (pc := 42) (by decide +kernel) ?_
          refine oj_iast (pc := 43) (NN := 100) a_44 rfl (by decide +kernel) H (fun H => ?_)
          have H := okp_lt H
          exact h44 _ _ H
  refine oj_ald1 (pc := 0) (by decide +kernel) ?_
  refine oj_iconst (pc := 1) (v := 0) ⟨by decide, by decide⟩ (by decide +kernel) ?_
  refine of_Sv (pc := 2) (as := [_, _]) v_R_64 rfl rfl (Nat.le_of_ble_eq_true rfl) (by decide +kernel) (by decide) rfl (c_JA_fill_4 (okp_bind H)) (fun M H => ?_)
  refine oj_iconst (pc := 5) (v := 0) ⟨by decide, by decide⟩ (by decide +kernel) ?_
  refine oj_st4 (pc := 6) (by decide +kernel) (by decide +kernel) ?_
  exact h8 _ _ _ _ _ H
theorem c_R_sharedHours_0 {l : Launch} {f : Nat} {l2 : Int} {M : oM} {K : Int × oM → Prop} (H : okp (p_R_sharedHours f l2 M) K) : oKf l m_R_sharedHours 5 [vr 42, vr 6, vi l2] M K := by
  refine oK_intro (lv := [vr 42, vr 6, vi l2, vu, vu, vu, vu]) (by decide +kernel) (Nat.le_of_ble_eq_true rfl) rfl ?_
  have h16 : ∀ (g : Nat) (l2 l3 l4 l5 : Int) (M : oM), okp (iter (p_R_sharedHours_L16 f l2 l3) g (l4, l5, M)) K → oJ l m_R_sharedHours (oEf 5 K) 0 0 16 [vr 42, vr 6, vi l2, vi l3, vi l4, vi l5, vu] [] WD M := by
    intro g l2 l3 l4 l5 M H
    have HL := fun hs => iter_J' (Jh := fun s => oJ l m_R_sharedHours (oEf 5 K) 0 0 16 [vr 42, vr 6, vi l2, vi l3, vi s.1, vi s.2.1, vu] [] WD s.2.2) (G := K) hs g (l4, l5, M) H
    refine HL ?_
    intro K16 s i16 e16 H
    obtain ⟨l4, l5, M⟩ := s
    show oJ l m_R_sharedHours (oEf 5 K) 0 0 16 [vr 42, vr 6, vi l2, vi l3, vi l4, vi l5, vu] [] WD M
    have h105 : ∀ (l4 l5 : Int) (M : oM), okp (p_R_sharedHours_B105_16 f l2 l3 l4 l5 M) K16 → oJ l m_R_sharedHours (oEf 5 K) 0 0 105 [vr 42, vr 6, vi l2, vi l3, vi l4, vi l5, vu] [] WD M := by
      intro l4 l5 M H
      refine oj_inc5 (pc := 105) (d := 1) (by decide +kernel) (by decide +kernel) ?_
      have H := okp_lt H
      refine oj_goto (pc := 108) (off := -92) (tgt := 16) (by decide +kernel) (by decide) ?_
      have H := i16 _ H
      exact H
    refine oj_ld5 (pc := 16) (by decide +kernel) ?_
    refine oj_iconst (pc := 18) (v := 1) ⟨by decide, by decide⟩ (by decide +kernel) ?_
    refine oj_ld3 (pc := 19) (by decide +kernel) ?_
    refine oj_ishl (pc := 20) (by decide +kernel) ?_
    refine oj_icmp_ge (pc := 21) (off := 90) (tgt := 111) (by decide +kernel) (by decide) H (fun _ H => ?_) (fun _ H => ?_)
    · refine oj_ld4 (pc := 111) (by decide +kernel) ?_
      have H := e16 _ H
      exact oj_iret (pc := 113) (by decide +kernel) rfl rfl (Nat.le_refl _) (Nat.le_refl _) ⟨rfl, H⟩
    · refine oj_ald0 (pc := 24) (by decide +kernel) ?_
      refine oj_ld5 (pc := 25) (by decide +kernel) ?_
      refine oj_ld3 (pc := 27) (by decide +kernel) ?_
      refine of_Vi (pc := 28) (as := [_, _]) v_R_87 o_42 rfl rfl (Nat.le_of_ble_eq_true rfl) (by decide +kernel) (by decide) rfl (c_R_hoursOf_0 (okp_bind H)) (fun r M H => ?_)
      refine oj_ald0 (pc := 31) (by decide +kernel) ?_
      refine oj_ld5 (pc := 32) (by decide +kernel) ?_
      refine oj_iconst (pc := 34) (v := -1) ⟨by decide, by decide⟩ (by decide +kernel) ?_
      refine oj_ixor (pc := 35) (by decide +kernel) ?_
      refine oj_ld3 (pc := 36) (by decide +kernel) ?_
      refine of_Vi (pc := 37) (as := [_, _]) v_R_87 o_42 rfl rfl (Nat.le_of_ble_eq_true rfl) (by decide +kernel) (by decide) rfl (c_R_hoursOf_0 (okp_bind H)) (fun r M H => ?_)
      refine oj_mmax (pc := 40) q_R_90 mm_max (Nat.le_of_ble_eq_true rfl) (Nat.le_of_ble_eq_true rfl) (Nat.zero_le _) (Nat.zero_le _) (by decide +kernel) ?_
      refine oj_st6 (pc := 43) (by decide +kernel) (by decide +kernel) ?_
      have H := okp_lt H
      refine oj_ld6 (pc := 45) (by decide +kernel) ?_
      refine oj_ld4 (pc := 47) (by decide +kernel) ?_
      refine oj_icmp_ge (pc := 49) (off := 56) (tgt := 105) (by decide +kernel) (by decide) H (fun _ H => ?_) (fun _ H => ?_)
      · refine oj_le (lv' := [_, _, _, _, _, _, vu]) ⟨Or.inr rfl, Or.inr rfl, Or.inr rfl, Or.inr rfl, Or.inr rfl, Or.inr rfl, Or.inl rfl, trivial⟩ ?_
        exact h105 _ _ _ H
      · refine oj_ald0 (pc := 52) (by decide +kernel) ?_
        refine oj_ald0 (pc := 53) (by decide +kernel) ?_
        refine oj_getR' (pc := 54) f_R_9 s_42_1 (by decide +kernel) ?_
        refine oj_ld5 (pc := 57) (by decide +kernel) ?_
        refine oj_ld3 (pc := 59) (by decide +kernel) ?_
        refine of_Vv (pc := 60) (as := [_, _, _]) v_R_93 o_42 rfl rfl (Nat.le_of_ble_eq_true rfl) (by decide +kernel) (by decide) rfl (c_R_setShare_0 (okp_bind H)) (fun M H => ?_)
        refine oj_ald0 (pc := 63) (by decide +kernel) ?_
        refine oj_ald0 (pc := 64) (by decide +kernel) ?_
        refine oj_getR' (pc := 65) f_R_15 s_42_2 (by decide +kernel) ?_
        refine oj_ld5 (pc := 68) (by decide +kernel) ?_
        refine oj_iconst (pc := 70) (v := -1) ⟨by decide, by decide⟩ (by decide +kernel) ?_
        refine oj_ixor (pc := 71) (by decide +kernel) ?_
        refine oj_ld3 (pc := 72) (by decide +kernel) ?_
        refine of_Vv (pc := 73) (as := [_, _, _]) v_R_93 o_42 rfl rfl (Nat.le_of_ble_eq_true rfl) (by decide +kernel) (by decide) rfl (c_R_setShare_1 (okp_bind H)) (fun M H => ?_)
        refine oj_ald0 (pc := 76) (by decide +kernel) ?_
        refine oj_getR' (pc := 77) f_R_9 s_42_1 (by decide +kernel) ?_
        refine oj_ald1 (pc := 80) (by decide +kernel) ?_
        refine oj_getI' (pc := 81) (ki := 4) f_R_97 s_6_4 rfl (by decide +kernel) ?_
        refine of_Si (pc := 84) (as := [_, _]) v_R_51 rfl rfl (Nat.le_of_ble_eq_true rfl) (by decide +kernel) (by decide) rfl (c_R_isOneRow_1 (okp_bind H)) (fun r M H => ?_)
        refine oj_if_eq (pc := 87) (off := 18) (tgt := 105) (by decide +kernel) (by decide) H (fun _ H => ?_) (fun _ H => ?_)
        · refine oj_le (lv' := [_, _, _, _, _, _, vu]) ⟨Or.inr rfl, Or.inr rfl, Or.inr rfl, Or.inr rfl, Or.inr rfl, Or.inr rfl, Or.inl rfl, trivial⟩ ?_
          exact h105 _ _ _ H
        · refine oj_ald0 (pc := 90) (by decide +kernel) ?_
          refine oj_getR' (pc := 91) f_R_15 s_42_2 (by decide +kernel) ?_
          refine oj_ld2 (pc := 94) (by decide +kernel) ?_
          refine of_Si (pc := 95) (as := [_, _]) v_R_51 rfl rfl (Nat.le_of_ble_eq_true rfl) (by decide +kernel) (by decide) rfl (c_R_isOneRow_2 (okp_bind H)) (fun r M H => ?_)
          refine oj_if_eq (pc := 98) (off := 7) (tgt := 105) (by decide +kernel) (by decide) H (fun _ H => ?_) (fun _ H => ?_)
          · refine oj_le (lv' := [_, _, _, _, _, _, vu]) ⟨Or.inr rfl, Or.inr rfl, Or.inr rfl, Or.inr rfl, Or.inr rfl, Or.inr rfl, Or.inl rfl, trivial⟩ ?_
            exact h105 _ _ _ H
          · refine oj_ld6 (pc := 101) (by decide +kernel) ?_
            refine oj_st4 (pc := 103) (by decide +kernel) (by decide +kernel) ?_
            refine oj_le (lv' := [_, _, _, _, _, _, vu]) ⟨Or.inr rfl, Or.inr rfl, Or.inr rfl, Or.inr rfl, Or.inr rfl, Or.inr rfl, Or.inl rfl, trivial⟩ ?_
            exact h105 _ _ _ H
  refine oj_ald1 (pc := 0) (by decide +kernel) ?_
  refine oj_ald0 (pc := 1) (by decide +kernel) ?_
  refine oj_getR' (pc := 2) f_R_18 s_42_3 (by decide +kernel) ?_
  refine of_Vi (pc := 5) (as := [_]) v_R_81 o_6 rfl rfl (Nat.le_of_ble_eq_true rfl) (by decide +kernel) (by decide) rfl (c_D_listCoins_1 (okp_bind H)) (fun r M H => ?_)
  refine oj_st3 (pc := 8) (by decide +kernel) (by decide +kernel) ?_
  refine oj_ldc (pc := 9) (v := 1000000) k_R_63 ⟨by decide, by decide⟩ (by decide +kernel) ?_
  refine oj_st4 (pc := 11) (by decide +kernel) (by decide +kernel) ?_
  refine oj_iconst (pc := 13) (v := 0) ⟨by decide, by decide⟩ (by decide +kernel) ?_
  refine oj_st5 (pc := 14) (by decide +kernel) (by decide +kernel) ?_
  exact h16 _ _ _ _ _ _ H
theorem c_O_two_0 {l : Launch} {f : Nat} {l1 : Int} {M : oM} {K : Int × oM → Prop} (H : okp (p_O_two f l1 M) K) : oKf l m_O_two 6 [vr 0, vi l1] M K := by
  refine oK_intro (lv := [vr 0, vi l1, vu]) (by decide +kernel) (Nat.le_of_ble_eq_true rfl) rfl ?_
  refine oj_ald0 (pc := 0) (by decide +kernel) ?_
  refine oj_getR' (pc := 1) f_O_19 s_0_1 (by decide +kernel) ?_
  refine oj_ld1 (pc := 4) (by decide +kernel) ?_
  refine of_Vi (pc := 5) (as := [_]) v_O_114 o_3 rfl rfl (Nat.le_of_ble_eq_true rfl) (by decide +kernel) (by decide) rfl (c_P_has_0 (okp_bind H)) (fun r M H => ?_)
  refine oj_if_ne (pc := 8) (off := 5) (tgt := 13) (by decide +kernel) (by decide) H (fun _ H => ?_) (fun _ H => ?_)
  · refine oj_ald0 (pc := 13) (by decide +kernel) ?_
    refine oj_getR' (pc := 14) f_O_26 s_0_2 (by decide +kernel) ?_
    refine oj_getI' (pc := 17) (ki := 4) f_O_168 s_6_4 rfl (by decide +kernel) ?_
    refine oj_if_ge (pc := 20) (off := 6) (tgt := 26) (by decide +kernel) (by decide) H (fun _ H => ?_) (fun _ H => ?_)
    · refine oj_ald0 (pc := 26) (by decide +kernel) ?_
      refine oj_getR' (pc := 27) f_O_26 s_0_2 (by decide +kernel) ?_
      refine of_Vi (pc := 30) (as := []) v_O_151 o_6 rfl rfl (Nat.le_of_ble_eq_true rfl) (by decide +kernel) (by decide) rfl (c_D_owedInAll_0 (okp_bind H)) (fun r M H => ?_)
      refine oj_bipush (pc := 33) (v := 8) ⟨by decide, by decide⟩ (by decide +kernel) ?_
      refine oj_icmp_le (pc := 35) (off := 6) (tgt := 41) (by decide +kernel) (by decide) H (fun _ H => ?_) (fun _ H => ?_)
      · refine oj_ald0 (pc := 41) (by decide +kernel) ?_
        refine oj_getR' (pc := 42) f_O_87 s_0_11 (by decide +kernel) ?_
        refine oj_ald0 (pc := 45) (by decide +kernel) ?_
        refine oj_getR' (pc := 46) f_O_26 s_0_2 (by decide +kernel) ?_
        refine oj_ld1 (pc := 49) (by decide +kernel) ?_
        refine of_Vi (pc := 50) (as := [_, _]) v_O_288 o_42 rfl rfl (Nat.le_of_ble_eq_true rfl) (by decide +kernel) (by decide) rfl (c_R_sharedHours_0 (okp_bind H)) (fun r M H => ?_)
        refine oj_st2 (pc := 53) (by decide +kernel) (by decide +kernel) ?_
        refine oj_ld2 (pc := 54) (by decide +kernel) ?_
        refine oj_ldc (pc := 55) (v := 1000000) k_O_241 ⟨by decide, by decide⟩ (by decide +kernel) ?_
        refine oj_icmp_ge (pc := 57) (off := 7) (tgt := 64) (by decide +kernel) (by decide) H (fun _ H => ?_) (fun _ H => ?_)
        · refine oj_bipush (pc := 64) (v := -4) ⟨by decide, by decide⟩ (by decide +kernel) ?_
          exact oj_iret (pc := 66) (by decide +kernel) rfl rfl (Nat.le_refl _) (Nat.le_refl _) ⟨rfl, H⟩
        · refine oj_ld2 (pc := 60) (by decide +kernel) ?_
          refine oj_goto (pc := 61) (off := 5) (tgt := 66) (by decide +kernel) (by decide) ?_
          exact oj_iret (pc := 66) (by decide +kernel) rfl rfl (Nat.le_refl _) (Nat.le_refl _) ⟨rfl, H⟩
      · refine oj_bipush (pc := 38) (v := -3) ⟨by decide, by decide⟩ (by decide +kernel) ?_
        exact oj_iret (pc := 40) (by decide +kernel) rfl rfl (Nat.le_refl _) (Nat.le_refl _) ⟨rfl, H⟩
    · refine oj_bipush (pc := 23) (v := -2) ⟨by decide, by decide⟩ (by decide +kernel) ?_
      exact oj_iret (pc := 25) (by decide +kernel) rfl rfl (Nat.le_refl _) (Nat.le_refl _) ⟨rfl, H⟩
  · refine oj_iconst (pc := 11) (v := -1) ⟨by decide, by decide⟩ (by decide +kernel) ?_
    exact oj_iret (pc := 12) (by decide +kernel) rfl rfl (Nat.le_refl _) (Nat.le_refl _) ⟨rfl, H⟩
theorem c_O_commonDivisor_0 {l : Launch} {f : Nat} {l0 l1 : Int} {M : oM} {K : Int × oM → Prop} (H : okp (p_O_commonDivisor f l0 l1 M) K) : oKf l m_O_commonDivisor 2 [vi l0, vi l1] M K := by
  refine oK_intro (lv := [vi l0, vi l1, vu, vu, vu, vu]) (by decide +kernel) (Nat.le_of_ble_eq_true rfl) rfl ?_
  have h7 : ∀ (g : Nat) (l2 l3 l4 : Int) (M : oM), okp (iter (p_O_commonDivisor_L7 f) g (l2, l3, l4, M)) K → oJ l m_O_commonDivisor (oEf 2 K) 0 0 7 [vu, vu, vi l2, vi l3, vi l4, vu] [] WD M := by
    intro g l2 l3 l4 M H
    have HL := fun hs => iter_J' (Jh := fun s => oJ l m_O_commonDivisor (oEf 2 K) 0 0 7 [vu, vu, vi s.1, vi s.2.1, vi s.2.2.1, vu] [] WD s.2.2.2) (G := K) hs g (l2, l3, l4, M) H
    refine HL ?_
    intro K7 s i7 e7 H
    obtain ⟨l2, l3, l4, M⟩ := s
    show oJ l m_O_commonDivisor (oEf 2 K) 0 0 7 [vu, vu, vi l2, vi l3, vi l4, vu] [] WD M
    refine oj_ld4 (pc := 7) (by decide +kernel) ?_
    refine oj_bipush (pc := 9) (v := 64) ⟨by decide, by decide⟩ (by decide +kernel) ?_
    refine oj_icmp_ge (pc := 11) (off := 23) (tgt := 34) (by decide +kernel) (by decide) H (fun _ H => ?_) (fun _ H => ?_)
    · refine oj_ld2 (pc := 34) (by decide +kernel) ?_
      have H := e7 _ H
      exact oj_iret (pc := 35) (by decide +kernel) rfl rfl (Nat.le_refl _) (Nat.le_refl _) ⟨rfl, H⟩
    · refine oj_ld3 (pc := 14) (by decide +kernel) ?_
      refine oj_if_eq (pc := 15) (off := 19) (tgt := 34) (by decide +kernel) (by decide) H (fun _ H => ?_) (fun _ H => ?_)
      · refine oj_ld2 (pc := 34) (by decide +kernel) ?_
        have H := e7 _ H
        exact oj_iret (pc := 35) (by decide +kernel) rfl rfl (Nat.le_refl _) (Nat.le_refl _) ⟨rfl, H⟩
      · refine oj_ld2 (pc := 18) (by decide +kernel) ?_
        refine oj_ld3 (pc := 19) (by decide +kernel) ?_
        refine oj_irem (pc := 20) (by decide +kernel) H (fun _ H => ?_)
        refine oj_st5 (pc := 21) (by decide +kernel) (by decide +kernel) ?_
        have H := okp_lt H
        refine oj_ld3 (pc := 23) (by decide +kernel) ?_
        refine oj_st2 (pc := 24) (by decide +kernel) (by decide +kernel) ?_
        refine oj_ld5 (pc := 25) (by decide +kernel) ?_
        refine oj_st3 (pc := 27) (by decide +kernel) (by decide +kernel) ?_
        refine oj_inc4 (pc := 28) (d := 1) (by decide +kernel) (by decide +kernel) ?_
        have H := okp_lt H
        refine oj_goto (pc := 31) (off := -24) (tgt := 7) (by decide +kernel) (by decide) ?_
        refine oj_le (lv' := [vu, vu, _, _, _, vu]) ⟨Or.inr rfl, Or.inr rfl, Or.inr rfl, Or.inr rfl, Or.inr rfl, Or.inl rfl, trivial⟩ ?_
        have H := i7 _ H
        exact H
  refine oj_ld0 (pc := 0) (by decide +kernel) ?_
  refine oj_st2 (pc := 1) (by decide +kernel) (by decide +kernel) ?_
  refine oj_ld1 (pc := 2) (by decide +kernel) ?_
  refine oj_st3 (pc := 3) (by decide +kernel) (by decide +kernel) ?_
  refine oj_iconst (pc := 4) (v := 0) ⟨by decide, by decide⟩ (by decide +kernel) ?_
  refine oj_st4 (pc := 5) (by decide +kernel) (by decide +kernel) ?_
  refine oj_le (lv' := [vu, vu, _, _, _, vu]) ⟨Or.inl rfl, Or.inl rfl, Or.inr rfl, Or.inr rfl, Or.inr rfl, Or.inr rfl, trivial⟩ ?_
  exact h7 _ _ _ _ _ H
theorem c_O_dry_0 {l : Launch} {f : Nat} {l1 l2 : Int} {M : oM} {K : Int × oM → Prop} (H : okp (p_O_dry f l1 l2 M) K) : oKf l m_O_dry 6 [vr 0, vi l1, vi l2] M K := by
  refine oK_intro (lv := [vr 0, vi l1, vi l2, vu, vu, vu, vu]) (by decide +kernel) (Nat.le_of_ble_eq_true rfl) rfl ?_
  have h46 : ∀ (g : Nat) (l1 l2 l3 l4 l5 l6 : Int) (M : oM), okp (iter (p_O_dry_L46 f l1 l2 l3) g (l4, l5, l6, M)) K → oJ l m_O_dry (oEf 6 K) 0 0 46 [vr 0, vi l1, vi l2, vi l3, vi l4, vi l5, vi l6] [] WD M := by
    intro g l1 l2 l3 l4 l5 l6 M H
    have HL := fun hs => iter_J' (Jh := fun s => oJ l m_O_dry (oEf 6 K) 0 0 46 [vr 0, vi l1, vi l2, vi l3, vi s.1, vi s.2.1, vi s.2.2.1] [] WD s.2.2.2) (G := K) hs g (l4, l5, l6, M) H
    refine HL ?_
    intro K46 s i46 e46 H
    obtain ⟨l4, l5, l6, M⟩ := s
    show oJ l m_O_dry (oEf 6 K) 0 0 46 [vr 0, vi l1, vi l2, vi l3, vi l4, vi l5, vi l6] [] WD M
    refine oj_ld6 (pc := 46) (by decide +kernel) ?_
    refine oj_ld1 (pc := 48) (by decide +kernel) ?_
    refine oj_icmp_ge (pc := 49) (off := 25) (tgt := 74) (by decide +kernel) (by decide) H (fun _ H => ?_) (fun _ H => ?_)
    · refine oj_ld4 (pc := 74) (by decide +kernel) ?_
      refine oj_ld5 (pc := 76) (by decide +kernel) ?_
      refine of_Si (pc := 78) (as := [_, _]) v_O_295 rfl rfl (Nat.le_of_ble_eq_true rfl) (by decide +kernel) (by decide) rfl (c_O_commonDivisor_0 (okp_bind H)) (fun r M H => ?_)
      refine oj_st6 (pc := 81) (by decide +kernel) (by decide +kernel) ?_
      refine oj_ld6 (pc := 83) (by decide +kernel) ?_
      refine oj_if_gt (pc := 85) (off := 5) (tgt := 90) (by decide +kernel) (by decide) H (fun _ H => ?_) (fun _ H => ?_)
      · refine oj_ld2 (pc := 90) (by decide +kernel) ?_
        refine oj_if_ne (pc := 91) (off := 8) (tgt := 99) (by decide +kernel) (by decide) H (fun _ H => ?_) (fun _ H => ?_)
        · refine oj_ld5 (pc := 99) (by decide +kernel) ?_
          refine oj_ld6 (pc := 101) (by decide +kernel) ?_
          refine oj_idiv (pc := 103) (by decide +kernel) H (fun _ H => ?_)
          have H := e46 _ H
          exact oj_iret (pc := 104) (by decide +kernel) rfl rfl (Nat.le_refl _) (Nat.le_refl _) ⟨rfl, H⟩
        · refine oj_ld4 (pc := 94) (by decide +kernel) ?_
          refine oj_goto (pc := 96) (off := 5) (tgt := 101) (by decide +kernel) (by decide) ?_
          refine oj_ld6 (pc := 101) (by decide +kernel) ?_
          refine oj_idiv (pc := 103) (by decide +kernel) H (fun _ H => ?_)
          have H := e46 _ H
          exact oj_iret (pc := 104) (by decide +kernel) rfl rfl (Nat.le_refl _) (Nat.le_refl _) ⟨rfl, H⟩
      · refine oj_iconst (pc := 88) (v := -1) ⟨by decide, by decide⟩ (by decide +kernel) ?_
        have H := e46 _ H
        exact oj_iret (pc := 89) (by decide +kernel) rfl rfl (Nat.le_refl _) (Nat.le_refl _) ⟨rfl, H⟩
    · refine oj_ld4 (pc := 52) (by decide +kernel) ?_
      refine oj_bipush (pc := 54) (v := 10) ⟨by decide, by decide⟩ (by decide +kernel) ?_
      refine oj_ld3 (pc := 56) (by decide +kernel) ?_
      refine oj_isub (pc := 57) (by decide +kernel) ?_
      refine oj_imul (pc := 58) (by decide +kernel) ?_
      refine oj_st4 (pc := 59) (by decide +kernel) (by decide +kernel) ?_
      have H := okp_lt H
      refine oj_ld5 (pc := 61) (by decide +kernel) ?_
      refine oj_bipush (pc := 63) (v := 10) ⟨by decide, by decide⟩ (by decide +kernel) ?_
      refine oj_imul (pc := 65) (by decide +kernel) ?_
      refine oj_st5 (pc := 66) (by decide +kernel) (by decide +kernel) ?_
      have H := okp_lt H
      refine oj_inc6 (pc := 68) (d := 1) (by decide +kernel) (by decide +kernel) ?_
      have H := okp_lt H
      refine oj_goto (pc := 71) (off := -25) (tgt := 46) (by decide +kernel) (by decide) ?_
      have H := i46 _ H
      exact H
  have h22 : ∀ (l1 l2 : Int) (M : oM), okp (p_O_dry_B22 f l1 l2 M) K → oJ l m_O_dry (oEf 6 K) 0 0 22 [vr 0, vi l1, vi l2, vu, vu, vu, vu] [] WD M := by
    intro l1 l2 M H
    refine oj_ald0 (pc := 22) (by decide +kernel) ?_
    refine oj_getR' (pc := 23) f_O_41 s_0_5 (by decide +kernel) ?_
    refine oj_ald0 (pc := 26) (by decide +kernel) ?_
    refine oj_getR' (pc := 27) f_O_26 s_0_2 (by decide +kernel) ?_
    refine oj_getI' (pc := 30) (ki := 9) f_O_279 s_6_9 rfl (by decide +kernel) ?_
    refine of_Vi (pc := 33) (as := [_]) v_O_292 o_18 rfl rfl (Nat.le_of_ble_eq_true rfl) (by decide +kernel) (by decide) rfl (c_L_rain_0 (okp_bind H)) (fun r M H => ?_)
    refine oj_st3 (pc := 36) (by decide +kernel) (by decide +kernel) ?_
    refine oj_iconst (pc := 37) (v := 1) ⟨by decide, by decide⟩ (by decide +kernel) ?_
    refine oj_st4 (pc := 38) (by decide +kernel) (by decide +kernel) ?_
    refine oj_iconst (pc := 40) (v := 1) ⟨by decide, by decide⟩ (by decide +kernel) ?_
    refine oj_st5 (pc := 41) (by decide +kernel) (by decide +kernel) ?_
    refine oj_iconst (pc := 43) (v := 0) ⟨by decide, by decide⟩ (by decide +kernel) ?_
    refine oj_st6 (pc := 44) (by decide +kernel) (by decide +kernel) ?_
    exact h46 _ _ _ _ _ _ _ _ H
  refine oj_ld1 (pc := 0) (by decide +kernel) ?_
  refine oj_iconst (pc := 1) (v := 1) ⟨by decide, by decide⟩ (by decide +kernel) ?_
  refine oj_icmp_lt (pc := 2) (off := 18) (tgt := 20) (by decide +kernel) (by decide) H (fun _ H => ?_) (fun _ H => ?_)
  · refine oj_iconst (pc := 20) (v := -1) ⟨by decide, by decide⟩ (by decide +kernel) ?_
    exact oj_iret (pc := 21) (by decide +kernel) rfl rfl (Nat.le_refl _) (Nat.le_refl _) ⟨rfl, H⟩
  · refine oj_ld1 (pc := 5) (by decide +kernel) ?_
    refine oj_bipush (pc := 6) (v := 9) ⟨by decide, by decide⟩ (by decide +kernel) ?_
    refine oj_icmp_gt (pc := 8) (off := 12) (tgt := 20) (by decide +kernel) (by decide) H (fun _ H => ?_) (fun _ H => ?_)
    · refine oj_iconst (pc := 20) (v := -1) ⟨by decide, by decide⟩ (by decide +kernel) ?_
      exact oj_iret (pc := 21) (by decide +kernel) rfl rfl (Nat.le_refl _) (Nat.le_refl _) ⟨rfl, H⟩
    · refine oj_ld2 (pc := 11) (by decide +kernel) ?_
      refine oj_if_eq (pc := 12) (off := 10) (tgt := 22) (by decide +kernel) (by decide) H (fun _ H => ?_) (fun _ H => ?_)
      · exact h22 _ _ _ H
      · refine oj_ld2 (pc := 15) (by decide +kernel) ?_
        refine oj_iconst (pc := 16) (v := 1) ⟨by decide, by decide⟩ (by decide +kernel) ?_
        refine oj_icmp_eq (pc := 17) (off := 5) (tgt := 22) (by decide +kernel) (by decide) H (fun _ H => ?_) (fun _ H => ?_)
        · exact h22 _ _ _ H
        · refine oj_iconst (pc := 20) (v := -1) ⟨by decide, by decide⟩ (by decide +kernel) ?_
          exact oj_iret (pc := 21) (by decide +kernel) rfl rfl (Nat.le_refl _) (Nat.le_refl _) ⟨rfl, H⟩
theorem c_O_seed_0 {l : Launch} {f : Nat} {l1 : Int} {M : oM} {K : Int × oM → Prop} (H : okp (p_O_seed f l1 M) K) : oKf l m_O_seed 2 [vr 0, vi l1] M K := by
  refine oK_intro (lv := [vr 0, vi l1]) (by decide +kernel) (Nat.le_of_ble_eq_true rfl) rfl ?_
  refine oj_ld1 (pc := 0) (by decide +kernel) ?_
  refine oj_if_lt (pc := 1) (off := 10) (tgt := 11) (by decide +kernel) (by decide) H (fun _ H => ?_) (fun _ H => ?_)
  · refine oj_iconst (pc := 11) (v := 0) ⟨by decide, by decide⟩ (by decide +kernel) ?_
    exact oj_iret (pc := 12) (by decide +kernel) rfl rfl (Nat.le_refl _) (Nat.le_refl _) ⟨rfl, H⟩
  · refine oj_ld1 (pc := 4) (by decide +kernel) ?_
    refine oj_ldcw (pc := 5) (v := 65535) k_O_298 ⟨by decide, by decide⟩ (by decide +kernel) ?_
    refine oj_icmp_le (pc := 8) (off := 5) (tgt := 13) (by decide +kernel) (by decide) H (fun _ H => ?_) (fun _ H => ?_)
    · refine oj_ald0 (pc := 13) (by decide +kernel) ?_
      refine oj_getR' (pc := 14) f_O_26 s_0_2 (by decide +kernel) ?_
      refine oj_ld1 (pc := 17) (by decide +kernel) ?_
      refine oj_putI' (pc := 18) (ki := 11) f_O_299 s_6_11 rfl (by decide +kernel) ?_
      have H := okp_lt H
      refine oj_iconst (pc := 21) (v := 1) ⟨by decide, by decide⟩ (by decide +kernel) ?_
      exact oj_iret (pc := 22) (by decide +kernel) rfl rfl (Nat.le_refl _) (Nat.le_refl _) ⟨rfl, H⟩
    · refine oj_iconst (pc := 11) (v := 0) ⟨by decide, by decide⟩ (by decide +kernel) ?_
      exact oj_iret (pc := 12) (by decide +kernel) rfl rfl (Nat.le_refl _) (Nat.le_refl _) ⟨rfl, H⟩
theorem c_O_keep_0 {l : Launch} {f : Nat} {M : oM} {K : Int × oM → Prop} (H : okp (p_O_keep f M) K) : oKf l m_O_keep 3 [vr 0] M K := by
  refine oK_intro (lv := [vr 0]) (by decide +kernel) (Nat.le_of_ble_eq_true rfl) rfl ?_
  refine oj_ald0 (pc := 0) (by decide +kernel) ?_
  refine oj_getR' (pc := 1) f_O_30 s_0_3 (by decide +kernel) ?_
  refine oj_ald0 (pc := 4) (by decide +kernel) ?_
  refine oj_getR' (pc := 5) f_O_26 s_0_2 (by decide +kernel) ?_
  refine of_Vv (pc := 8) (as := [_]) v_O_165 o_10 rfl rfl (Nat.le_of_ble_eq_true rfl) (by decide +kernel) (by decide) rfl (c_D_takeFrom_1 (okp_bind H)) (fun M H => ?_)
  refine oj_ald0 (pc := 11) (by decide +kernel) ?_
  refine oj_iconst (pc := 12) (v := 1) ⟨by decide, by decide⟩ (by decide +kernel) ?_
  refine oj_putC' (pc := 13) (ki := 13) f_O_302 s_0_13 rfl rfl rfl (by decide +kernel) ?_
  have H := okp_lt H
  refine oj_ald0 (pc := 16) (by decide +kernel) ?_
  refine oj_getR' (pc := 17) f_O_26 s_0_2 (by decide +kernel) ?_
  refine of_Vi (pc := 20) (as := []) v_O_151 o_6 rfl rfl (Nat.le_of_ble_eq_true rfl) (by decide +kernel) (by decide) rfl (c_D_owedInAll_0 (okp_bind H)) (fun r M H => ?_)
  exact oj_iret (pc := 23) (by decide +kernel) rfl rfl (Nat.le_refl _) (Nat.le_refl _) ⟨rfl, H⟩
theorem c_O_undo_0 {l : Launch} {f : Nat} {M : oM} {K : Int × oM → Prop} (H : okp (p_O_undo f M) K) : oKf l m_O_undo 3 [vr 0] M K := by
  refine oK_intro (lv := [vr 0]) (by decide +kernel) (Nat.le_of_ble_eq_true rfl) rfl ?_
  refine oj_ald0 (pc := 0) (by decide +kernel) ?_
  refine oj_getI' (pc := 1) (ki := 13) f_O_302 s_0_13 rfl (by decide +kernel) ?_
  refine oj_if_eq (pc := 4) (off := 14) (tgt := 18) (by decide +kernel) (by decide) H (fun _ H => ?_) (fun _ H => ?_)
  · refine oj_ald0 (pc := 18) (by decide +kernel) ?_
    refine oj_getI' (pc := 19) (ki := 13) f_O_302 s_0_13 rfl (by decide +kernel) ?_
    exact oj_zret (pc := 22) (by decide +kernel) rfl (Nat.le_refl _) (Nat.le_refl _) H (fun H => ⟨rfl, H⟩)
  · refine oj_ald0 (pc := 7) (by decide +kernel) ?_
    refine oj_getR' (pc := 8) f_O_26 s_0_2 (by decide +kernel) ?_
    refine oj_ald0 (pc := 11) (by decide +kernel) ?_
    refine oj_getR' (pc := 12) f_O_30 s_0_3 (by decide +kernel) ?_
    refine of_Vv (pc := 15) (as := [_]) v_O_165 o_6 rfl rfl (Nat.le_of_ble_eq_true rfl) (by decide +kernel) (by decide) rfl (c_D_takeFrom_2 (okp_bind H)) (fun M H => ?_)
    refine oj_ald0 (pc := 18) (by decide +kernel) ?_
    refine oj_getI' (pc := 19) (ki := 13) f_O_302 s_0_13 rfl (by decide +kernel) ?_
    exact oj_zret (pc := 22) (by decide +kernel) rfl (Nat.le_refl _) (Nat.le_refl _) H (fun H => ⟨rfl, H⟩)
theorem c_O_check_0 {l : Launch} {f : Nat} {l1 : Int} {M : oM} {K : Int × oM → Prop} (H : okp (p_O_check f l1 M) K) : oKf l m_O_check 4 [vr 0, vi l1] M K := by
  refine oK_intro (lv := [vr 0, vi l1, vu, vu]) (by decide +kernel) (Nat.le_of_ble_eq_true rfl) rfl ?_
  have h21 : ∀ (g : Nat) (l1 l2 l3 : Int) (M : oM), okp (iter (p_O_check_L21 f l1) g (l2, l3, M)) K → oJ l m_O_check (oEf 4 K) 0 0 21 [vr 0, vi l1, vi l2, vi l3] [] WD M := by
    intro g l1 l2 l3 M H
    have HL := fun hs => iter_J' (Jh := fun s => oJ l m_O_check (oEf 4 K) 0 0 21 [vr 0, vi l1, vi s.1, vi s.2.1] [] WD s.2.2) (G := K) hs g (l2, l3, M) H
    refine HL ?_
    intro K21 s i21 e21 H
    obtain ⟨l2, l3, M⟩ := s
    show oJ l m_O_check (oEf 4 K) 0 0 21 [vr 0, vi l1, vi l2, vi l3] [] WD M
    have h70 : ∀ (l2 : Int) (M : oM), okp (p_O_check_B70_21 f l2 M) K21 → oJ l m_O_check (oEf 4 K) 0 0 70 [vr 0, vu, vi l2, vu] [] WD M := by
      intro l2 M H
      refine oj_ald0 (pc := 70) (by decide +kernel) ?_
      refine oj_getR' (pc := 71) f_O_12 s_0_0 (by decide +kernel) ?_
      refine of_Vv (pc := 74) (as := []) v_O_135 o_1 rfl rfl (Nat.le_of_ble_eq_true rfl) (by decide +kernel) (by decide) rfl (c_T_clear_0 (okp_bind H)) (fun M H => ?_)
      refine oj_ld2 (pc := 77) (by decide +kernel) ?_
      have H := e21 _ H
      exact oj_iret (pc := 78) (by decide +kernel) rfl rfl (Nat.le_refl _) (Nat.le_refl _) ⟨rfl, H⟩
    have h57 : ∀ (l2 l3 : Int) (M : oM), okp (p_O_check_B57_21 f l1 l2 l3 M) K21 → oJ l m_O_check (oEf 4 K) 0 0 57 [vr 0, vi l1, vi l2, vi l3] [] WD M := by
      intro l2 l3 M H
      refine oj_ald0 (pc := 57) (by decide +kernel) ?_
      refine oj_getR' (pc := 58) f_O_12 s_0_0 (by decide +kernel) ?_
      refine of_Vv (pc := 61) (as := []) v_O_314 o_1 rfl rfl (Nat.le_of_ble_eq_true rfl) (by decide +kernel) (by decide) rfl (c_T_step_0 (okp_bind H)) (fun M H => ?_)
      refine oj_inc3 (pc := 64) (d := 1) (by decide +kernel) (by decide +kernel) ?_
      have H := okp_lt H
      refine oj_goto (pc := 67) (off := -46) (tgt := 21) (by decide +kernel) (by decide) ?_
      have H := i21 _ H
      exact H
    refine oj_ld3 (pc := 21) (by decide +kernel) ?_
    refine oj_ld1 (pc := 22) (by decide +kernel) ?_
    refine oj_icmp_ge (pc := 23) (off := 47) (tgt := 70) (by decide +kernel) (by decide) H (fun _ H => ?_) (fun _ H => ?_)
    · refine oj_le (lv' := [_, vu, _, vu]) ⟨Or.inr rfl, Or.inl rfl, Or.inr rfl, Or.inl rfl, trivial⟩ ?_
      exact h70 _ _ H
    · refine oj_ld2 (pc := 26) (by decide +kernel) ?_
      refine oj_iconst (pc := 27) (v := -1) ⟨by decide, by decide⟩ (by decide +kernel) ?_
      refine oj_icmp_ne (pc := 28) (off := 42) (tgt := 70) (by decide +kernel) (by decide) H (fun _ H => ?_) (fun _ H => ?_)
      · refine oj_le (lv' := [_, vu, _, vu]) ⟨Or.inr rfl, Or.inl rfl, Or.inr rfl, Or.inl rfl, trivial⟩ ?_
        exact h70 _ _ H
      · refine oj_ald0 (pc := 31) (by decide +kernel) ?_
        refine oj_getR' (pc := 32) f_O_12 s_0_0 (by decide +kernel) ?_
        refine of_Vi (pc := 35) (as := []) v_O_306 o_1 rfl rfl (Nat.le_of_ble_eq_true rfl) (by decide +kernel) (by decide) rfl (c_T_next_0 (okp_bind H)) (fun r M H => ?_)
        refine oj_ald0 (pc := 38) (by decide +kernel) ?_
        refine oj_getR' (pc := 39) f_O_26 s_0_2 (by decide +kernel) ?_
        refine oj_ld3 (pc := 42) (by decide +kernel) ?_
        refine of_Vi (pc := 43) (as := [_]) v_O_189 o_6 rfl rfl (Nat.le_of_ble_eq_true rfl) (by decide +kernel) (by decide) rfl (c_D_owedBy_0 (okp_bind H)) (fun r M H => ?_)
        refine oj_sipush (pc := 46) (v := 255) ⟨by decide, by decide⟩ (by decide +kernel) ?_
        refine oj_mmin (pc := 49) q_O_309 mm_min (Nat.le_of_ble_eq_true rfl) (Nat.le_of_ble_eq_true rfl) (Nat.zero_le _) (Nat.zero_le _) (by decide +kernel) ?_
        refine oj_icmp_eq (pc := 52) (off := 5) (tgt := 57) (by decide +kernel) (by decide) H (fun _ H => ?_) (fun _ H => ?_)
        · exact h57 _ _ _ H
        · refine oj_ld3 (pc := 55) (by decide +kernel) ?_
          refine oj_st2 (pc := 56) (by decide +kernel) (by decide +kernel) ?_
          exact h57 _ _ _ H
  refine oj_ald0 (pc := 0) (by decide +kernel) ?_
  refine oj_getR' (pc := 1) f_O_12 s_0_0 (by decide +kernel) ?_
  refine oj_ld1 (pc := 4) (by decide +kernel) ?_
  refine oj_iconst (pc := 5) (v := 0) ⟨by decide, by decide⟩ (by decide +kernel) ?_
  refine oj_bipush (pc := 6) (v := 10) ⟨by decide, by decide⟩ (by decide +kernel) ?_
  refine of_Vi (pc := 8) (as := [_, _, _]) v_O_128 o_1 rfl rfl (Nat.le_of_ble_eq_true rfl) (by decide +kernel) (by decide) rfl (c_T_opens_0 (okp_bind H)) (fun r M H => ?_)
  refine oj_if_ne (pc := 11) (off := 6) (tgt := 17) (by decide +kernel) (by decide) H (fun _ H => ?_) (fun _ H => ?_)
  · refine oj_iconst (pc := 17) (v := -1) ⟨by decide, by decide⟩ (by decide +kernel) ?_
    refine oj_st2 (pc := 18) (by decide +kernel) (by decide +kernel) ?_
    refine oj_iconst (pc := 19) (v := 0) ⟨by decide, by decide⟩ (by decide +kernel) ?_
    refine oj_st3 (pc := 20) (by decide +kernel) (by decide +kernel) ?_
    exact h21 _ _ _ _ _ H
  · refine oj_bipush (pc := 14) (v := -2) ⟨by decide, by decide⟩ (by decide +kernel) ?_
    exact oj_iret (pc := 16) (by decide +kernel) rfl rfl (Nat.le_refl _) (Nat.le_refl _) ⟨rfl, H⟩
theorem c_O_count_0 {l : Launch} {f : Nat} {l1 : Int} {M : oM} {K : Int × oM → Prop} (H : okp (p_O_count f l1 M) K) : oKf l m_O_count 3 [vr 0, vi l1] M K := by
  refine oK_intro (lv := [vr 0, vi l1]) (by decide +kernel) (Nat.le_of_ble_eq_true rfl) rfl ?_
  refine oj_ld1 (pc := 0) (by decide +kernel) ?_
  refine oj_case (c := _ = 0) H (fun c0 H => ?_) (fun c0 H => ?_)
  · refine oj_tin (pc := 1) (dflt := 197) (lo := 0) (hi := 11) (offs := #[63, 71, 79, 102, 125, 133, 141, 149, 165, 173, 181, 189]) (len := 63) (off := 63) (tgt := 64) 0 c0 (by decide +kernel) ⟨by decide, by decide⟩ (by decide +kernel) (by decide) ?_
    refine oj_ald0 (pc := 64) (by decide +kernel) ?_
    refine oj_getR' (pc := 65) f_O_19 s_0_1 (by decide +kernel) ?_
    refine oj_getI' (pc := 68) (ki := 2) f_O_267 s_3_2 rfl (by decide +kernel) ?_
    exact oj_iret (pc := 71) (by decide +kernel) rfl rfl (Nat.le_refl _) (Nat.le_refl _) ⟨rfl, H⟩
  refine oj_case (c := _ = 1) H (fun c1 H => ?_) (fun c1 H => ?_)
  · refine oj_tin (pc := 1) (dflt := 197) (lo := 0) (hi := 11) (offs := #[63, 71, 79, 102, 125, 133, 141, 149, 165, 173, 181, 189]) (len := 63) (off := 71) (tgt := 72) 1 c1 (by decide +kernel) ⟨by decide, by decide⟩ (by decide +kernel) (by decide) ?_
    refine oj_ald0 (pc := 72) (by decide +kernel) ?_
    refine oj_getR' (pc := 73) f_O_26 s_0_2 (by decide +kernel) ?_
    refine of_Vi (pc := 76) (as := []) v_O_151 o_6 rfl rfl (Nat.le_of_ble_eq_true rfl) (by decide +kernel) (by decide) rfl (c_D_owedInAll_0 (okp_bind H)) (fun r M H => ?_)
    exact oj_iret (pc := 79) (by decide +kernel) rfl rfl (Nat.le_refl _) (Nat.le_refl _) ⟨rfl, H⟩
  refine oj_case (c := _ = 2) H (fun c2 H => ?_) (fun c2 H => ?_)
  · refine oj_tin (pc := 1) (dflt := 197) (lo := 0) (hi := 11) (offs := #[63, 71, 79, 102, 125, 133, 141, 149, 165, 173, 181, 189]) (len := 63) (off := 79) (tgt := 80) 2 c2 (by decide +kernel) ⟨by decide, by decide⟩ (by decide +kernel) (by decide) ?_
    refine oj_ald0 (pc := 80) (by decide +kernel) ?_
    refine oj_getR' (pc := 81) f_O_26 s_0_2 (by decide +kernel) ?_
    refine oj_getI' (pc := 84) (ki := 4) f_O_168 s_6_4 rfl (by decide +kernel) ?_
    refine oj_if_ge (pc := 87) (off := 8) (tgt := 95) (by decide +kernel) (by decide) H (fun _ H => ?_) (fun _ H => ?_)
    · refine oj_ald0 (pc := 95) (by decide +kernel) ?_
      refine oj_getR' (pc := 96) f_O_26 s_0_2 (by decide +kernel) ?_
      refine oj_getI' (pc := 99) (ki := 4) f_O_168 s_6_4 rfl (by decide +kernel) ?_
      exact oj_iret (pc := 102) (by decide +kernel) rfl rfl (Nat.le_refl _) (Nat.le_refl _) ⟨rfl, H⟩
    · refine oj_bipush (pc := 90) (v := -2) ⟨by decide, by decide⟩ (by decide +kernel) ?_
      refine oj_goto (pc := 92) (off := 10) (tgt := 102) (by decide +kernel) (by decide) ?_
      exact oj_iret (pc := 102) (by decide +kernel) rfl rfl (Nat.le_refl _) (Nat.le_refl _) ⟨rfl, H⟩
  refine oj_case (c := _ = 3) H (fun c3 H => ?_) (fun c3 H => ?_)
  · refine oj_tin (pc := 1) (dflt := 197) (lo := 0) (hi := 11) (offs := #[63, 71, 79, 102, 125, 133, 141, 149, 165, 173, 181, 189]) (len := 63) (off := 102) (tgt := 103) 3 c3 (by decide +kernel) ⟨by decide, by decide⟩ (by decide +kernel) (by decide) ?_
    refine oj_ald0 (pc := 103) (by decide +kernel) ?_
    refine oj_getR' (pc := 104) f_O_26 s_0_2 (by decide +kernel) ?_
    refine oj_getI' (pc := 107) (ki := 7) f_O_317 s_6_7 rfl (by decide +kernel) ?_
    refine oj_if_le (pc := 110) (off := 13) (tgt := 123) (by decide +kernel) (by decide) H (fun _ H => ?_) (fun _ H => ?_)
    · refine oj_bipush (pc := 123) (v := -2) ⟨by decide, by decide⟩ (by decide +kernel) ?_
      exact oj_iret (pc := 125) (by decide +kernel) rfl rfl (Nat.le_refl _) (Nat.le_refl _) ⟨rfl, H⟩
    · refine oj_ald0 (pc := 113) (by decide +kernel) ?_
      refine oj_getR' (pc := 114) f_O_26 s_0_2 (by decide +kernel) ?_
      refine oj_getI' (pc := 117) (ki := 6) f_O_320 s_6_6 rfl (by decide +kernel) ?_
      refine oj_goto (pc := 120) (off := 5) (tgt := 125) (by decide +kernel) (by decide) ?_
      exact oj_iret (pc := 125) (by decide +kernel) rfl rfl (Nat.le_refl _) (Nat.le_refl _) ⟨rfl, H⟩
  refine oj_case (c := _ = 4) H (fun c4 H => ?_) (fun c4 H => ?_)
  · refine oj_tin (pc := 1) (dflt := 197) (lo := 0) (hi := 11) (offs := #[63, 71, 79, 102, 125, 133, 141, 149, 165, 173, 181, 189]) (len := 63) (off := 125) (tgt := 126) 4 c4 (by decide +kernel) ⟨by decide, by decide⟩ (by decide +kernel) (by decide) ?_
    refine oj_ald0 (pc := 126) (by decide +kernel) ?_
    refine oj_getR' (pc := 127) f_O_26 s_0_2 (by decide +kernel) ?_
    refine oj_getI' (pc := 130) (ki := 7) f_O_317 s_6_7 rfl (by decide +kernel) ?_
    exact oj_iret (pc := 133) (by decide +kernel) rfl rfl (Nat.le_refl _) (Nat.le_refl _) ⟨rfl, H⟩
  refine oj_case (c := _ = 5) H (fun c5 H => ?_) (fun c5 H => ?_)
  · refine oj_tin (pc := 1) (dflt := 197) (lo := 0) (hi := 11) (offs := #[63, 71, 79, 102, 125, 133, 141, 149, 165, 173, 181, 189]) (len := 63) (off := 133) (tgt := 134) 5 c5 (by decide +kernel) ⟨by decide, by decide⟩ (by decide +kernel) (by decide) ?_
    refine oj_ald0 (pc := 134) (by decide +kernel) ?_
    refine oj_getR' (pc := 135) f_O_26 s_0_2 (by decide +kernel) ?_
    refine oj_getI' (pc := 138) (ki := 8) f_O_177 s_6_8 rfl (by decide +kernel) ?_
    exact oj_iret (pc := 141) (by decide +kernel) rfl rfl (Nat.le_refl _) (Nat.le_refl _) ⟨rfl, H⟩
  refine oj_case (c := _ = 6) H (fun c6 H => ?_) (fun c6 H => ?_)
  · refine oj_tin (pc := 1) (dflt := 197) (lo := 0) (hi := 11) (offs := #[63, 71, 79, 102, 125, 133, 141, 149, 165, 173, 181, 189]) (len := 63) (off := 141) (tgt := 142) 6 c6 (by decide +kernel) ⟨by decide, by decide⟩ (by decide +kernel) (by decide) ?_
    refine oj_ald0 (pc := 142) (by decide +kernel) ?_
    refine oj_getR' (pc := 143) f_O_26 s_0_2 (by decide +kernel) ?_
    refine oj_getI' (pc := 146) (ki := 9) f_O_279 s_6_9 rfl (by decide +kernel) ?_
    exact oj_iret (pc := 149) (by decide +kernel) rfl rfl (Nat.le_refl _) (Nat.le_refl _) ⟨rfl, H⟩
  refine oj_case (c := _ = 7) H (fun c7 H => ?_) (fun c7 H => ?_)
  · refine oj_tin (pc := 1) (dflt := 197) (lo := 0) (hi := 11) (offs := #[63, 71, 79, 102, 125, 133, 141, 149, 165, 173, 181, 189]) (len := 63) (off := 149) (tgt := 150) 7 c7 (by decide +kernel) ⟨by decide, by decide⟩ (by decide +kernel) (by decide) ?_
    refine oj_ald0 (pc := 150) (by decide +kernel) ?_
    refine oj_getR' (pc := 151) f_O_26 s_0_2 (by decide +kernel) ?_
    refine oj_getI' (pc := 154) (ki := 10) f_O_323 s_6_10 rfl (by decide +kernel) ?_
    refine oj_if_eq (pc := 157) (off := 7) (tgt := 164) (by decide +kernel) (by decide) H (fun _ H => ?_) (fun _ H => ?_)
    · refine oj_iconst (pc := 164) (v := 0) ⟨by decide, by decide⟩ (by decide +kernel) ?_
      exact oj_iret (pc := 165) (by decide +kernel) rfl rfl (Nat.le_refl _) (Nat.le_refl _) ⟨rfl, H⟩
    · refine oj_iconst (pc := 160) (v := 1) ⟨by decide, by decide⟩ (by decide +kernel) ?_
      refine oj_goto (pc := 161) (off := 4) (tgt := 165) (by decide +kernel) (by decide) ?_
      exact oj_iret (pc := 165) (by decide +kernel) rfl rfl (Nat.le_refl _) (Nat.le_refl _) ⟨rfl, H⟩
  refine oj_case (c := _ = 8) H (fun c8 H => ?_) (fun c8 H => ?_)
  · refine oj_tin (pc := 1) (dflt := 197) (lo := 0) (hi := 11) (offs := #[63, 71, 79, 102, 125, 133, 141, 149, 165, 173, 181, 189]) (len := 63) (off := 165) (tgt := 166) 8 c8 (by decide +kernel) ⟨by decide, by decide⟩ (by decide +kernel) (by decide) ?_
    refine oj_ald0 (pc := 166) (by decide +kernel) ?_
    refine oj_getR' (pc := 167) f_O_26 s_0_2 (by decide +kernel) ?_
    refine oj_getI' (pc := 170) (ki := 3) f_O_282 s_6_3 rfl (by decide +kernel) ?_
    exact oj_iret (pc := 173) (by decide +kernel) rfl rfl (Nat.le_refl _) (Nat.le_refl _) ⟨rfl, H⟩
  refine oj_case (c := _ = 9) H (fun c9 H => ?_) (fun c9 H => ?_)
  · refine oj_tin (pc := 1) (dflt := 197) (lo := 0) (hi := 11) (offs := #[63, 71, 79, 102, 125, 133, 141, 149, 165, 173, 181, 189]) (len := 63) (off := 173) (tgt := 174) 9 c9 (by decide +kernel) ⟨by decide, by decide⟩ (by decide +kernel) (by decide) ?_
    refine oj_ald0 (pc := 174) (by decide +kernel) ?_
    refine oj_getR' (pc := 175) f_O_41 s_0_5 (by decide +kernel) ?_
    refine oj_getI' (pc := 178) (ki := 10) f_O_326 s_18_10 rfl (by decide +kernel) ?_
    exact oj_iret (pc := 181) (by decide +kernel) rfl rfl (Nat.le_refl _) (Nat.le_refl _) ⟨rfl, H⟩
  refine oj_case (c := _ = 10) H (fun c10 H => ?_) (fun c10 H => ?_)
  · refine oj_tin (pc := 1) (dflt := 197) (lo := 0) (hi := 11) (offs := #[63, 71, 79, 102, 125, 133, 141, 149, 165, 173, 181, 189]) (len := 63) (off := 181) (tgt := 182) 10 c10 (by decide +kernel) ⟨by decide, by decide⟩ (by decide +kernel) (by decide) ?_
    refine oj_ald0 (pc := 182) (by decide +kernel) ?_
    refine oj_getR' (pc := 183) f_O_12 s_0_0 (by decide +kernel) ?_
    refine of_Vi (pc := 186) (as := []) v_O_121 o_1 rfl rfl (Nat.le_of_ble_eq_true rfl) (by decide +kernel) (by decide) rfl (c_T_size_0 (okp_bind H)) (fun r M H => ?_)
    exact oj_iret (pc := 189) (by decide +kernel) rfl rfl (Nat.le_refl _) (Nat.le_refl _) ⟨rfl, H⟩
  refine oj_case (c := _ = 11) H (fun c11 H => ?_) (fun c11 H => ?_)
  · refine oj_tin (pc := 1) (dflt := 197) (lo := 0) (hi := 11) (offs := #[63, 71, 79, 102, 125, 133, 141, 149, 165, 173, 181, 189]) (len := 63) (off := 189) (tgt := 190) 11 c11 (by decide +kernel) ⟨by decide, by decide⟩ (by decide +kernel) (by decide) ?_
    refine oj_ald0 (pc := 190) (by decide +kernel) ?_
    refine oj_getR' (pc := 191) f_O_26 s_0_2 (by decide +kernel) ?_
    refine oj_getI' (pc := 194) (ki := 11) f_O_299 s_6_11 rfl (by decide +kernel) ?_
    exact oj_iret (pc := 197) (by decide +kernel) rfl rfl (Nat.le_refl _) (Nat.le_refl _) ⟨rfl, H⟩
  refine oj_tout (pc := 1) (dflt := 197) (lo := 0) (hi := 11) (offs := #[63, 71, 79, 102, 125, 133, 141, 149, 165, 173, 181, 189]) (len := 63) (tgt := 198) (by decide +kernel) (by omega) (by decide) ?_
  refine oj_iconst (pc := 198) (v := -1) ⟨by decide, by decide⟩ (by decide +kernel) ?_
  exact oj_iret (pc := 199) (by decide +kernel) rfl rfl (Nat.le_refl _) (Nat.le_refl _) ⟨rfl, H⟩
theorem c_M_in_0 {l : Launch} {f : Nat} {l0 l1 l2 : Int} {M : oM} {K : Int × oM → Prop} (H : okp (p_M_in f l0 l1 l2 M) K) : oKf l m_M_in 2 [vi l0, vi l1, vi l2] M K := by
  refine oK_intro (lv := [vi l0, vi l1, vi l2]) (by decide +kernel) (Nat.le_of_ble_eq_true rfl) rfl ?_
  refine oj_ld0 (pc := 0) (by decide +kernel) ?_
  refine oj_ld1 (pc := 1) (by decide +kernel) ?_
  refine oj_icmp_lt (pc := 2) (off := 12) (tgt := 14) (by decide +kernel) (by decide) H (fun _ H => ?_) (fun _ H => ?_)
  · refine oj_iconst (pc := 14) (v := 0) ⟨by decide, by decide⟩ (by decide +kernel) ?_
    exact oj_iret (pc := 15) (by decide +kernel) rfl rfl (Nat.le_refl _) (Nat.le_refl _) ⟨rfl, H⟩
  · refine oj_ld0 (pc := 5) (by decide +kernel) ?_
    refine oj_ld2 (pc := 6) (by decide +kernel) ?_
    refine oj_icmp_gt (pc := 7) (off := 7) (tgt := 14) (by decide +kernel) (by decide) H (fun _ H => ?_) (fun _ H => ?_)
    · refine oj_iconst (pc := 14) (v := 0) ⟨by decide, by decide⟩ (by decide +kernel) ?_
      exact oj_iret (pc := 15) (by decide +kernel) rfl rfl (Nat.le_refl _) (Nat.le_refl _) ⟨rfl, H⟩
    · refine oj_iconst (pc := 10) (v := 1) ⟨by decide, by decide⟩ (by decide +kernel) ?_
      refine oj_goto (pc := 11) (off := 4) (tgt := 15) (by decide +kernel) (by decide) ?_
      exact oj_iret (pc := 15) (by decide +kernel) rfl rfl (Nat.le_refl _) (Nat.le_refl _) ⟨rfl, H⟩
theorem c_M_person_0 {l : Launch} {f : Nat} {l1 l2 l3 : Int} {M : oM} {K : Int × oM → Prop} (H : okp (p_M_person f l1 l2 l3 M) K) : oKf l m_M_person 3 [vr 57, vi l1, vi l2, vi l3] M K := by
  refine oK_intro (lv := [vr 57, vi l1, vi l2, vi l3]) (by decide +kernel) (Nat.le_of_ble_eq_true rfl) rfl ?_
  refine oj_ld1 (pc := 0) (by decide +kernel) ?_
  refine oj_iconst (pc := 1) (v := 0) ⟨by decide, by decide⟩ (by decide +kernel) ?_
  refine oj_bipush (pc := 2) (v := 9) ⟨by decide, by decide⟩ (by decide +kernel) ?_
  refine of_Si (pc := 4) (as := [_, _, _]) v_M_123 rfl rfl (Nat.le_of_ble_eq_true rfl) (by decide +kernel) (by decide) rfl (c_M_in_0 (okp_bind H)) (fun r M H => ?_)
  refine oj_if_eq (pc := 7) (off := 23) (tgt := 30) (by decide +kernel) (by decide) H (fun _ H => ?_) (fun _ H => ?_)
  · refine oj_iconst (pc := 30) (v := 0) ⟨by decide, by decide⟩ (by decide +kernel) ?_
    exact oj_iret (pc := 31) (by decide +kernel) rfl rfl (Nat.le_refl _) (Nat.le_refl _) ⟨rfl, H⟩
  · refine oj_ld2 (pc := 10) (by decide +kernel) ?_
    refine oj_iconst (pc := 11) (v := 0) ⟨by decide, by decide⟩ (by decide +kernel) ?_
    refine oj_bipush (pc := 12) (v := 9) ⟨by decide, by decide⟩ (by decide +kernel) ?_
    refine of_Si (pc := 14) (as := [_, _, _]) v_M_123 rfl rfl (Nat.le_of_ble_eq_true rfl) (by decide +kernel) (by decide) rfl (c_M_in_0 (okp_bind H)) (fun r M H => ?_)
    refine oj_if_eq (pc := 17) (off := 13) (tgt := 30) (by decide +kernel) (by decide) H (fun _ H => ?_) (fun _ H => ?_)
    · refine oj_iconst (pc := 30) (v := 0) ⟨by decide, by decide⟩ (by decide +kernel) ?_
      exact oj_iret (pc := 31) (by decide +kernel) rfl rfl (Nat.le_refl _) (Nat.le_refl _) ⟨rfl, H⟩
    · refine oj_ld3 (pc := 20) (by decide +kernel) ?_
      refine oj_iconst (pc := 21) (v := 0) ⟨by decide, by decide⟩ (by decide +kernel) ?_
      refine oj_bipush (pc := 22) (v := 9) ⟨by decide, by decide⟩ (by decide +kernel) ?_
      refine of_Si (pc := 24) (as := [_, _, _]) v_M_123 rfl rfl (Nat.le_of_ble_eq_true rfl) (by decide +kernel) (by decide) rfl (c_M_in_0 (okp_bind H)) (fun r M H => ?_)
      refine oj_if_ne (pc := 27) (off := 5) (tgt := 32) (by decide +kernel) (by decide) H (fun _ H => ?_) (fun _ H => ?_)
      · refine oj_ald0 (pc := 32) (by decide +kernel) ?_
        refine oj_ald0 (pc := 33) (by decide +kernel) ?_
        refine oj_getI' (pc := 34) (ki := 5) f_M_127 s_57_5 rfl (by decide +kernel) ?_
        refine oj_iconst (pc := 37) (v := 1) ⟨by decide, by decide⟩ (by decide +kernel) ?_
        refine oj_ld1 (pc := 38) (by decide +kernel) ?_
        refine oj_ishl (pc := 39) (by decide +kernel) ?_
        refine oj_ior (pc := 40) (by decide +kernel) ?_
        refine oj_putI' (pc := 41) (ki := 5) f_M_127 s_57_5 rfl (by decide +kernel) ?_
        have H := okp_lt H
        refine oj_ald0 (pc := 44) (by decide +kernel) ?_
        refine oj_getR' (pc := 45) f_M_19 s_57_3 (by decide +kernel) ?_
        refine oj_ld1 (pc := 48) (by decide +kernel) ?_
        refine oj_ld2 (pc := 49) (by decide +kernel) ?_
        refine oj_iast (pc := 50) (NN := 10) a_61 rfl (by decide +kernel) H (fun H => ?_)
        have H := okp_lt H
        refine oj_ald0 (pc := 51) (by decide +kernel) ?_
        refine oj_getR' (pc := 52) f_M_22 s_57_4 (by decide +kernel) ?_
        refine oj_ld1 (pc := 55) (by decide +kernel) ?_
        refine oj_ld3 (pc := 56) (by decide +kernel) ?_
        refine oj_iast (pc := 57) (NN := 10) a_62 rfl (by decide +kernel) H (fun H => ?_)
        have H := okp_lt H
        refine oj_iconst (pc := 58) (v := 1) ⟨by decide, by decide⟩ (by decide +kernel) ?_
        exact oj_iret (pc := 59) (by decide +kernel) rfl rfl (Nat.le_refl _) (Nat.le_refl _) ⟨rfl, H⟩
      · refine oj_iconst (pc := 30) (v := 0) ⟨by decide, by decide⟩ (by decide +kernel) ?_
        exact oj_iret (pc := 31) (by decide +kernel) rfl rfl (Nat.le_refl _) (Nat.le_refl _) ⟨rfl, H⟩
theorem c_M_has_0 {l : Launch} {f : Nat} {l0 l1 : Int} {M : oM} {K : Int × oM → Prop} (H : okp (p_M_has f l0 l1 M) K) : oKf l m_M_has 2 [vi l0, vi l1] M K := by
  refine oK_intro (lv := [vi l0, vi l1]) (by decide +kernel) (Nat.le_of_ble_eq_true rfl) rfl ?_
  refine oj_ld0 (pc := 0) (by decide +kernel) ?_
  refine oj_ld1 (pc := 1) (by decide +kernel) ?_
  refine oj_ishr (pc := 2) (by decide +kernel) ?_
  refine oj_iconst (pc := 3) (v := 1) ⟨by decide, by decide⟩ (by decide +kernel) ?_
  refine oj_iand (pc := 4) (by decide +kernel) ?_
  refine oj_iconst (pc := 5) (v := 1) ⟨by decide, by decide⟩ (by decide +kernel) ?_
  refine oj_icmp_ne (pc := 6) (off := 7) (tgt := 13) (by decide +kernel) (by decide) H (fun _ H => ?_) (fun _ H => ?_)
  · refine oj_iconst (pc := 13) (v := 0) ⟨by decide, by decide⟩ (by decide +kernel) ?_
    exact oj_iret (pc := 14) (by decide +kernel) rfl rfl (Nat.le_refl _) (Nat.le_refl _) ⟨rfl, H⟩
  · refine oj_iconst (pc := 9) (v := 1) ⟨by decide, by decide⟩ (by decide +kernel) ?_
    refine oj_goto (pc := 10) (off := 4) (tgt := 14) (by decide +kernel) (by decide) ?_
    exact oj_iret (pc := 14) (by decide +kernel) rfl rfl (Nat.le_refl _) (Nat.le_refl _) ⟨rfl, H⟩
theorem c_M_isPerson_0 {l : Launch} {f : Nat} {l1 : Int} {M : oM} {K : Int × oM → Prop} (H : okp (p_M_isPerson f l1 M) K) : oKf l m_M_isPerson 3 [vr 57, vi l1] M K := by
  refine oK_intro (lv := [vr 57, vi l1]) (by decide +kernel) (Nat.le_of_ble_eq_true rfl) rfl ?_
  refine oj_ld1 (pc := 0) (by decide +kernel) ?_
  refine oj_iconst (pc := 1) (v := 0) ⟨by decide, by decide⟩ (by decide +kernel) ?_
  refine oj_bipush (pc := 2) (v := 9) ⟨by decide, by decide⟩ (by decide +kernel) ?_
  refine of_Si (pc := 4) (as := [_, _, _]) v_M_123 rfl rfl (Nat.le_of_ble_eq_true rfl) (by decide +kernel) (by decide) rfl (c_M_in_0 (okp_bind H)) (fun r M H => ?_)
  refine oj_if_eq (pc := 7) (off := 18) (tgt := 25) (by decide +kernel) (by decide) H (fun _ H => ?_) (fun _ H => ?_)
  · refine oj_iconst (pc := 25) (v := 0) ⟨by decide, by decide⟩ (by decide +kernel) ?_
    exact oj_iret (pc := 26) (by decide +kernel) rfl rfl (Nat.le_refl _) (Nat.le_refl _) ⟨rfl, H⟩
  · refine oj_ald0 (pc := 10) (by decide +kernel) ?_
    refine oj_getI' (pc := 11) (ki := 5) f_M_127 s_57_5 rfl (by decide +kernel) ?_
    refine oj_ld1 (pc := 14) (by decide +kernel) ?_
    refine of_Si (pc := 15) (as := [_, _]) v_M_131 rfl rfl (Nat.le_of_ble_eq_true rfl) (by decide +kernel) (by decide) rfl (c_M_has_0 (okp_bind H)) (fun r M H => ?_)
    refine oj_if_eq (pc := 18) (off := 7) (tgt := 25) (by decide +kernel) (by decide) H (fun _ H => ?_) (fun _ H => ?_)
    · refine oj_iconst (pc := 25) (v := 0) ⟨by decide, by decide⟩ (by decide +kernel) ?_
      exact oj_iret (pc := 26) (by decide +kernel) rfl rfl (Nat.le_refl _) (Nat.le_refl _) ⟨rfl, H⟩
    · refine oj_iconst (pc := 21) (v := 1) ⟨by decide, by decide⟩ (by decide +kernel) ?_
      refine oj_goto (pc := 22) (off := 4) (tgt := 26) (by decide +kernel) (by decide) ?_
      exact oj_iret (pc := 26) (by decide +kernel) rfl rfl (Nat.le_refl _) (Nat.le_refl _) ⟨rfl, H⟩
theorem c_M_areTwo_0 {l : Launch} {f : Nat} {l1 l2 : Int} {M : oM} {K : Int × oM → Prop} (H : okp (p_M_areTwo f l1 l2 M) K) : oKf l m_M_areTwo 4 [vr 57, vi l1, vi l2] M K := by
  refine oK_intro (lv := [vr 57, vi l1, vi l2]) (by decide +kernel) (Nat.le_of_ble_eq_true rfl) rfl ?_
  refine oj_ald0 (pc := 0) (by decide +kernel) ?_
  refine oj_ld1 (pc := 1) (by decide +kernel) ?_
  refine of_Vi (pc := 2) (as := [_]) v_M_135 o_57 rfl rfl (Nat.le_of_ble_eq_true rfl) (by decide +kernel) (by decide) rfl (c_M_isPerson_0 (okp_bind H)) (fun r M H => ?_)
  refine oj_if_eq (pc := 5) (off := 20) (tgt := 25) (by decide +kernel) (by decide) H (fun _ H => ?_) (fun _ H => ?_)
  · refine oj_iconst (pc := 25) (v := 0) ⟨by decide, by decide⟩ (by decide +kernel) ?_
    exact oj_iret (pc := 26) (by decide +kernel) rfl rfl (Nat.le_refl _) (Nat.le_refl _) ⟨rfl, H⟩
  · refine oj_ald0 (pc := 8) (by decide +kernel) ?_
    refine oj_ld2 (pc := 9) (by decide +kernel) ?_
    refine of_Vi (pc := 10) (as := [_]) v_M_135 o_57 rfl rfl (Nat.le_of_ble_eq_true rfl) (by decide +kernel) (by decide) rfl (c_M_isPerson_0 (okp_bind H)) (fun r M H => ?_)
    refine oj_if_eq (pc := 13) (off := 12) (tgt := 25) (by decide +kernel) (by decide) H (fun _ H => ?_) (fun _ H => ?_)
    · refine oj_iconst (pc := 25) (v := 0) ⟨by decide, by decide⟩ (by decide +kernel) ?_
      exact oj_iret (pc := 26) (by decide +kernel) rfl rfl (Nat.le_refl _) (Nat.le_refl _) ⟨rfl, H⟩
    · refine oj_ld1 (pc := 16) (by decide +kernel) ?_
      refine oj_ld2 (pc := 17) (by decide +kernel) ?_
      refine oj_icmp_eq (pc := 18) (off := 7) (tgt := 25) (by decide +kernel) (by decide) H (fun _ H => ?_) (fun _ H => ?_)
      · refine oj_iconst (pc := 25) (v := 0) ⟨by decide, by decide⟩ (by decide +kernel) ?_
        exact oj_iret (pc := 26) (by decide +kernel) rfl rfl (Nat.le_refl _) (Nat.le_refl _) ⟨rfl, H⟩
      · refine oj_iconst (pc := 21) (v := 1) ⟨by decide, by decide⟩ (by decide +kernel) ?_
        refine oj_goto (pc := 22) (off := 4) (tgt := 26) (by decide +kernel) (by decide) ?_
        exact oj_iret (pc := 26) (by decide +kernel) rfl rfl (Nat.le_refl _) (Nat.le_refl _) ⟨rfl, H⟩
theorem c_M_debt_0 {l : Launch} {f : Nat} {l1 l2 l3 : Int} {M : oM} {K : Int × oM → Prop} (H : okp (p_M_debt f l1 l2 l3 M) K) : oKf l m_M_debt 5 [vr 57, vi l1, vi l2, vi l3] M K := by
  refine oK_intro (lv := [vr 57, vi l1, vi l2, vi l3]) (by decide +kernel) (Nat.le_of_ble_eq_true rfl) rfl ?_
  refine oj_ald0 (pc := 0) (by decide +kernel) ?_
  refine oj_ld1 (pc := 1) (by decide +kernel) ?_
  refine oj_ld2 (pc := 2) (by decide +kernel) ?_
  refine of_Vi (pc := 3) (as := [_, _]) v_M_153 o_57 rfl rfl (Nat.le_of_ble_eq_true rfl) (by decide +kernel) (by decide) rfl (c_M_areTwo_0 (okp_bind H)) (fun r M H => ?_)
  refine oj_if_eq (pc := 6) (off := 13) (tgt := 19) (by decide +kernel) (by decide) H (fun _ H => ?_) (fun _ H => ?_)
  · refine oj_iconst (pc := 19) (v := 0) ⟨by decide, by decide⟩ (by decide +kernel) ?_
    exact oj_iret (pc := 20) (by decide +kernel) rfl rfl (Nat.le_refl _) (Nat.le_refl _) ⟨rfl, H⟩
  · refine oj_ld3 (pc := 9) (by decide +kernel) ?_
    refine oj_iconst (pc := 10) (v := 0) ⟨by decide, by decide⟩ (by decide +kernel) ?_
    refine oj_bipush (pc := 11) (v := 99) ⟨by decide, by decide⟩ (by decide +kernel) ?_
    refine of_Si (pc := 13) (as := [_, _, _]) v_M_123 rfl rfl (Nat.le_of_ble_eq_true rfl) (by decide +kernel) (by decide) rfl (c_M_in_0 (okp_bind H)) (fun r M H => ?_)
    refine oj_if_ne (pc := 16) (off := 5) (tgt := 21) (by decide +kernel) (by decide) H (fun _ H => ?_) (fun _ H => ?_)
    · refine oj_ald0 (pc := 21) (by decide +kernel) ?_
      refine oj_getR' (pc := 22) f_M_7 s_57_0 (by decide +kernel) ?_
      refine oj_iconst (pc := 25) (v := 0) ⟨by decide, by decide⟩ (by decide +kernel) ?_
      refine oj_bipush (pc := 26) (v := 10) ⟨by decide, by decide⟩ (by decide +kernel) ?_
      refine oj_ld1 (pc := 28) (by decide +kernel) ?_
      refine oj_imul (pc := 29) (by decide +kernel) ?_
      refine oj_iadd (pc := 30) (by decide +kernel) ?_
      refine oj_ld2 (pc := 31) (by decide +kernel) ?_
      refine oj_iadd (pc := 32) (by decide +kernel) ?_
      refine oj_ld3 (pc := 33) (by decide +kernel) ?_
      refine oj_iast (pc := 34) (NN := 159) a_58 rfl (by decide +kernel) H (fun H => ?_)
      have H := okp_lt H
      refine oj_iconst (pc := 35) (v := 1) ⟨by decide, by decide⟩ (by decide +kernel) ?_
      exact oj_iret (pc := 36) (by decide +kernel) rfl rfl (Nat.le_refl _) (Nat.le_refl _) ⟨rfl, H⟩
    · refine oj_iconst (pc := 19) (v := 0) ⟨by decide, by decide⟩ (by decide +kernel) ?_
      exact oj_iret (pc := 20) (by decide +kernel) rfl rfl (Nat.le_refl _) (Nat.le_refl _) ⟨rfl, H⟩
theorem c_M_rests_0 {l : Launch} {f : Nat} {l1 : Int} {M : oM} {K : Int × oM → Prop} (H : okp (p_M_rests f l1 M) K) : oKf l m_M_rests 2 [vr 57, vi l1] M K := by
  refine oK_intro (lv := [vr 57, vi l1]) (by decide +kernel) (Nat.le_of_ble_eq_true rfl) rfl ?_
  refine oj_ald0 (pc := 0) (by decide +kernel) ?_
  refine oj_getR' (pc := 1) f_M_7 s_57_0 (by decide +kernel) ?_
  refine oj_sipush (pc := 4) (v := 151) ⟨by decide, by decide⟩ (by decide +kernel) ?_
  refine oj_ld1 (pc := 7) (by decide +kernel) ?_
  refine oj_iast (pc := 8) (NN := 159) a_58 rfl (by decide +kernel) H (fun H => ?_)
  have H := okp_lt H
  refine oj_ald0 (pc := 9) (by decide +kernel) ?_
  refine oj_getR' (pc := 10) f_M_7 s_57_0 (by decide +kernel) ?_
  refine oj_sipush (pc := 13) (v := 153) ⟨by decide, by decide⟩ (by decide +kernel) ?_
  refine oj_bipush (pc := 16) (v := -2) ⟨by decide, by decide⟩ (by decide +kernel) ?_
  refine oj_iast (pc := 18) (NN := 159) a_58 rfl (by decide +kernel) H (fun H => ?_)
  have H := okp_lt H
  refine oj_ald0 (pc := 19) (by decide +kernel) ?_
  refine oj_getR' (pc := 20) f_M_7 s_57_0 (by decide +kernel) ?_
  refine oj_sipush (pc := 23) (v := 154) ⟨by decide, by decide⟩ (by decide +kernel) ?_
  refine oj_iconst (pc := 26) (v := 0) ⟨by decide, by decide⟩ (by decide +kernel) ?_
  refine oj_iast (pc := 27) (NN := 159) a_58 rfl (by decide +kernel) H (fun H => ?_)
  have H := okp_lt H
  exact oj_vret (pc := 28) (by decide +kernel) rfl (Nat.le_refl _) (Nat.le_refl _) ⟨rfl, H⟩
theorem c_M_coin_0 {l : Launch} {f : Nat} {l1 : Int} {M : oM} {K : Int × oM → Prop} (H : okp (p_M_coin f l1 M) K) : oKf l m_M_coin 4 [vr 57, vi l1] M K := by
  refine oK_intro (lv := [vr 57, vi l1]) (by decide +kernel) (Nat.le_of_ble_eq_true rfl) rfl ?_
  refine oj_ald0 (pc := 0) (by decide +kernel) ?_
  refine oj_ld1 (pc := 1) (by decide +kernel) ?_
  refine of_Vi (pc := 2) (as := [_]) v_M_135 o_57 rfl rfl (Nat.le_of_ble_eq_true rfl) (by decide +kernel) (by decide) rfl (c_M_isPerson_0 (okp_bind H)) (fun r M H => ?_)
  refine oj_if_ne (pc := 5) (off := 5) (tgt := 10) (by decide +kernel) (by decide) H (fun _ H => ?_) (fun _ H => ?_)
  · refine oj_ald0 (pc := 10) (by decide +kernel) ?_
    refine oj_ld1 (pc := 11) (by decide +kernel) ?_
    refine of_Vv (pc := 12) (as := [_]) v_M_156 o_57 rfl rfl (Nat.le_of_ble_eq_true rfl) (by decide +kernel) (by decide) rfl (c_M_rests_0 (okp_bind H)) (fun M H => ?_)
    refine oj_iconst (pc := 15) (v := 1) ⟨by decide, by decide⟩ (by decide +kernel) ?_
    exact oj_iret (pc := 16) (by decide +kernel) rfl rfl (Nat.le_refl _) (Nat.le_refl _) ⟨rfl, H⟩
  · refine oj_iconst (pc := 8) (v := 0) ⟨by decide, by decide⟩ (by decide +kernel) ?_
    exact oj_iret (pc := 9) (by decide +kernel) rfl rfl (Nat.le_refl _) (Nat.le_refl _) ⟨rfl, H⟩
theorem c_M_types_0 {l : Launch} {f : Nat} {l1 : Int} {M : oM} {K : Int × oM → Prop} (H : okp (p_M_types f l1 M) K) : oKf l m_M_types 2 [vr 57, vi l1] M K := by
  refine oK_intro (lv := [vr 57, vi l1, vu]) (by decide +kernel) (Nat.le_of_ble_eq_true rfl) rfl ?_
  have h2 : ∀ (g : Nat) (l1 l2 : Int) (M : oM), okp (iter (p_M_types_L2 f l1) g (l2, M)) K → oJ l m_M_types (oEf 2 K) 0 0 2 [vr 57, vi l1, vi l2] [] WD M := by
    intro g l1 l2 M H
    have HL := fun hs => iter_J' (Jh := fun s => oJ l m_M_types (oEf 2 K) 0 0 2 [vr 57, vi l1, vi s.1] [] WD s.2) (G := K) hs g (l2, M) H
    refine HL ?_
    intro K2 s i2 e2 H
    obtain ⟨l2, M⟩ := s
    show oJ l m_M_types (oEf 2 K) 0 0 2 [vr 57, vi l1, vi l2] [] WD M
    refine oj_ld2 (pc := 2) (by decide +kernel) ?_
    refine oj_if_lt (pc := 3) (off := 35) (tgt := 38) (by decide +kernel) (by decide) H (fun _ H => ?_) (fun _ H => ?_)
    · have H := e2 _ H
      exact oj_vret (pc := 38) (by decide +kernel) rfl (Nat.le_refl _) (Nat.le_refl _) ⟨rfl, H⟩
    · refine oj_ald0 (pc := 6) (by decide +kernel) ?_
      refine oj_getR' (pc := 7) f_M_25 s_57_6 (by decide +kernel) ?_
      refine oj_ald0 (pc := 10) (by decide +kernel) ?_
      refine oj_getI' (pc := 11) (ki := 7) f_M_160 s_57_7 rfl (by decide +kernel) ?_
      refine oj_ld1 (pc := 14) (by decide +kernel) ?_
      refine oj_bipush (pc := 15) (v := 8) ⟨by decide, by decide⟩ (by decide +kernel) ?_
      refine oj_ld2 (pc := 17) (by decide +kernel) ?_
      refine oj_imul (pc := 18) (by decide +kernel) ?_
      refine oj_ishr (pc := 19) (by decide +kernel) ?_
      refine oj_i2b (pc := 20) (by decide +kernel) ?_
      refine oj_bast (pc := 21) (NN := 260) a_63 rfl (by decide +kernel) H (fun H => ?_)
      have H := okp_lt H
      refine oj_ald0 (pc := 22) (by decide +kernel) ?_
      refine oj_ald0 (pc := 23) (by decide +kernel) ?_
      refine oj_getI' (pc := 24) (ki := 7) f_M_160 s_57_7 rfl (by decide +kernel) ?_
      refine oj_iconst (pc := 27) (v := 1) ⟨by decide, by decide⟩ (by decide +kernel) ?_
      refine oj_iadd (pc := 28) (by decide +kernel) ?_
      refine oj_putI' (pc := 29) (ki := 7) f_M_160 s_57_7 rfl (by decide +kernel) ?_
      have H := okp_lt H
      refine oj_inc2 (pc := 32) (d := -1) (by decide +kernel) (by decide +kernel) ?_
      have H := okp_lt H
      refine oj_goto (pc := 35) (off := -33) (tgt := 2) (by decide +kernel) (by decide) ?_
      have H := i2 _ H
      exact H
  refine oj_iconst (pc := 0) (v := 3) ⟨by decide, by decide⟩ (by decide +kernel) ?_
  refine oj_st2 (pc := 1) (by decide +kernel) (by decide +kernel) ?_
  exact h2 _ _ _ _ H
theorem c_M_feed_0 {l : Launch} {f : Nat} {l1 l2 l3 l4 l5 : Int} {M : oM} {K : Int × oM → Prop} (H : okp (p_M_feed f l1 l2 l3 l4 l5 M) K) : oKf l m_M_feed 3 [vr 57, vi l1, vi l2, vi l3, vi l4, vi l5] M K := by
  refine oK_intro (lv := [vr 57, vi l1, vi l2, vi l3, vi l4, vi l5]) (by decide +kernel) (Nat.le_of_ble_eq_true rfl) rfl ?_
  refine oj_ald0 (pc := 0) (by decide +kernel) ?_
  refine oj_getI' (pc := 1) (ki := 7) f_M_160 s_57_7 rfl (by decide +kernel) ?_
  refine oj_bipush (pc := 4) (v := 20) ⟨by decide, by decide⟩ (by decide +kernel) ?_
  refine oj_iadd (pc := 6) (by decide +kernel) ?_
  refine oj_sipush (pc := 7) (v := 260) ⟨by decide, by decide⟩ (by decide +kernel) ?_
  refine oj_icmp_le (pc := 10) (off := 5) (tgt := 15) (by decide +kernel) (by decide) H (fun _ H => ?_) (fun _ H => ?_)
  · refine oj_ald0 (pc := 15) (by decide +kernel) ?_
    refine oj_ld1 (pc := 16) (by decide +kernel) ?_
    refine of_Vv (pc := 17) (as := [_]) v_M_163 o_57 rfl rfl (Nat.le_of_ble_eq_true rfl) (by decide +kernel) (by decide) rfl (c_M_types_0 (okp_bind H)) (fun M H => ?_)
    refine oj_ald0 (pc := 20) (by decide +kernel) ?_
    refine oj_ld2 (pc := 21) (by decide +kernel) ?_
    refine of_Vv (pc := 22) (as := [_]) v_M_163 o_57 rfl rfl (Nat.le_of_ble_eq_true rfl) (by decide +kernel) (by decide) rfl (c_M_types_0 (okp_bind H)) (fun M H => ?_)
    refine oj_ald0 (pc := 25) (by decide +kernel) ?_
    refine oj_ld3 (pc := 26) (by decide +kernel) ?_
    refine of_Vv (pc := 27) (as := [_]) v_M_163 o_57 rfl rfl (Nat.le_of_ble_eq_true rfl) (by decide +kernel) (by decide) rfl (c_M_types_0 (okp_bind H)) (fun M H => ?_)
    refine oj_ald0 (pc := 30) (by decide +kernel) ?_
    refine oj_ld4 (pc := 31) (by decide +kernel) ?_
    refine of_Vv (pc := 33) (as := [_]) v_M_163 o_57 rfl rfl (Nat.le_of_ble_eq_true rfl) (by decide +kernel) (by decide) rfl (c_M_types_0 (okp_bind H)) (fun M H => ?_)
    refine oj_ald0 (pc := 36) (by decide +kernel) ?_
    refine oj_ld5 (pc := 37) (by decide +kernel) ?_
    refine of_Vv (pc := 39) (as := [_]) v_M_163 o_57 rfl rfl (Nat.le_of_ble_eq_true rfl) (by decide +kernel) (by decide) rfl (c_M_types_0 (okp_bind H)) (fun M H => ?_)
    refine oj_ald0 (pc := 42) (by decide +kernel) ?_
    refine oj_getI' (pc := 43) (ki := 7) f_M_160 s_57_7 rfl (by decide +kernel) ?_
    exact oj_iret (pc := 46) (by decide +kernel) rfl rfl (Nat.le_refl _) (Nat.le_refl _) ⟨rfl, H⟩
  · refine oj_iconst (pc := 13) (v := -1) ⟨by decide, by decide⟩ (by decide +kernel) ?_
    exact oj_iret (pc := 14) (by decide +kernel) rfl rfl (Nat.le_refl _) (Nat.le_refl _) ⟨rfl, H⟩
theorem c_M_here_0 {l : Launch} {f : Nat} {M : oM} {K : Int × oM → Prop} (H : okp (p_M_here f M) K) : oKf l m_M_here 2 [vr 57] M K := by
  refine oK_intro (lv := [vr 57]) (by decide +kernel) (Nat.le_of_ble_eq_true rfl) rfl ?_
  refine oj_ald0 (pc := 0) (by decide +kernel) ?_
  refine oj_getI' (pc := 1) (ki := 8) f_M_166 s_57_8 rfl (by decide +kernel) ?_
  refine oj_ald0 (pc := 4) (by decide +kernel) ?_
  refine oj_getI' (pc := 5) (ki := 9) f_M_169 s_57_9 rfl (by decide +kernel) ?_
  refine oj_icmp_ge (pc := 8) (off := 19) (tgt := 27) (by decide +kernel) (by decide) H (fun _ H => ?_) (fun _ H => ?_)
  · refine oj_iconst (pc := 27) (v := -1) ⟨by decide, by decide⟩ (by decide +kernel) ?_
    exact oj_iret (pc := 28) (by decide +kernel) rfl rfl (Nat.le_refl _) (Nat.le_refl _) ⟨rfl, H⟩
  · refine oj_ald0 (pc := 11) (by decide +kernel) ?_
    refine oj_getR' (pc := 12) f_M_25 s_57_6 (by decide +kernel) ?_
    refine oj_ald0 (pc := 15) (by decide +kernel) ?_
    refine oj_getI' (pc := 16) (ki := 8) f_M_166 s_57_8 rfl (by decide +kernel) ?_
    refine oj_bald (pc := 19) (NN := 260) a_63 rfl (by decide +kernel) H (fun H => ?_)
    refine oj_sipush (pc := 20) (v := 255) ⟨by decide, by decide⟩ (by decide +kernel) ?_
    refine oj_iand (pc := 23) (by decide +kernel) ?_
    refine oj_goto (pc := 24) (off := 4) (tgt := 28) (by decide +kernel) (by decide) ?_
    exact oj_iret (pc := 28) (by decide +kernel) rfl rfl (Nat.le_refl _) (Nat.le_refl _) ⟨rfl, H⟩
theorem c_M_notes_0 {l : Launch} {f : Nat} {l1 l2 : Int} {M : oM} {K : Int × oM → Prop} (H : okp (p_M_notes f l1 l2 M) K) : oKf l m_M_notes 2 [vr 57, vi l1, vi l2] M K := by
  refine oK_intro (lv := [vr 57, vi l1, vi l2]) (by decide +kernel) (Nat.le_of_ble_eq_true rfl) rfl ?_
  refine oj_ald0 (pc := 0) (by decide +kernel) ?_
  refine oj_getR' (pc := 1) f_M_29 s_57_17 (by decide +kernel) ?_
  refine oj_ald0 (pc := 4) (by decide +kernel) ?_
  refine oj_getI' (pc := 5) (ki := 13) f_M_189 s_57_13 rfl (by decide +kernel) ?_
  refine oj_ldc (pc := 8) (v := 1048576) k_M_192 ⟨by decide, by decide⟩ (by decide +kernel) ?_
  refine oj_ld1 (pc := 10) (by decide +kernel) ?_
  refine oj_imul (pc := 11) (by decide +kernel) ?_
  refine oj_ld2 (pc := 12) (by decide +kernel) ?_
  refine oj_iadd (pc := 13) (by decide +kernel) ?_
  refine oj_iast (pc := 14) (NN := 260) a_64 rfl (by decide +kernel) H (fun H => ?_)
  have H := okp_lt H
  refine oj_ald0 (pc := 15) (by decide +kernel) ?_
  refine oj_ald0 (pc := 16) (by decide +kernel) ?_
  refine oj_getI' (pc := 17) (ki := 13) f_M_189 s_57_13 rfl (by decide +kernel) ?_
  refine oj_iconst (pc := 20) (v := 1) ⟨by decide, by decide⟩ (by decide +kernel) ?_
  refine oj_iadd (pc := 21) (by decide +kernel) ?_
  refine oj_putI' (pc := 22) (ki := 13) f_M_189 s_57_13 rfl (by decide +kernel) ?_
  have H := okp_lt H
  exact oj_vret (pc := 25) (by decide +kernel) rfl (Nat.le_refl _) (Nat.le_refl _) ⟨rfl, H⟩
theorem c_M_waitTop_0 {l : Launch} {f : Nat} {M : oM} {K : Int × oM → Prop} (H : okp (p_M_waitTop f M) K) : oKf l m_M_waitTop 2 [vr 57] M K := by
  refine oK_intro (lv := [vr 57]) (by decide +kernel) (Nat.le_of_ble_eq_true rfl) rfl ?_
  refine oj_ald0 (pc := 0) (by decide +kernel) ?_
  refine oj_getI' (pc := 1) (ki := 14) f_M_196 s_57_14 rfl (by decide +kernel) ?_
  refine oj_if_ne (pc := 4) (off := 7) (tgt := 11) (by decide +kernel) (by decide) H (fun _ H => ?_) (fun _ H => ?_)
  · refine oj_ald0 (pc := 11) (by decide +kernel) ?_
    refine oj_getR' (pc := 12) f_M_32 s_57_18 (by decide +kernel) ?_
    refine oj_ald0 (pc := 15) (by decide +kernel) ?_
    refine oj_getI' (pc := 16) (ki := 14) f_M_196 s_57_14 rfl (by decide +kernel) ?_
    refine oj_iconst (pc := 19) (v := 1) ⟨by decide, by decide⟩ (by decide +kernel) ?_
    refine oj_isub (pc := 20) (by decide +kernel) ?_
    refine oj_iald (pc := 21) (NN := 260) a_65 rfl (by decide +kernel) H (fun H => ?_)
    refine oj_ldc (pc := 22) (v := 1048576) k_M_192 ⟨by decide, by decide⟩ (by decide +kernel) ?_
    refine oj_idiv (pc := 24) (by decide +kernel) H (fun _ H => ?_)
    exact oj_iret (pc := 25) (by decide +kernel) rfl rfl (Nat.le_refl _) (Nat.le_refl _) ⟨rfl, H⟩
  · refine oj_iconst (pc := 7) (v := -1) ⟨by decide, by decide⟩ (by decide +kernel) ?_
    refine oj_goto (pc := 8) (off := 17) (tgt := 25) (by decide +kernel) (by decide) ?_
    exact oj_iret (pc := 25) (by decide +kernel) rfl rfl (Nat.le_refl _) (Nat.le_refl _) ⟨rfl, H⟩
theorem c_M_endsPiece_0 {l : Launch} {f : Nat} {M : oM} {K : Int × oM → Prop} (H : okp (p_M_endsPiece f M) K) : oKf l m_M_endsPiece 3 [vr 57] M K := by
  refine oK_intro (lv := [vr 57]) (by decide +kernel) (Nat.le_of_ble_eq_true rfl) rfl ?_
  have h0 : ∀ (g : Nat) (M : oM), okp (iter (p_M_endsPiece_L0 f) g M) K → oJ l m_M_endsPiece (oEf 3 K) 0 0 0 [vr 57] [] WD M := by
    intro g  M H
    have HL := fun hs => iter_J' (Jh := fun s => oJ l m_M_endsPiece (oEf 3 K) 0 0 0 [vr 57] [] WD s) (G := K) hs g M H
    refine HL ?_
    intro K0 M i0 e0 H
    show oJ l m_M_endsPiece (oEf 3 K) 0 0 0 [vr 57] [] WD M
    unfold p_M_endsPiece_L0 at H
    refine oj_ald0 (pc := 0) (by decide +kernel) ?_
    refine of_Vi (pc := 1) (as := []) v_M_199 o_57 rfl rfl (Nat.le_of_ble_eq_true rfl) (by decide +kernel) (by decide) rfl (c_M_waitTop_0 (okp_bind H)) (fun r M H => ?_)
    refine oj_bipush (pc := 4) (v := 10) ⟨by decide, by decide⟩ (by decide +kernel) ?_
    refine oj_icmp_ne (pc := 6) (off := 33) (tgt := 39) (by decide +kernel) (by decide) H (fun _ H => ?_) (fun _ H => ?_)
    · have H := e0 _ H
      exact oj_vret (pc := 39) (by decide +kernel) rfl (Nat.le_refl _) (Nat.le_refl _) ⟨rfl, H⟩
    · refine oj_ald0 (pc := 9) (by decide +kernel) ?_
      refine oj_bipush (pc := 10) (v := 10) ⟨by decide, by decide⟩ (by decide +kernel) ?_
      refine oj_iconst (pc := 12) (v := 0) ⟨by decide, by decide⟩ (by decide +kernel) ?_
      refine of_Vv (pc := 13) (as := [_, _]) v_M_202 o_57 rfl rfl (Nat.le_of_ble_eq_true rfl) (by decide +kernel) (by decide) rfl (c_M_notes_0 (okp_bind H)) (fun M H => ?_)
      refine oj_ald0 (pc := 16) (by decide +kernel) ?_
      refine oj_ald0 (pc := 17) (by decide +kernel) ?_
      refine oj_getI' (pc := 18) (ki := 14) f_M_196 s_57_14 rfl (by decide +kernel) ?_
      refine oj_iconst (pc := 21) (v := 1) ⟨by decide, by decide⟩ (by decide +kernel) ?_
      refine oj_isub (pc := 22) (by decide +kernel) ?_
      refine oj_putI' (pc := 23) (ki := 14) f_M_196 s_57_14 rfl (by decide +kernel) ?_
      have H := okp_lt H
      refine oj_ald0 (pc := 26) (by decide +kernel) ?_
      refine oj_ald0 (pc := 27) (by decide +kernel) ?_
      refine oj_getI' (pc := 28) (ki := 12) f_M_193 s_57_12 rfl (by decide +kernel) ?_
      refine oj_iconst (pc := 31) (v := 1) ⟨by decide, by decide⟩ (by decide +kernel) ?_
      refine oj_isub (pc := 32) (by decide +kernel) ?_
      refine oj_putI' (pc := 33) (ki := 12) f_M_193 s_57_12 rfl (by decide +kernel) ?_
      have H := okp_lt H
      refine oj_goto (pc := 36) (off := -36) (tgt := 0) (by decide +kernel) (by decide) ?_
      have H := i0 _ H
      exact H
  exact h0 _  _ H
theorem c_M_jumps_0 {l : Launch} {f : Nat} {l1 : Int} {M : oM} {K : Int × oM → Prop} (H : okp (p_M_jumps f l1 M) K) : oKf l m_M_jumps 3 [vr 57, vi l1] M K := by
  refine oK_intro (lv := [vr 57, vi l1]) (by decide +kernel) (Nat.le_of_ble_eq_true rfl) rfl ?_
  refine oj_ald0 (pc := 0) (by decide +kernel) ?_
  refine oj_getR' (pc := 1) f_M_32 s_57_18 (by decide +kernel) ?_
  refine oj_ald0 (pc := 4) (by decide +kernel) ?_
  refine oj_getI' (pc := 5) (ki := 14) f_M_196 s_57_14 rfl (by decide +kernel) ?_
  refine oj_ldc (pc := 8) (v := 1048576) k_M_192 ⟨by decide, by decide⟩ (by decide +kernel) ?_
  refine oj_ld1 (pc := 10) (by decide +kernel) ?_
  refine oj_imul (pc := 11) (by decide +kernel) ?_
  refine oj_ald0 (pc := 12) (by decide +kernel) ?_
  refine oj_getI' (pc := 13) (ki := 13) f_M_189 s_57_13 rfl (by decide +kernel) ?_
  refine oj_iadd (pc := 16) (by decide +kernel) ?_
  refine oj_iast (pc := 17) (NN := 260) a_65 rfl (by decide +kernel) H (fun H => ?_)
  have H := okp_lt H
  refine oj_ald0 (pc := 18) (by decide +kernel) ?_
  refine oj_ald0 (pc := 19) (by decide +kernel) ?_
  refine oj_getI' (pc := 20) (ki := 14) f_M_196 s_57_14 rfl (by decide +kernel) ?_
  refine oj_iconst (pc := 23) (v := 1) ⟨by decide, by decide⟩ (by decide +kernel) ?_
  refine oj_iadd (pc := 24) (by decide +kernel) ?_
  refine oj_putI' (pc := 25) (ki := 14) f_M_196 s_57_14 rfl (by decide +kernel) ?_
  have H := okp_lt H
  refine oj_ald0 (pc := 28) (by decide +kernel) ?_
  refine oj_ld1 (pc := 29) (by decide +kernel) ?_
  refine oj_iconst (pc := 30) (v := 0) ⟨by decide, by decide⟩ (by decide +kernel) ?_
  refine of_Vv (pc := 31) (as := [_, _]) v_M_202 o_57 rfl rfl (Nat.le_of_ble_eq_true rfl) (by decide +kernel) (by decide) rfl (c_M_notes_0 (okp_bind H)) (fun M H => ?_)
  refine oj_ald0 (pc := 34) (by decide +kernel) ?_
  refine oj_ald0 (pc := 35) (by decide +kernel) ?_
  refine oj_getI' (pc := 36) (ki := 8) f_M_166 s_57_8 rfl (by decide +kernel) ?_
  refine oj_iconst (pc := 39) (v := 1) ⟨by decide, by decide⟩ (by decide +kernel) ?_
  refine oj_iadd (pc := 40) (by decide +kernel) ?_
  refine oj_putI' (pc := 41) (ki := 8) f_M_166 s_57_8 rfl (by decide +kernel) ?_
  have H := okp_lt H
  exact oj_vret (pc := 44) (by decide +kernel) rfl (Nat.le_refl _) (Nat.le_refl _) ⟨rfl, H⟩
theorem c_M_lands_0 {l : Launch} {f : Nat} {l1 : Int} {M : oM} {K : Int × oM → Prop} (H : okp (p_M_lands f l1 M) K) : oKf l m_M_lands 3 [vr 57, vi l1] M K := by
  refine oK_intro (lv := [vr 57, vi l1, vu]) (by decide +kernel) (Nat.le_of_ble_eq_true rfl) rfl ?_
  have h0 : ∀ (g : Nat) (l1 : Int) (M : oM), okp (iter (p_M_lands_L0 f l1) g M) K → oJ l m_M_lands (oEf 3 K) 0 0 0 [vr 57, vi l1, vu] [] WD M := by
    intro g l1 M H
    have HL := fun hs => iter_J' (Jh := fun s => oJ l m_M_lands (oEf 3 K) 0 0 0 [vr 57, vi l1, vu] [] WD s) (G := K) hs g M H
    refine HL ?_
    intro K0 M i0 e0 H
    show oJ l m_M_lands (oEf 3 K) 0 0 0 [vr 57, vi l1, vu] [] WD M
    unfold p_M_lands_L0 at H
    have h22 : ∀ (M : oM), okp (p_M_lands_B22_0 f l1 M) K0 → oJ l m_M_lands (oEf 3 K) 0 0 22 [vr 57, vi l1, vu] [] WD M := by
      intro  M H
      refine oj_ald0 (pc := 22) (by decide +kernel) ?_
      refine oj_getR' (pc := 23) f_M_32 s_57_18 (by decide +kernel) ?_
      refine oj_ald0 (pc := 26) (by decide +kernel) ?_
      refine oj_getI' (pc := 27) (ki := 14) f_M_196 s_57_14 rfl (by decide +kernel) ?_
      refine oj_iconst (pc := 30) (v := 1) ⟨by decide, by decide⟩ (by decide +kernel) ?_
      refine oj_isub (pc := 31) (by decide +kernel) ?_
      refine oj_iald (pc := 32) (NN := 260) a_65 rfl (by decide +kernel) H (fun H => ?_)
      refine oj_ldc (pc := 33) (v := 1048576) k_M_192 ⟨by decide, by decide⟩ (by decide +kernel) ?_
      refine oj_irem (pc := 35) (by decide +kernel) H (fun _ H => ?_)
      refine oj_st2 (pc := 36) (by decide +kernel) (by decide +kernel) ?_
      have H := okp_lt H
      refine oj_ald0 (pc := 37) (by decide +kernel) ?_
      refine oj_getR' (pc := 38) f_M_29 s_57_17 (by decide +kernel) ?_
      refine oj_ld2 (pc := 41) (by decide +kernel) ?_
      refine oj_ldc (pc := 42) (v := 1048576) k_M_192 ⟨by decide, by decide⟩ (by decide +kernel) ?_
      refine oj_ald0 (pc := 44) (by decide +kernel) ?_
      refine oj_getR' (pc := 45) f_M_29 s_57_17 (by decide +kernel) ?_
      refine oj_ld2 (pc := 48) (by decide +kernel) ?_
      refine oj_iald (pc := 49) (NN := 260) a_64 rfl (by decide +kernel) H (fun H => ?_)
      refine oj_ldc (pc := 50) (v := 1048576) k_M_192 ⟨by decide, by decide⟩ (by decide +kernel) ?_
      refine oj_idiv (pc := 52) (by decide +kernel) H (fun _ H => ?_)
      refine oj_imul (pc := 53) (by decide +kernel) ?_
      refine oj_ald0 (pc := 54) (by decide +kernel) ?_
      refine oj_getI' (pc := 55) (ki := 13) f_M_189 s_57_13 rfl (by decide +kernel) ?_
      refine oj_iadd (pc := 58) (by decide +kernel) ?_
      refine oj_iast (pc := 59) (NN := 260) a_64 rfl (by decide +kernel) H (fun H => ?_)
      have H := okp_lt H
      refine oj_ald0 (pc := 60) (by decide +kernel) ?_
      refine oj_ald0 (pc := 61) (by decide +kernel) ?_
      refine oj_getI' (pc := 62) (ki := 14) f_M_196 s_57_14 rfl (by decide +kernel) ?_
      refine oj_iconst (pc := 65) (v := 1) ⟨by decide, by decide⟩ (by decide +kernel) ?_
      refine oj_isub (pc := 66) (by decide +kernel) ?_
      refine oj_putI' (pc := 67) (ki := 14) f_M_196 s_57_14 rfl (by decide +kernel) ?_
      have H := okp_lt H
      refine oj_goto (pc := 70) (off := -70) (tgt := 0) (by decide +kernel) (by decide) ?_
      refine oj_le (lv' := [_, _, vu]) ⟨Or.inr rfl, Or.inr rfl, Or.inl rfl, trivial⟩ ?_
      have H := i0 _ H
      exact H
    refine oj_ald0 (pc := 0) (by decide +kernel) ?_
    refine of_Vi (pc := 1) (as := []) v_M_199 o_57 rfl rfl (Nat.le_of_ble_eq_true rfl) (by decide +kernel) (by decide) rfl (c_M_waitTop_0 (okp_bind H)) (fun r M H => ?_)
    refine oj_bipush (pc := 4) (v := 11) ⟨by decide, by decide⟩ (by decide +kernel) ?_
    refine oj_icmp_eq (pc := 6) (off := 16) (tgt := 22) (by decide +kernel) (by decide) H (fun _ H => ?_) (fun _ H => ?_)
    · exact h22  _ H
    · refine oj_ld1 (pc := 9) (by decide +kernel) ?_
      refine oj_if_eq (pc := 10) (off := 63) (tgt := 73) (by decide +kernel) (by decide) H (fun _ H => ?_) (fun _ H => ?_)
      · have H := e0 _ H
        exact oj_vret (pc := 73) (by decide +kernel) rfl (Nat.le_refl _) (Nat.le_refl _) ⟨rfl, H⟩
      · refine oj_ald0 (pc := 13) (by decide +kernel) ?_
        refine of_Vi (pc := 14) (as := []) v_M_199 o_57 rfl rfl (Nat.le_of_ble_eq_true rfl) (by decide +kernel) (by decide) rfl (c_M_waitTop_0 (okp_bind H)) (fun r M H => ?_)
        refine oj_bipush (pc := 17) (v := 12) ⟨by decide, by decide⟩ (by decide +kernel) ?_
        refine oj_icmp_ne (pc := 19) (off := 54) (tgt := 73) (by decide +kernel) (by decide) H (fun _ H => ?_) (fun _ H => ?_)
        · have H := e0 _ H
          exact oj_vret (pc := 73) (by decide +kernel) rfl (Nat.le_refl _) (Nat.le_refl _) ⟨rfl, H⟩
        · exact h22  _ H
  exact h0 _ _ _ H
theorem c_M_wrongAt_0 {l : Launch} {f : Nat} {l1 l2 : Int} {M : oM} {K : Int × oM → Prop} (H : okp (p_M_wrongAt f l1 l2 M) K) : oKf l m_M_wrongAt 2 [vr 57, vi l1, vi l2] M K := by
  refine oK_intro (lv := [vr 57, vi l1, vi l2]) (by decide +kernel) (Nat.le_of_ble_eq_true rfl) rfl ?_
  refine oj_ald0 (pc := 0) (by decide +kernel) ?_
  refine oj_sipush (pc := 1) (v := -1000) ⟨by decide, by decide⟩ (by decide +kernel) ?_
  refine oj_ld1 (pc := 4) (by decide +kernel) ?_
  refine oj_imul (pc := 5) (by decide +kernel) ?_
  refine oj_ld2 (pc := 6) (by decide +kernel) ?_
  refine oj_isub (pc := 7) (by decide +kernel) ?_
  refine oj_putI' (pc := 8) (ki := 10) f_M_176 s_57_10 rfl (by decide +kernel) ?_
  have H := okp_lt H
  refine oj_iconst (pc := 11) (v := 0) ⟨by decide, by decide⟩ (by decide +kernel) ?_
  exact oj_iret (pc := 12) (by decide +kernel) rfl rfl (Nat.le_refl _) (Nat.le_refl _) ⟨rfl, H⟩
theorem c_M_opens_0 {l : Launch} {f : Nat} {l1 : Int} {M : oM} {K : Int × oM → Prop} (H : okp (p_M_opens f l1 M) K) : oKf l m_M_opens 3 [vr 57, vi l1] M K := by
  refine oK_intro (lv := [vr 57, vi l1]) (by decide +kernel) (Nat.le_of_ble_eq_true rfl) rfl ?_
  refine oj_ald0 (pc := 0) (by decide +kernel) ?_
  refine oj_getI' (pc := 1) (ki := 12) f_M_193 s_57_12 rfl (by decide +kernel) ?_
  refine oj_bipush (pc := 4) (v := 6) ⟨by decide, by decide⟩ (by decide +kernel) ?_
  refine oj_icmp_ne (pc := 6) (off := 13) (tgt := 19) (by decide +kernel) (by decide) H (fun _ H => ?_) (fun _ H => ?_)
  · refine oj_ald0 (pc := 19) (by decide +kernel) ?_
    refine oj_ald0 (pc := 20) (by decide +kernel) ?_
    refine oj_getI' (pc := 21) (ki := 12) f_M_193 s_57_12 rfl (by decide +kernel) ?_
    refine oj_iconst (pc := 24) (v := 1) ⟨by decide, by decide⟩ (by decide +kernel) ?_
    refine oj_iadd (pc := 25) (by decide +kernel) ?_
    refine oj_putI' (pc := 26) (ki := 12) f_M_193 s_57_12 rfl (by decide +kernel) ?_
    have H := okp_lt H
    refine oj_ald0 (pc := 29) (by decide +kernel) ?_
    refine oj_getR' (pc := 30) f_M_32 s_57_18 (by decide +kernel) ?_
    refine oj_ald0 (pc := 33) (by decide +kernel) ?_
    refine oj_getI' (pc := 34) (ki := 14) f_M_196 s_57_14 rfl (by decide +kernel) ?_
    refine oj_ldc (pc := 37) (v := 1048576) k_M_192 ⟨by decide, by decide⟩ (by decide +kernel) ?_
    refine oj_ld1 (pc := 39) (by decide +kernel) ?_
    refine oj_imul (pc := 40) (by decide +kernel) ?_
    refine oj_iast (pc := 41) (NN := 260) a_65 rfl (by decide +kernel) H (fun H => ?_)
    have H := okp_lt H
    refine oj_ald0 (pc := 42) (by decide +kernel) ?_
    refine oj_ald0 (pc := 43) (by decide +kernel) ?_
    refine oj_getI' (pc := 44) (ki := 14) f_M_196 s_57_14 rfl (by decide +kernel) ?_
    refine oj_iconst (pc := 47) (v := 1) ⟨by decide, by decide⟩ (by decide +kernel) ?_
    refine oj_iadd (pc := 48) (by decide +kernel) ?_
    refine oj_putI' (pc := 49) (ki := 14) f_M_196 s_57_14 rfl (by decide +kernel) ?_
    have H := okp_lt H
    refine oj_ald0 (pc := 52) (by decide +kernel) ?_
    refine oj_ald0 (pc := 53) (by decide +kernel) ?_
    refine oj_getI' (pc := 54) (ki := 8) f_M_166 s_57_8 rfl (by decide +kernel) ?_
    refine oj_iconst (pc := 57) (v := 1) ⟨by decide, by decide⟩ (by decide +kernel) ?_
    refine oj_iadd (pc := 58) (by decide +kernel) ?_
    refine oj_putI' (pc := 59) (ki := 8) f_M_166 s_57_8 rfl (by decide +kernel) ?_
    have H := okp_lt H
    refine oj_iconst (pc := 62) (v := 1) ⟨by decide, by decide⟩ (by decide +kernel) ?_
    exact oj_iret (pc := 63) (by decide +kernel) rfl rfl (Nat.le_refl _) (Nat.le_refl _) ⟨rfl, H⟩
  · refine oj_ald0 (pc := 9) (by decide +kernel) ?_
    refine oj_iconst (pc := 10) (v := 5) ⟨by decide, by decide⟩ (by decide +kernel) ?_
    refine oj_ald0 (pc := 11) (by decide +kernel) ?_
    refine oj_getI' (pc := 12) (ki := 8) f_M_166 s_57_8 rfl (by decide +kernel) ?_
    refine of_Vi (pc := 15) (as := [_, _]) v_M_179 o_57 rfl rfl (Nat.le_of_ble_eq_true rfl) (by decide +kernel) (by decide) rfl (c_M_wrongAt_0 (okp_bind H)) (fun r M H => ?_)
    exact oj_zret (pc := 18) (by decide +kernel) rfl (Nat.le_refl _) (Nat.le_refl _) H (fun H => ⟨rfl, H⟩)
theorem c_M_closesSums_0 {l : Launch} {f : Nat} {l1 : Int} {M : oM} {K : Int × oM → Prop} (H : okp (p_M_closesSums f l1 M) K) : oKf l m_M_closesSums 3 [vr 57, vi l1] M K := by
  refine oK_intro (lv := [vr 57, vi l1]) (by decide +kernel) (Nat.le_of_ble_eq_true rfl) rfl ?_
  have h0 : ∀ (g : Nat) (l1 : Int) (M : oM), okp (iter (p_M_closesSums_L0 f l1) g M) K → oJ l m_M_closesSums (oEf 3 K) 0 0 0 [vr 57, vi l1] [] WD M := by
    intro g l1 M H
    have HL := fun hs => iter_J' (Jh := fun s => oJ l m_M_closesSums (oEf 3 K) 0 0 0 [vr 57, vi l1] [] WD s) (G := K) hs g M H
    refine HL ?_
    intro K0 M i0 e0 H
    show oJ l m_M_closesSums (oEf 3 K) 0 0 0 [vr 57, vi l1] [] WD M
    unfold p_M_closesSums_L0 at H
    have h37 : ∀ (M : oM), okp (p_M_closesSums_B37_0 f l1 M) K0 → oJ l m_M_closesSums (oEf 3 K) 0 0 37 [vr 57, vi l1] [] WD M := by
      intro  M H
      refine oj_ald0 (pc := 37) (by decide +kernel) ?_
      refine oj_ald0 (pc := 38) (by decide +kernel) ?_
      refine of_Vi (pc := 39) (as := []) v_M_199 o_57 rfl rfl (Nat.le_of_ble_eq_true rfl) (by decide +kernel) (by decide) rfl (c_M_waitTop_0 (okp_bind H)) (fun r M H => ?_)
      refine oj_iconst (pc := 42) (v := 0) ⟨by decide, by decide⟩ (by decide +kernel) ?_
      refine of_Vv (pc := 43) (as := [_, _]) v_M_202 o_57 rfl rfl (Nat.le_of_ble_eq_true rfl) (by decide +kernel) (by decide) rfl (c_M_notes_0 (okp_bind H)) (fun M H => ?_)
      refine oj_ald0 (pc := 46) (by decide +kernel) ?_
      refine oj_ald0 (pc := 47) (by decide +kernel) ?_
      refine oj_getI' (pc := 48) (ki := 14) f_M_196 s_57_14 rfl (by decide +kernel) ?_
      refine oj_iconst (pc := 51) (v := 1) ⟨by decide, by decide⟩ (by decide +kernel) ?_
      refine oj_isub (pc := 52) (by decide +kernel) ?_
      refine oj_putI' (pc := 53) (ki := 14) f_M_196 s_57_14 rfl (by decide +kernel) ?_
      have H := okp_lt H
      refine oj_goto (pc := 56) (off := -56) (tgt := 0) (by decide +kernel) (by decide) ?_
      have H := i0 _ H
      exact H
    have h17 : ∀ (M : oM), okp (p_M_closesSums_B17_0 f l1 M) K0 → oJ l m_M_closesSums (oEf 3 K) 0 0 17 [vr 57, vi l1] [] WD M := by
      intro  M H
      refine oj_ld1 (pc := 17) (by decide +kernel) ?_
      refine oj_if_eq (pc := 18) (off := 41) (tgt := 59) (by decide +kernel) (by decide) H (fun _ H => ?_) (fun _ H => ?_)
      · have H := e0 _ H
        exact oj_vret (pc := 59) (by decide +kernel) rfl (Nat.le_refl _) (Nat.le_refl _) ⟨rfl, H⟩
      · refine oj_ald0 (pc := 21) (by decide +kernel) ?_
        refine of_Vi (pc := 22) (as := []) v_M_199 o_57 rfl rfl (Nat.le_of_ble_eq_true rfl) (by decide +kernel) (by decide) rfl (c_M_waitTop_0 (okp_bind H)) (fun r M H => ?_)
        refine oj_iconst (pc := 25) (v := 2) ⟨by decide, by decide⟩ (by decide +kernel) ?_
        refine oj_icmp_eq (pc := 26) (off := 11) (tgt := 37) (by decide +kernel) (by decide) H (fun _ H => ?_) (fun _ H => ?_)
        · exact h37  _ H
        · refine oj_ald0 (pc := 29) (by decide +kernel) ?_
          refine of_Vi (pc := 30) (as := []) v_M_199 o_57 rfl rfl (Nat.le_of_ble_eq_true rfl) (by decide +kernel) (by decide) rfl (c_M_waitTop_0 (okp_bind H)) (fun r M H => ?_)
          refine oj_iconst (pc := 33) (v := 3) ⟨by decide, by decide⟩ (by decide +kernel) ?_
          refine oj_icmp_ne (pc := 34) (off := 25) (tgt := 59) (by decide +kernel) (by decide) H (fun _ H => ?_) (fun _ H => ?_)
          · have H := e0 _ H
            exact oj_vret (pc := 59) (by decide +kernel) rfl (Nat.le_refl _) (Nat.le_refl _) ⟨rfl, H⟩
          · exact h37  _ H
    refine oj_ald0 (pc := 0) (by decide +kernel) ?_
    refine of_Vi (pc := 1) (as := []) v_M_199 o_57 rfl rfl (Nat.le_of_ble_eq_true rfl) (by decide +kernel) (by decide) rfl (c_M_waitTop_0 (okp_bind H)) (fun r M H => ?_)
    refine oj_iconst (pc := 4) (v := 4) ⟨by decide, by decide⟩ (by decide +kernel) ?_
    refine oj_icmp_lt (pc := 5) (off := 12) (tgt := 17) (by decide +kernel) (by decide) H (fun _ H => ?_) (fun _ H => ?_)
    · exact h17  _ H
    · refine oj_ald0 (pc := 8) (by decide +kernel) ?_
      refine of_Vi (pc := 9) (as := []) v_M_199 o_57 rfl rfl (Nat.le_of_ble_eq_true rfl) (by decide +kernel) (by decide) rfl (c_M_waitTop_0 (okp_bind H)) (fun r M H => ?_)
      refine oj_bipush (pc := 12) (v := 6) ⟨by decide, by decide⟩ (by decide +kernel) ?_
      refine oj_icmp_le (pc := 14) (off := 23) (tgt := 37) (by decide +kernel) (by decide) H (fun _ H => ?_) (fun _ H => ?_)
      · exact h37  _ H
      · exact h17  _ H
  exact h0 _ _ _ H
theorem c_M_hasOpenSum_0 {l : Launch} {f : Nat} {l1 : Int} {M : oM} {K : Int × oM → Prop} (H : okp (p_M_hasOpenSum f l1 M) K) : oKf l m_M_hasOpenSum 2 [vr 57, vi l1] M K := by
  refine oK_intro (lv := [vr 57, vi l1, vu]) (by decide +kernel) (Nat.le_of_ble_eq_true rfl) rfl ?_
  have h2 : ∀ (g : Nat) (l2 : Int) (M : oM), okp (iter (p_M_hasOpenSum_L2 f) g (l2, M)) K → oJ l m_M_hasOpenSum (oEf 2 K) 0 0 2 [vr 57, vu, vi l2] [] WD M := by
    intro g l2 M H
    have HL := fun hs => iter_J' (Jh := fun s => oJ l m_M_hasOpenSum (oEf 2 K) 0 0 2 [vr 57, vu, vi s.1] [] WD s.2) (G := K) hs g (l2, M) H
    refine HL ?_
    intro K2 s i2 e2 H
    obtain ⟨l2, M⟩ := s
    show oJ l m_M_hasOpenSum (oEf 2 K) 0 0 2 [vr 57, vu, vi l2] [] WD M
    refine oj_ld2 (pc := 2) (by decide +kernel) ?_
    refine oj_ald0 (pc := 3) (by decide +kernel) ?_
    refine oj_getI' (pc := 4) (ki := 14) f_M_196 s_57_14 rfl (by decide +kernel) ?_
    refine oj_icmp_ge (pc := 7) (off := 25) (tgt := 32) (by decide +kernel) (by decide) H (fun _ H => ?_) (fun _ H => ?_)
    · refine oj_iconst (pc := 32) (v := 0) ⟨by decide, by decide⟩ (by decide +kernel) ?_
      have H := e2 _ H
      exact oj_iret (pc := 33) (by decide +kernel) rfl rfl (Nat.le_refl _) (Nat.le_refl _) ⟨rfl, H⟩
    · refine oj_ald0 (pc := 10) (by decide +kernel) ?_
      refine oj_getR' (pc := 11) f_M_32 s_57_18 (by decide +kernel) ?_
      refine oj_ld2 (pc := 14) (by decide +kernel) ?_
      refine oj_iald (pc := 15) (NN := 260) a_65 rfl (by decide +kernel) H (fun H => ?_)
      refine oj_ldc (pc := 16) (v := 1048576) k_M_192 ⟨by decide, by decide⟩ (by decide +kernel) ?_
      refine oj_idiv (pc := 18) (by decide +kernel) H (fun _ H => ?_)
      refine oj_bipush (pc := 19) (v := 14) ⟨by decide, by decide⟩ (by decide +kernel) ?_
      refine oj_icmp_ne (pc := 21) (off := 5) (tgt := 26) (by decide +kernel) (by decide) H (fun _ H => ?_) (fun _ H => ?_)
      · refine oj_inc2 (pc := 26) (d := 1) (by decide +kernel) (by decide +kernel) ?_
        have H := okp_lt H
        refine oj_goto (pc := 29) (off := -27) (tgt := 2) (by decide +kernel) (by decide) ?_
        have H := i2 _ H
        exact H
      · refine oj_iconst (pc := 24) (v := 1) ⟨by decide, by decide⟩ (by decide +kernel) ?_
        have H := e2 _ H
        exact oj_iret (pc := 25) (by decide +kernel) rfl rfl (Nat.le_refl _) (Nat.le_refl _) ⟨rfl, H⟩
  refine oj_ld1 (pc := 0) (by decide +kernel) ?_
  refine oj_st2 (pc := 1) (by decide +kernel) (by decide +kernel) ?_
  refine oj_le (lv' := [_, vu, _]) ⟨Or.inr rfl, Or.inl rfl, Or.inr rfl, trivial⟩ ?_
  exact h2 _ _ _ H
theorem c_M_factOf_0 {l : Launch} {f : Nat} {l0 : Int} {M : oM} {K : Int × oM → Prop} (H : okp (p_M_factOf f l0 M) K) : oKf l m_M_factOf 2 [vi l0] M K := by
  refine oK_intro (lv := [vi l0]) (by decide +kernel) (Nat.le_of_ble_eq_true rfl) rfl ?_
  refine oj_ld0 (pc := 0) (by decide +kernel) ?_
  refine oj_case (c := _ = 99) H (fun c0 H => ?_) (fun c0 H => ?_)
  · refine oj_tin (pc := 1) (dflt := 125) (lo := 99) (hi := 121) (offs := #[109, 125, 125, 125, 117, 107, 125, 125, 125, 125, 125, 111, 113, 125, 125, 125, 125, 119, 125, 125, 115, 125, 122]) (len := 107) (off := 109) (tgt := 110) 99 c0 (by decide +kernel) ⟨by decide, by decide⟩ (by decide +kernel) (by decide) ?_
    refine oj_iconst (pc := 110) (v := 1) ⟨by decide, by decide⟩ (by decide +kernel) ?_
    exact oj_iret (pc := 111) (by decide +kernel) rfl rfl (Nat.le_refl _) (Nat.le_refl _) ⟨rfl, H⟩
  refine oj_case (c := _ = 100) H (fun c1 H => ?_) (fun c1 H => ?_)
  · refine oj_tin (pc := 1) (dflt := 125) (lo := 99) (hi := 121) (offs := #[109, 125, 125, 125, 117, 107, 125, 125, 125, 125, 125, 111, 113, 125, 125, 125, 125, 119, 125, 125, 115, 125, 122]) (len := 107) (off := 125) (tgt := 126) 100 c1 (by decide +kernel) ⟨by decide, by decide⟩ (by decide +kernel) (by decide) ?_
    refine oj_iconst (pc := 126) (v := -1) ⟨by decide, by decide⟩ (by decide +kernel) ?_
    exact oj_iret (pc := 127) (by decide +kernel) rfl rfl (Nat.le_refl _) (Nat.le_refl _) ⟨rfl, H⟩
  refine oj_case (c := _ = 101) H (fun c2 H => ?_) (fun c2 H => ?_)
  · refine oj_tin (pc := 1) (dflt := 125) (lo := 99) (hi := 121) (offs := #[109, 125, 125, 125, 117, 107, 125, 125, 125, 125, 125, 111, 113, 125, 125, 125, 125, 119, 125, 125, 115, 125, 122]) (len := 107) (off := 125) (tgt := 126) 101 c2 (by decide +kernel) ⟨by decide, by decide⟩ (by decide +kernel) (by decide) ?_
    refine oj_iconst (pc := 126) (v := -1) ⟨by decide, by decide⟩ (by decide +kernel) ?_
    exact oj_iret (pc := 127) (by decide +kernel) rfl rfl (Nat.le_refl _) (Nat.le_refl _) ⟨rfl, H⟩
  refine oj_case (c := _ = 102) H (fun c3 H => ?_) (fun c3 H => ?_)
  · refine oj_tin (pc := 1) (dflt := 125) (lo := 99) (hi := 121) (offs := #[109, 125, 125, 125, 117, 107, 125, 125, 125, 125, 125, 111, 113, 125, 125, 125, 125, 119, 125, 125, 115, 125, 122]) (len := 107) (off := 125) (tgt := 126) 102 c3 (by decide +kernel) ⟨by decide, by decide⟩ (by decide +kernel) (by decide) ?_
    refine oj_iconst (pc := 126) (v := -1) ⟨by decide, by decide⟩ (by decide +kernel) ?_
    exact oj_iret (pc := 127) (by decide +kernel) rfl rfl (Nat.le_refl _) (Nat.le_refl _) ⟨rfl, H⟩
  refine oj_case (c := _ = 103) H (fun c4 H => ?_) (fun c4 H => ?_)
  · refine oj_tin (pc := 1) (dflt := 125) (lo := 99) (hi := 121) (offs := #[109, 125, 125, 125, 117, 107, 125, 125, 125, 125, 125, 111, 113, 125, 125, 125, 125, 119, 125, 125, 115, 125, 122]) (len := 107) (off := 117) (tgt := 118) 103 c4 (by decide +kernel) ⟨by decide, by decide⟩ (by decide +kernel) (by decide) ?_
    refine oj_iconst (pc := 118) (v := 5) ⟨by decide, by decide⟩ (by decide +kernel) ?_
    exact oj_iret (pc := 119) (by decide +kernel) rfl rfl (Nat.le_refl _) (Nat.le_refl _) ⟨rfl, H⟩
  refine oj_case (c := _ = 104) H (fun c5 H => ?_) (fun c5 H => ?_)
  · refine oj_tin (pc := 1) (dflt := 125) (lo := 99) (hi := 121) (offs := #[109, 125, 125, 125, 117, 107, 125, 125, 125, 125, 125, 111, 113, 125, 125, 125, 125, 119, 125, 125, 115, 125, 122]) (len := 107) (off := 107) (tgt := 108) 104 c5 (by decide +kernel) ⟨by decide, by decide⟩ (by decide +kernel) (by decide) ?_
    refine oj_iconst (pc := 108) (v := 0) ⟨by decide, by decide⟩ (by decide +kernel) ?_
    exact oj_iret (pc := 109) (by decide +kernel) rfl rfl (Nat.le_refl _) (Nat.le_refl _) ⟨rfl, H⟩
  refine oj_case (c := _ = 105) H (fun c6 H => ?_) (fun c6 H => ?_)
  · refine oj_tin (pc := 1) (dflt := 125) (lo := 99) (hi := 121) (offs := #[109, 125, 125, 125, 117, 107, 125, 125, 125, 125, 125, 111, 113, 125, 125, 125, 125, 119, 125, 125, 115, 125, 122]) (len := 107) (off := 125) (tgt := 126) 105 c6 (by decide +kernel) ⟨by decide, by decide⟩ (by decide +kernel) (by decide) ?_
    refine oj_iconst (pc := 126) (v := -1) ⟨by decide, by decide⟩ (by decide +kernel) ?_
    exact oj_iret (pc := 127) (by decide +kernel) rfl rfl (Nat.le_refl _) (Nat.le_refl _) ⟨rfl, H⟩
  refine oj_case (c := _ = 106) H (fun c7 H => ?_) (fun c7 H => ?_)
  · refine oj_tin (pc := 1) (dflt := 125) (lo := 99) (hi := 121) (offs := #[109, 125, 125, 125, 117, 107, 125, 125, 125, 125, 125, 111, 113, 125, 125, 125, 125, 119, 125, 125, 115, 125, 122]) (len := 107) (off := 125) (tgt := 126) 106 c7 (by decide +kernel) ⟨by decide, by decide⟩ (by decide +kernel) (by decide) ?_
    refine oj_iconst (pc := 126) (v := -1) ⟨by decide, by decide⟩ (by decide +kernel) ?_
    exact oj_iret (pc := 127) (by decide +kernel) rfl rfl (Nat.le_refl _) (Nat.le_refl _) ⟨rfl, H⟩
  refine oj_case (c := _ = 107) H (fun c8 H => ?_) (fun c8 H => ?_)
  · refine oj_tin (pc := 1) (dflt := 125) (lo := 99) (hi := 121) (offs := #[109, 125, 125, 125, 117, 107, 125, 125, 125, 125, 125, 111, 113, 125, 125, 125, 125, 119, 125, 125, 115, 125, 122]) (len := 107) (off := 125) (tgt := 126) 107 c8 (by decide +kernel) ⟨by decide, by decide⟩ (by decide +kernel) (by decide) ?_
    refine oj_iconst (pc := 126) (v := -1) ⟨by decide, by decide⟩ (by decide +kernel) ?_
    exact oj_iret (pc := 127) (by decide +kernel) rfl rfl (Nat.le_refl _) (Nat.le_refl _) ⟨rfl, H⟩
  refine oj_case (c := _ = 108) H (fun c9 H => ?_) (fun c9 H => ?_)
  · refine oj_tin (pc := 1) (dflt := 125) (lo := 99) (hi := 121) (offs := #[109, 125, 125, 125, 117, 107, 125, 125, 125, 125, 125, 111, 113, 125, 125, 125, 125, 119, 125, 125, 115, 125, 122]) (len := 107) (off := 125) (tgt := 126) 108 c9 (by decide +kernel) ⟨by decide, by decide⟩ (by decide +kernel) (by decide) ?_
    refine oj_iconst (pc := 126) (v := -1) ⟨by decide, by decide⟩ (by decide +kernel) ?_
    exact oj_iret (pc := 127) (by decide +kernel) rfl rfl (Nat.le_refl _) (Nat.le_refl _) ⟨rfl, H⟩
  refine oj_case (c := _ = 109) H (fun c10 H => ?_) (fun c10 H => ?_)
  · refine oj_tin (pc := 1) (dflt := 125) (lo := 99) (hi := 121) (offs := #[109, 125, 125, 125, 117, 107, 125, 125, 125, 125, 125, 111, 113, 125, 125, 125, 125, 119, 125, 125, 115, 125, 122]) (len := 107) (off := 125) (tgt := 126) 109 c10 (by decide +kernel) ⟨by decide, by decide⟩ (by decide +kernel) (by decide) ?_
    refine oj_iconst (pc := 126) (v := -1) ⟨by decide, by decide⟩ (by decide +kernel) ?_
    exact oj_iret (pc := 127) (by decide +kernel) rfl rfl (Nat.le_refl _) (Nat.le_refl _) ⟨rfl, H⟩
  refine oj_case (c := _ = 110) H (fun c11 H => ?_) (fun c11 H => ?_)
  · refine oj_tin (pc := 1) (dflt := 125) (lo := 99) (hi := 121) (offs := #[109, 125, 125, 125, 117, 107, 125, 125, 125, 125, 125, 111, 113, 125, 125, 125, 125, 119, 125, 125, 115, 125, 122]) (len := 107) (off := 111) (tgt := 112) 110 c11 (by decide +kernel) ⟨by decide, by decide⟩ (by decide +kernel) (by decide) ?_
    refine oj_iconst (pc := 112) (v := 2) ⟨by decide, by decide⟩ (by decide +kernel) ?_
    exact oj_iret (pc := 113) (by decide +kernel) rfl rfl (Nat.le_refl _) (Nat.le_refl _) ⟨rfl, H⟩
  refine oj_case (c := _ = 111) H (fun c12 H => ?_) (fun c12 H => ?_)
  · refine oj_tin (pc := 1) (dflt := 125) (lo := 99) (hi := 121) (offs := #[109, 125, 125, 125, 117, 107, 125, 125, 125, 125, 125, 111, 113, 125, 125, 125, 125, 119, 125, 125, 115, 125, 122]) (len := 107) (off := 113) (tgt := 114) 111 c12 (by decide +kernel) ⟨by decide, by decide⟩ (by decide +kernel) (by decide) ?_
    refine oj_iconst (pc := 114) (v := 3) ⟨by decide, by decide⟩ (by decide +kernel) ?_
    exact oj_iret (pc := 115) (by decide +kernel) rfl rfl (Nat.le_refl _) (Nat.le_refl _) ⟨rfl, H⟩
  refine oj_case (c := _ = 112) H (fun c13 H => ?_) (fun c13 H => ?_)
  · refine oj_tin (pc := 1) (dflt := 125) (lo := 99) (hi := 121) (offs := #[109, 125, 125, 125, 117, 107, 125, 125, 125, 125, 125, 111, 113, 125, 125, 125, 125, 119, 125, 125, 115, 125, 122]) (len := 107) (off := 125) (tgt := 126) 112 c13 (by decide +kernel) ⟨by decide, by decide⟩ (by decide +kernel) (by decide) ?_
    refine oj_iconst (pc := 126) (v := -1) ⟨by decide, by decide⟩ (by decide +kernel) ?_
    exact oj_iret (pc := 127) (by decide +kernel) rfl rfl (Nat.le_refl _) (Nat.le_refl _) ⟨rfl, H⟩
  refine oj_case (c := _ = 113) H (fun c14 H => ?_) (fun c14 H => ?_)
  · refine oj_tin (pc := 1) (dflt := 125) (lo := 99) (hi := 121) (offs := #[109, 125, 125, 125, 117, 107, 125, 125, 125, 125, 125, 111, 113, 125, 125, 125, 125, 119, 125, 125, 115, 125, 122]) (len := 107) (off := 125) (tgt := 126) 113 c14 (by decide +kernel) ⟨by decide, by decide⟩ (by decide +kernel) (by decide) ?_
    refine oj_iconst (pc := 126) (v := -1) ⟨by decide, by decide⟩ (by decide +kernel) ?_
    exact oj_iret (pc := 127) (by decide +kernel) rfl rfl (Nat.le_refl _) (Nat.le_refl _) ⟨rfl, H⟩
  refine oj_case (c := _ = 114) H (fun c15 H => ?_) (fun c15 H => ?_)
  · refine oj_tin (pc := 1) (dflt := 125) (lo := 99) (hi := 121) (offs := #[109, 125, 125, 125, 117, 107, 125, 125, 125, 125, 125, 111, 113, 125, 125, 125, 125, 119, 125, 125, 115, 125, 122]) (len := 107) (off := 125) (tgt := 126) 114 c15 (by decide +kernel) ⟨by decide, by decide⟩ (by decide +kernel) (by decide) ?_
    refine oj_iconst (pc := 126) (v := -1) ⟨by decide, by decide⟩ (by decide +kernel) ?_
    exact oj_iret (pc := 127) (by decide +kernel) rfl rfl (Nat.le_refl _) (Nat.le_refl _) ⟨rfl, H⟩
  refine oj_case (c := _ = 115) H (fun c16 H => ?_) (fun c16 H => ?_)
  · refine oj_tin (pc := 1) (dflt := 125) (lo := 99) (hi := 121) (offs := #[109, 125, 125, 125, 117, 107, 125, 125, 125, 125, 125, 111, 113, 125, 125, 125, 125, 119, 125, 125, 115, 125, 122]) (len := 107) (off := 125) (tgt := 126) 115 c16 (by decide +kernel) ⟨by decide, by decide⟩ (by decide +kernel) (by decide) ?_
    refine oj_iconst (pc := 126) (v := -1) ⟨by decide, by decide⟩ (by decide +kernel) ?_
    exact oj_iret (pc := 127) (by decide +kernel) rfl rfl (Nat.le_refl _) (Nat.le_refl _) ⟨rfl, H⟩
  refine oj_case (c := _ = 116) H (fun c17 H => ?_) (fun c17 H => ?_)
  · refine oj_tin (pc := 1) (dflt := 125) (lo := 99) (hi := 121) (offs := #[109, 125, 125, 125, 117, 107, 125, 125, 125, 125, 125, 111, 113, 125, 125, 125, 125, 119, 125, 125, 115, 125, 122]) (len := 107) (off := 119) (tgt := 120) 116 c17 (by decide +kernel) ⟨by decide, by decide⟩ (by decide +kernel) (by decide) ?_
    refine oj_bipush (pc := 120) (v := 6) ⟨by decide, by decide⟩ (by decide +kernel) ?_
    exact oj_iret (pc := 122) (by decide +kernel) rfl rfl (Nat.le_refl _) (Nat.le_refl _) ⟨rfl, H⟩
  refine oj_case (c := _ = 117) H (fun c18 H => ?_) (fun c18 H => ?_)
  · refine oj_tin (pc := 1) (dflt := 125) (lo := 99) (hi := 121) (offs := #[109, 125, 125, 125, 117, 107, 125, 125, 125, 125, 125, 111, 113, 125, 125, 125, 125, 119, 125, 125, 115, 125, 122]) (len := 107) (off := 125) (tgt := 126) 117 c18 (by decide +kernel) ⟨by decide, by decide⟩ (by decide +kernel) (by decide) ?_
    refine oj_iconst (pc := 126) (v := -1) ⟨by decide, by decide⟩ (by decide +kernel) ?_
    exact oj_iret (pc := 127) (by decide +kernel) rfl rfl (Nat.le_refl _) (Nat.le_refl _) ⟨rfl, H⟩
  refine oj_case (c := _ = 118) H (fun c19 H => ?_) (fun c19 H => ?_)
  · refine oj_tin (pc := 1) (dflt := 125) (lo := 99) (hi := 121) (offs := #[109, 125, 125, 125, 117, 107, 125, 125, 125, 125, 125, 111, 113, 125, 125, 125, 125, 119, 125, 125, 115, 125, 122]) (len := 107) (off := 125) (tgt := 126) 118 c19 (by decide +kernel) ⟨by decide, by decide⟩ (by decide +kernel) (by decide) ?_
    refine oj_iconst (pc := 126) (v := -1) ⟨by decide, by decide⟩ (by decide +kernel) ?_
    exact oj_iret (pc := 127) (by decide +kernel) rfl rfl (Nat.le_refl _) (Nat.le_refl _) ⟨rfl, H⟩
  refine oj_case (c := _ = 119) H (fun c20 H => ?_) (fun c20 H => ?_)
  · refine oj_tin (pc := 1) (dflt := 125) (lo := 99) (hi := 121) (offs := #[109, 125, 125, 125, 117, 107, 125, 125, 125, 125, 125, 111, 113, 125, 125, 125, 125, 119, 125, 125, 115, 125, 122]) (len := 107) (off := 115) (tgt := 116) 119 c20 (by decide +kernel) ⟨by decide, by decide⟩ (by decide +kernel) (by decide) ?_
    refine oj_iconst (pc := 116) (v := 4) ⟨by decide, by decide⟩ (by decide +kernel) ?_
    exact oj_iret (pc := 117) (by decide +kernel) rfl rfl (Nat.le_refl _) (Nat.le_refl _) ⟨rfl, H⟩
  refine oj_case (c := _ = 120) H (fun c21 H => ?_) (fun c21 H => ?_)
  · refine oj_tin (pc := 1) (dflt := 125) (lo := 99) (hi := 121) (offs := #[109, 125, 125, 125, 117, 107, 125, 125, 125, 125, 125, 111, 113, 125, 125, 125, 125, 119, 125, 125, 115, 125, 122]) (len := 107) (off := 125) (tgt := 126) 120 c21 (by decide +kernel) ⟨by decide, by decide⟩ (by decide +kernel) (by decide) ?_
    refine oj_iconst (pc := 126) (v := -1) ⟨by decide, by decide⟩ (by decide +kernel) ?_
    exact oj_iret (pc := 127) (by decide +kernel) rfl rfl (Nat.le_refl _) (Nat.le_refl _) ⟨rfl, H⟩
  refine oj_case (c := _ = 121) H (fun c22 H => ?_) (fun c22 H => ?_)
  · refine oj_tin (pc := 1) (dflt := 125) (lo := 99) (hi := 121) (offs := #[109, 125, 125, 125, 117, 107, 125, 125, 125, 125, 125, 111, 113, 125, 125, 125, 125, 119, 125, 125, 115, 125, 122]) (len := 107) (off := 122) (tgt := 123) 121 c22 (by decide +kernel) ⟨by decide, by decide⟩ (by decide +kernel) (by decide) ?_
    refine oj_bipush (pc := 123) (v := 7) ⟨by decide, by decide⟩ (by decide +kernel) ?_
    exact oj_iret (pc := 125) (by decide +kernel) rfl rfl (Nat.le_refl _) (Nat.le_refl _) ⟨rfl, H⟩
  refine oj_tout (pc := 1) (dflt := 125) (lo := 99) (hi := 121) (offs := #[109, 125, 125, 125, 117, 107, 125, 125, 125, 125, 125, 111, 113, 125, 125, 125, 125, 119, 125, 125, 115, 125, 122]) (len := 107) (tgt := 126) (by decide +kernel) (by omega) (by decide) ?_
  refine oj_iconst (pc := 126) (v := -1) ⟨by decide, by decide⟩ (by decide +kernel) ?_
  exact oj_iret (pc := 127) (by decide +kernel) rfl rfl (Nat.le_refl _) (Nat.le_refl _) ⟨rfl, H⟩
theorem c_M_isDigit_0 {l : Launch} {f : Nat} {M : oM} {K : Int × oM → Prop} (H : okp (p_M_isDigit f M) K) : oKf l m_M_isDigit 3 [vr 57] M K := by
  refine oK_intro (lv := [vr 57]) (by decide +kernel) (Nat.le_of_ble_eq_true rfl) rfl ?_
  refine oj_ald0 (pc := 0) (by decide +kernel) ?_
  refine of_Vi (pc := 1) (as := []) v_M_172 o_57 rfl rfl (Nat.le_of_ble_eq_true rfl) (by decide +kernel) (by decide) rfl (c_M_here_0 (okp_bind H)) (fun r M H => ?_)
  refine oj_bipush (pc := 4) (v := 48) ⟨by decide, by decide⟩ (by decide +kernel) ?_
  refine oj_icmp_lt (pc := 6) (off := 16) (tgt := 22) (by decide +kernel) (by decide) H (fun _ H => ?_) (fun _ H => ?_)
  · refine oj_iconst (pc := 22) (v := 0) ⟨by decide, by decide⟩ (by decide +kernel) ?_
    exact oj_iret (pc := 23) (by decide +kernel) rfl rfl (Nat.le_refl _) (Nat.le_refl _) ⟨rfl, H⟩
  · refine oj_ald0 (pc := 9) (by decide +kernel) ?_
    refine of_Vi (pc := 10) (as := []) v_M_172 o_57 rfl rfl (Nat.le_of_ble_eq_true rfl) (by decide +kernel) (by decide) rfl (c_M_here_0 (okp_bind H)) (fun r M H => ?_)
    refine oj_bipush (pc := 13) (v := 57) ⟨by decide, by decide⟩ (by decide +kernel) ?_
    refine oj_icmp_gt (pc := 15) (off := 7) (tgt := 22) (by decide +kernel) (by decide) H (fun _ H => ?_) (fun _ H => ?_)
    · refine oj_iconst (pc := 22) (v := 0) ⟨by decide, by decide⟩ (by decide +kernel) ?_
      exact oj_iret (pc := 23) (by decide +kernel) rfl rfl (Nat.le_refl _) (Nat.le_refl _) ⟨rfl, H⟩
    · refine oj_iconst (pc := 18) (v := 1) ⟨by decide, by decide⟩ (by decide +kernel) ?_
      refine oj_goto (pc := 19) (off := 4) (tgt := 23) (by decide +kernel) (by decide) ?_
      exact oj_iret (pc := 23) (by decide +kernel) rfl rfl (Nat.le_refl _) (Nat.le_refl _) ⟨rfl, H⟩
theorem c_M_readsNumber_0 {l : Launch} {f : Nat} {M : oM} {K : Int × oM → Prop} (H : okp (p_M_readsNumber f M) K) : oKf l m_M_readsNumber 4 [vr 57] M K := by
  refine oK_intro (lv := [vr 57, vu]) (by decide +kernel) (Nat.le_of_ble_eq_true rfl) rfl ?_
  have h10 : ∀ (g : Nat) (l1 : Int) (M : oM), okp (iter (p_M_readsNumber_L10 f l1) g M) K → oJ l m_M_readsNumber (oEf 4 K) 0 0 10 [vr 57, vi l1] [] WD M := by
    intro g l1 M H
    have HL := fun hs => iter_J' (Jh := fun s => oJ l m_M_readsNumber (oEf 4 K) 0 0 10 [vr 57, vi l1] [] WD s) (G := K) hs g M H
    refine HL ?_
    intro K10 M i10 e10 H
    show oJ l m_M_readsNumber (oEf 4 K) 0 0 10 [vr 57, vi l1] [] WD M
    unfold p_M_readsNumber_L10 at H
    refine oj_ald0 (pc := 10) (by decide +kernel) ?_
    refine of_Vi (pc := 11) (as := []) v_M_185 o_57 rfl rfl (Nat.le_of_ble_eq_true rfl) (by decide +kernel) (by decide) rfl (c_M_isDigit_0 (okp_bind H)) (fun r M H => ?_)
    refine oj_if_eq (pc := 14) (off := 55) (tgt := 69) (by decide +kernel) (by decide) H (fun _ H => ?_) (fun _ H => ?_)
    · refine oj_iconst (pc := 69) (v := 1) ⟨by decide, by decide⟩ (by decide +kernel) ?_
      have H := e10 _ H
      exact oj_iret (pc := 70) (by decide +kernel) rfl rfl (Nat.le_refl _) (Nat.le_refl _) ⟨rfl, H⟩
    · refine oj_ald0 (pc := 17) (by decide +kernel) ?_
      refine oj_getI' (pc := 18) (ki := 8) f_M_166 s_57_8 rfl (by decide +kernel) ?_
      refine oj_ld1 (pc := 21) (by decide +kernel) ?_
      refine oj_iconst (pc := 22) (v := 5) ⟨by decide, by decide⟩ (by decide +kernel) ?_
      refine oj_iadd (pc := 23) (by decide +kernel) ?_
      refine oj_icmp_ne (pc := 24) (off := 13) (tgt := 37) (by decide +kernel) (by decide) H (fun _ H => ?_) (fun _ H => ?_)
      · refine oj_ald0 (pc := 37) (by decide +kernel) ?_
        refine oj_bipush (pc := 38) (v := 10) ⟨by decide, by decide⟩ (by decide +kernel) ?_
        refine oj_ald0 (pc := 40) (by decide +kernel) ?_
        refine oj_getI' (pc := 41) (ki := 11) f_M_182 s_57_11 rfl (by decide +kernel) ?_
        refine oj_imul (pc := 44) (by decide +kernel) ?_
        refine oj_ald0 (pc := 45) (by decide +kernel) ?_
        refine of_Vi (pc := 46) (as := []) v_M_172 o_57 rfl rfl (Nat.le_of_ble_eq_true rfl) (by decide +kernel) (by decide) rfl (c_M_here_0 (okp_bind H)) (fun r M H => ?_)
        refine oj_iadd (pc := 49) (by decide +kernel) ?_
        refine oj_bipush (pc := 50) (v := 48) ⟨by decide, by decide⟩ (by decide +kernel) ?_
        refine oj_isub (pc := 52) (by decide +kernel) ?_
        refine oj_putI' (pc := 53) (ki := 11) f_M_182 s_57_11 rfl (by decide +kernel) ?_
        have H := okp_lt H
        refine oj_ald0 (pc := 56) (by decide +kernel) ?_
        refine oj_ald0 (pc := 57) (by decide +kernel) ?_
        refine oj_getI' (pc := 58) (ki := 8) f_M_166 s_57_8 rfl (by decide +kernel) ?_
        refine oj_iconst (pc := 61) (v := 1) ⟨by decide, by decide⟩ (by decide +kernel) ?_
        refine oj_iadd (pc := 62) (by decide +kernel) ?_
        refine oj_putI' (pc := 63) (ki := 8) f_M_166 s_57_8 rfl (by decide +kernel) ?_
        have H := okp_lt H
        refine oj_goto (pc := 66) (off := -56) (tgt := 10) (by decide +kernel) (by decide) ?_
        have H := i10 _ H
        exact H
      · refine oj_ald0 (pc := 27) (by decide +kernel) ?_
        refine oj_iconst (pc := 28) (v := 2) ⟨by decide, by decide⟩ (by decide +kernel) ?_
        refine oj_ald0 (pc := 29) (by decide +kernel) ?_
        refine oj_getI' (pc := 30) (ki := 8) f_M_166 s_57_8 rfl (by decide +kernel) ?_
        refine of_Vi (pc := 33) (as := [_, _]) v_M_179 o_57 rfl rfl (Nat.le_of_ble_eq_true rfl) (by decide +kernel) (by decide) rfl (c_M_wrongAt_0 (okp_bind H)) (fun r M H => ?_)
        refine oj_zret (pc := 36) (f := _) (K := _) (by decide +kernel) rfl (Nat.le_refl _) (Nat.le_refl _) H (fun H => ?_)
        have H := e10 _ H
        exact ⟨rfl, H⟩
  refine oj_ald0 (pc := 0) (by decide +kernel) ?_
  refine oj_getI' (pc := 1) (ki := 8) f_M_166 s_57_8 rfl (by decide +kernel) ?_
  refine oj_st1 (pc := 4) (by decide +kernel) (by decide +kernel) ?_
  have H := okp_lt H
  refine oj_ald0 (pc := 5) (by decide +kernel) ?_
  refine oj_iconst (pc := 6) (v := 0) ⟨by decide, by decide⟩ (by decide +kernel) ?_
  refine oj_putI' (pc := 7) (ki := 11) f_M_182 s_57_11 rfl (by decide +kernel) ?_
  have H := okp_lt H
  exact h10 _ _ _ H
theorem c_M_readsFactor_0 {l : Launch} {f : Nat} {M : oM} {K : Int × oM → Prop} (H : okp (p_M_readsFactor f M) K) : oKf l m_M_readsFactor 5 [vr 57] M K := by
  refine oK_intro (lv := [vr 57, vu]) (by decide +kernel) (Nat.le_of_ble_eq_true rfl) rfl ?_
  have h0 : ∀ (g : Nat) (M : oM), okp (iter (p_M_readsFactor_L0 f) g M) K → oJ l m_M_readsFactor (oEf 5 K) 0 0 0 [vr 57, vu] [] WD M := by
    intro g  M H
    have HL := fun hs => iter_J' (Jh := fun s => oJ l m_M_readsFactor (oEf 5 K) 0 0 0 [vr 57, vu] [] WD s) (G := K) hs g M H
    refine HL ?_
    intro K0 M i0 e0 H
    show oJ l m_M_readsFactor (oEf 5 K) 0 0 0 [vr 57, vu] [] WD M
    unfold p_M_readsFactor_L0 at H
    refine oj_ald0 (pc := 0) (by decide +kernel) ?_
    refine of_Vi (pc := 1) (as := []) v_M_172 o_57 rfl rfl (Nat.le_of_ble_eq_true rfl) (by decide +kernel) (by decide) rfl (c_M_here_0 (okp_bind H)) (fun r M H => ?_)
    refine oj_bipush (pc := 4) (v := 91) ⟨by decide, by decide⟩ (by decide +kernel) ?_
    refine oj_icmp_ne (pc := 6) (off := 14) (tgt := 20) (by decide +kernel) (by decide) H (fun _ H => ?_) (fun _ H => ?_)
    · refine oj_ald0 (pc := 20) (by decide +kernel) ?_
      refine of_Vi (pc := 21) (as := []) v_M_185 o_57 rfl rfl (Nat.le_of_ble_eq_true rfl) (by decide +kernel) (by decide) rfl (c_M_isDigit_0 (okp_bind H)) (fun r M H => ?_)
      refine oj_if_eq (pc := 24) (off := 23) (tgt := 47) (by decide +kernel) (by decide) H (fun _ H => ?_) (fun _ H => ?_)
      · refine oj_ald0 (pc := 47) (by decide +kernel) ?_
        refine of_Vi (pc := 48) (as := []) v_M_172 o_57 rfl rfl (Nat.le_of_ble_eq_true rfl) (by decide +kernel) (by decide) rfl (c_M_here_0 (okp_bind H)) (fun r M H => ?_)
        refine of_Si (pc := 51) (as := [_]) v_M_212 rfl rfl (Nat.le_of_ble_eq_true rfl) (by decide +kernel) (by decide) rfl (c_M_factOf_0 (okp_bind H)) (fun r M H => ?_)
        refine oj_st1 (pc := 54) (by decide +kernel) (by decide +kernel) ?_
        refine oj_ld1 (pc := 55) (by decide +kernel) ?_
        refine oj_iconst (pc := 56) (v := -1) ⟨by decide, by decide⟩ (by decide +kernel) ?_
        refine oj_icmp_ne (pc := 57) (off := 13) (tgt := 70) (by decide +kernel) (by decide) H (fun _ H => ?_) (fun _ H => ?_)
        · refine oj_ald0 (pc := 70) (by decide +kernel) ?_
          refine oj_iconst (pc := 71) (v := 1) ⟨by decide, by decide⟩ (by decide +kernel) ?_
          refine oj_ld1 (pc := 72) (by decide +kernel) ?_
          refine of_Vv (pc := 73) (as := [_, _]) v_M_202 o_57 rfl rfl (Nat.le_of_ble_eq_true rfl) (by decide +kernel) (by decide) rfl (c_M_notes_0 (okp_bind H)) (fun M H => ?_)
          refine oj_ald0 (pc := 76) (by decide +kernel) ?_
          refine oj_ald0 (pc := 77) (by decide +kernel) ?_
          refine oj_getI' (pc := 78) (ki := 8) f_M_166 s_57_8 rfl (by decide +kernel) ?_
          refine oj_iconst (pc := 81) (v := 1) ⟨by decide, by decide⟩ (by decide +kernel) ?_
          refine oj_iadd (pc := 82) (by decide +kernel) ?_
          refine oj_putI' (pc := 83) (ki := 8) f_M_166 s_57_8 rfl (by decide +kernel) ?_
          have H := okp_lt H
          refine oj_iconst (pc := 86) (v := 1) ⟨by decide, by decide⟩ (by decide +kernel) ?_
          have H := e0 _ H
          exact oj_iret (pc := 87) (by decide +kernel) rfl rfl (Nat.le_refl _) (Nat.le_refl _) ⟨rfl, H⟩
        · refine oj_ald0 (pc := 60) (by decide +kernel) ?_
          refine oj_iconst (pc := 61) (v := 1) ⟨by decide, by decide⟩ (by decide +kernel) ?_
          refine oj_ald0 (pc := 62) (by decide +kernel) ?_
          refine oj_getI' (pc := 63) (ki := 8) f_M_166 s_57_8 rfl (by decide +kernel) ?_
          refine of_Vi (pc := 66) (as := [_, _]) v_M_179 o_57 rfl rfl (Nat.le_of_ble_eq_true rfl) (by decide +kernel) (by decide) rfl (c_M_wrongAt_0 (okp_bind H)) (fun r M H => ?_)
          refine oj_zret (pc := 69) (f := _) (K := _) (by decide +kernel) rfl (Nat.le_refl _) (Nat.le_refl _) H (fun H => ?_)
          have H := e0 _ H
          exact ⟨rfl, H⟩
      · refine oj_ald0 (pc := 27) (by decide +kernel) ?_
        refine of_Vi (pc := 28) (as := []) v_M_209 o_57 rfl rfl (Nat.le_of_ble_eq_true rfl) (by decide +kernel) (by decide) rfl (c_M_readsNumber_0 (okp_bind H)) (fun r M H => ?_)
        refine oj_if_ne (pc := 31) (off := 5) (tgt := 36) (by decide +kernel) (by decide) H (fun _ H => ?_) (fun _ H => ?_)
        · refine oj_ald0 (pc := 36) (by decide +kernel) ?_
          refine oj_iconst (pc := 37) (v := 0) ⟨by decide, by decide⟩ (by decide +kernel) ?_
          refine oj_ald0 (pc := 38) (by decide +kernel) ?_
          refine oj_getI' (pc := 39) (ki := 11) f_M_182 s_57_11 rfl (by decide +kernel) ?_
          refine of_Vv (pc := 42) (as := [_, _]) v_M_202 o_57 rfl rfl (Nat.le_of_ble_eq_true rfl) (by decide +kernel) (by decide) rfl (c_M_notes_0 (okp_bind H)) (fun M H => ?_)
          refine oj_iconst (pc := 45) (v := 1) ⟨by decide, by decide⟩ (by decide +kernel) ?_
          have H := e0 _ H
          exact oj_iret (pc := 46) (by decide +kernel) rfl rfl (Nat.le_refl _) (Nat.le_refl _) ⟨rfl, H⟩
        · refine oj_iconst (pc := 34) (v := 0) ⟨by decide, by decide⟩ (by decide +kernel) ?_
          have H := e0 _ H
          exact oj_iret (pc := 35) (by decide +kernel) rfl rfl (Nat.le_refl _) (Nat.le_refl _) ⟨rfl, H⟩
    · refine oj_ald0 (pc := 9) (by decide +kernel) ?_
      refine oj_bipush (pc := 10) (v := 14) ⟨by decide, by decide⟩ (by decide +kernel) ?_
      refine of_Vi (pc := 12) (as := [_]) v_M_206 o_57 rfl rfl (Nat.le_of_ble_eq_true rfl) (by decide +kernel) (by decide) rfl (c_M_opens_0 (okp_bind H)) (fun r M H => ?_)
      refine oj_if_ne (pc := 15) (off := -15) (tgt := 0) (by decide +kernel) (by decide) H (fun _ H => ?_) (fun _ H => ?_)
      · have H := i0 _ H
        exact H
      · refine oj_iconst (pc := 18) (v := 0) ⟨by decide, by decide⟩ (by decide +kernel) ?_
        have H := e0 _ H
        exact oj_iret (pc := 19) (by decide +kernel) rfl rfl (Nat.le_refl _) (Nat.le_refl _) ⟨rfl, H⟩
  exact h0 _  _ H
theorem c_M_sumSign_0 {l : Launch} {f : Nat} {l0 : Int} {M : oM} {K : Int × oM → Prop} (H : okp (p_M_sumSign f l0 M) K) : oKf l m_M_sumSign 2 [vi l0] M K := by
  refine oK_intro (lv := [vi l0]) (by decide +kernel) (Nat.le_of_ble_eq_true rfl) rfl ?_
  refine oj_ld0 (pc := 0) (by decide +kernel) ?_
  refine oj_bipush (pc := 1) (v := 43) ⟨by decide, by decide⟩ (by decide +kernel) ?_
  refine oj_icmp_ne (pc := 3) (off := 7) (tgt := 10) (by decide +kernel) (by decide) H (fun _ H => ?_) (fun _ H => ?_)
  · refine oj_ld0 (pc := 10) (by decide +kernel) ?_
    refine oj_bipush (pc := 11) (v := 45) ⟨by decide, by decide⟩ (by decide +kernel) ?_
    refine oj_icmp_ne (pc := 13) (off := 7) (tgt := 20) (by decide +kernel) (by decide) H (fun _ H => ?_) (fun _ H => ?_)
    · refine oj_ld0 (pc := 20) (by decide +kernel) ?_
      refine oj_bipush (pc := 21) (v := 42) ⟨by decide, by decide⟩ (by decide +kernel) ?_
      refine oj_icmp_ne (pc := 23) (off := 7) (tgt := 30) (by decide +kernel) (by decide) H (fun _ H => ?_) (fun _ H => ?_)
      · refine oj_ld0 (pc := 30) (by decide +kernel) ?_
        refine oj_bipush (pc := 31) (v := 47) ⟨by decide, by decide⟩ (by decide +kernel) ?_
        refine oj_icmp_ne (pc := 33) (off := 7) (tgt := 40) (by decide +kernel) (by decide) H (fun _ H => ?_) (fun _ H => ?_)
        · refine oj_ld0 (pc := 40) (by decide +kernel) ?_
          refine oj_bipush (pc := 41) (v := 37) ⟨by decide, by decide⟩ (by decide +kernel) ?_
          refine oj_icmp_ne (pc := 43) (off := 8) (tgt := 51) (by decide +kernel) (by decide) H (fun _ H => ?_) (fun _ H => ?_)
          · refine oj_iconst (pc := 51) (v := -1) ⟨by decide, by decide⟩ (by decide +kernel) ?_
            exact oj_iret (pc := 52) (by decide +kernel) rfl rfl (Nat.le_refl _) (Nat.le_refl _) ⟨rfl, H⟩
          · refine oj_bipush (pc := 46) (v := 6) ⟨by decide, by decide⟩ (by decide +kernel) ?_
            refine oj_goto (pc := 48) (off := 4) (tgt := 52) (by decide +kernel) (by decide) ?_
            exact oj_iret (pc := 52) (by decide +kernel) rfl rfl (Nat.le_refl _) (Nat.le_refl _) ⟨rfl, H⟩
        · refine oj_iconst (pc := 36) (v := 5) ⟨by decide, by decide⟩ (by decide +kernel) ?_
          refine oj_goto (pc := 37) (off := 15) (tgt := 52) (by decide +kernel) (by decide) ?_
          exact oj_iret (pc := 52) (by decide +kernel) rfl rfl (Nat.le_refl _) (Nat.le_refl _) ⟨rfl, H⟩
      · refine oj_iconst (pc := 26) (v := 4) ⟨by decide, by decide⟩ (by decide +kernel) ?_
        refine oj_goto (pc := 27) (off := 25) (tgt := 52) (by decide +kernel) (by decide) ?_
        exact oj_iret (pc := 52) (by decide +kernel) rfl rfl (Nat.le_refl _) (Nat.le_refl _) ⟨rfl, H⟩
    · refine oj_iconst (pc := 16) (v := 3) ⟨by decide, by decide⟩ (by decide +kernel) ?_
      refine oj_goto (pc := 17) (off := 35) (tgt := 52) (by decide +kernel) (by decide) ?_
      exact oj_iret (pc := 52) (by decide +kernel) rfl rfl (Nat.le_refl _) (Nat.le_refl _) ⟨rfl, H⟩
  · refine oj_iconst (pc := 6) (v := 2) ⟨by decide, by decide⟩ (by decide +kernel) ?_
    refine oj_goto (pc := 7) (off := 45) (tgt := 52) (by decide +kernel) (by decide) ?_
    exact oj_iret (pc := 52) (by decide +kernel) rfl rfl (Nat.le_refl _) (Nat.le_refl _) ⟨rfl, H⟩
theorem c_M_readsSum_0 {l : Launch} {f : Nat} {M : oM} {K : Int × oM → Prop} (H : okp (p_M_readsSum f M) K) : oKf l m_M_readsSum 6 [vr 57] M K := by
  refine oK_intro (lv := [vr 57, vu, vu]) (by decide +kernel) (Nat.le_of_ble_eq_true rfl) rfl ?_
  have h14 : ∀ (g : Nat) (l1 : Int) (M : oM), okp (iter (p_M_readsSum_L14 f l1) g M) K → oJ l m_M_readsSum (oEf 6 K) 0 0 14 [vr 57, vi l1, vu] [] WD M := by
    intro g l1 M H
    have HL := fun hs => iter_J' (Jh := fun s => oJ l m_M_readsSum (oEf 6 K) 0 0 14 [vr 57, vi l1, vu] [] WD s) (G := K) hs g M H
    refine HL ?_
    intro K14 M i14 e14 H
    show oJ l m_M_readsSum (oEf 6 K) 0 0 14 [vr 57, vi l1, vu] [] WD M
    unfold p_M_readsSum_L14 at H
    have h138 : ∀ (M : oM), okp (p_M_readsSum_B138_14 f l1 M) K14 → oJ l m_M_readsSum (oEf 6 K) 0 0 138 [vr 57, vi l1, vu] [] WD M := by
      intro  M H
      refine oj_ald0 (pc := 138) (by decide +kernel) ?_
      refine oj_ld1 (pc := 139) (by decide +kernel) ?_
      refine of_Vi (pc := 140) (as := [_]) v_M_225 o_57 rfl rfl (Nat.le_of_ble_eq_true rfl) (by decide +kernel) (by decide) rfl (c_M_hasOpenSum_0 (okp_bind H)) (fun r M H => ?_)
      refine oj_if_eq (pc := 143) (off := 13) (tgt := 156) (by decide +kernel) (by decide) H (fun _ H => ?_) (fun _ H => ?_)
      · refine oj_ald0 (pc := 156) (by decide +kernel) ?_
        refine oj_iconst (pc := 157) (v := 1) ⟨by decide, by decide⟩ (by decide +kernel) ?_
        refine of_Vv (pc := 158) (as := [_]) v_M_221 o_57 rfl rfl (Nat.le_of_ble_eq_true rfl) (by decide +kernel) (by decide) rfl (c_M_closesSums_0 (okp_bind H)) (fun M H => ?_)
        refine oj_iconst (pc := 161) (v := 1) ⟨by decide, by decide⟩ (by decide +kernel) ?_
        have H := e14 _ H
        exact oj_iret (pc := 162) (by decide +kernel) rfl rfl (Nat.le_refl _) (Nat.le_refl _) ⟨rfl, H⟩
      · refine oj_ald0 (pc := 146) (by decide +kernel) ?_
        refine oj_iconst (pc := 147) (v := 1) ⟨by decide, by decide⟩ (by decide +kernel) ?_
        refine oj_ald0 (pc := 148) (by decide +kernel) ?_
        refine oj_getI' (pc := 149) (ki := 8) f_M_166 s_57_8 rfl (by decide +kernel) ?_
        refine of_Vi (pc := 152) (as := [_, _]) v_M_179 o_57 rfl rfl (Nat.le_of_ble_eq_true rfl) (by decide +kernel) (by decide) rfl (c_M_wrongAt_0 (okp_bind H)) (fun r M H => ?_)
        refine oj_zret (pc := 155) (f := _) (K := _) (by decide +kernel) rfl (Nat.le_refl _) (Nat.le_refl _) H (fun H => ?_)
        have H := e14 _ H
        exact ⟨rfl, H⟩
    have h163 : ∀ (M : oM), okp (p_M_readsSum_B163_14 f l1 M) K14 → oJ l m_M_readsSum (oEf 6 K) 0 0 163 [vr 57, vi l1, vu] [] WD M := by
      intro  M H
      refine oj_goto (pc := 163) (off := -149) (tgt := 14) (by decide +kernel) (by decide) ?_
      have H := i14 _ H
      exact H
    have h38 : ∀ (l2 s1 : Int) (M : oM), okp (p_M_readsSum_B38_14 f l1 l2 s1 M) K14 → oJ l m_M_readsSum (oEf 6 K) 0 0 38 [vr 57, vi l1, vi l2] [vi s1, vr 57] WD M := by
      intro l2 s1 M H
      refine of_Vv (pc := 38) (as := [_]) v_M_221 o_57 rfl rfl (Nat.le_of_ble_eq_true rfl) (by decide +kernel) (by decide) rfl (c_M_closesSums_0 (okp_bind H)) (fun M H => ?_)
      refine oj_ald0 (pc := 41) (by decide +kernel) ?_
      refine oj_getR' (pc := 42) f_M_32 s_57_18 (by decide +kernel) ?_
      refine oj_ald0 (pc := 45) (by decide +kernel) ?_
      refine oj_getI' (pc := 46) (ki := 14) f_M_196 s_57_14 rfl (by decide +kernel) ?_
      refine oj_ldc (pc := 49) (v := 1048576) k_M_192 ⟨by decide, by decide⟩ (by decide +kernel) ?_
      refine oj_ld2 (pc := 51) (by decide +kernel) ?_
      refine oj_imul (pc := 52) (by decide +kernel) ?_
      refine oj_iast (pc := 53) (NN := 260) a_65 rfl (by decide +kernel) H (fun H => ?_)
      have H := okp_lt H
      refine oj_ald0 (pc := 54) (by decide +kernel) ?_
      refine oj_ald0 (pc := 55) (by decide +kernel) ?_
      refine oj_getI' (pc := 56) (ki := 14) f_M_196 s_57_14 rfl (by decide +kernel) ?_
      refine oj_iconst (pc := 59) (v := 1) ⟨by decide, by decide⟩ (by decide +kernel) ?_
      refine oj_iadd (pc := 60) (by decide +kernel) ?_
      refine oj_putI' (pc := 61) (ki := 14) f_M_196 s_57_14 rfl (by decide +kernel) ?_
      have H := okp_lt H
      refine oj_ald0 (pc := 64) (by decide +kernel) ?_
      refine oj_ald0 (pc := 65) (by decide +kernel) ?_
      refine oj_getI' (pc := 66) (ki := 8) f_M_166 s_57_8 rfl (by decide +kernel) ?_
      refine oj_iconst (pc := 69) (v := 1) ⟨by decide, by decide⟩ (by decide +kernel) ?_
      refine oj_iadd (pc := 70) (by decide +kernel) ?_
      refine oj_putI' (pc := 71) (ki := 8) f_M_166 s_57_8 rfl (by decide +kernel) ?_
      have H := okp_lt H
      refine oj_ald0 (pc := 74) (by decide +kernel) ?_
      refine of_Vi (pc := 75) (as := []) v_M_215 o_57 rfl rfl (Nat.le_of_ble_eq_true rfl) (by decide +kernel) (by decide) rfl (c_M_readsFactor_0 (okp_bind H)) (fun r M H => ?_)
      refine oj_if_ne (pc := 78) (off := 85) (tgt := 163) (by decide +kernel) (by decide) H (fun _ H => ?_) (fun _ H => ?_)
      · refine oj_le (lv' := [_, _, vu]) ⟨Or.inr rfl, Or.inr rfl, Or.inl rfl, trivial⟩ ?_
        exact h163  _ H
      · refine oj_iconst (pc := 81) (v := 0) ⟨by decide, by decide⟩ (by decide +kernel) ?_
        have H := e14 _ H
        exact oj_iret (pc := 82) (by decide +kernel) rfl rfl (Nat.le_refl _) (Nat.le_refl _) ⟨rfl, H⟩
    refine oj_ald0 (pc := 14) (by decide +kernel) ?_
    refine of_Vi (pc := 15) (as := []) v_M_172 o_57 rfl rfl (Nat.le_of_ble_eq_true rfl) (by decide +kernel) (by decide) rfl (c_M_here_0 (okp_bind H)) (fun r M H => ?_)
    refine of_Si (pc := 18) (as := [_]) v_M_218 rfl rfl (Nat.le_of_ble_eq_true rfl) (by decide +kernel) (by decide) rfl (c_M_sumSign_0 (okp_bind H)) (fun r M H => ?_)
    refine oj_st2 (pc := 21) (by decide +kernel) (by decide +kernel) ?_
    refine oj_ld2 (pc := 22) (by decide +kernel) ?_
    refine oj_iconst (pc := 23) (v := -1) ⟨by decide, by decide⟩ (by decide +kernel) ?_
    refine oj_icmp_eq (pc := 24) (off := 59) (tgt := 83) (by decide +kernel) (by decide) H (fun _ H => ?_) (fun _ H => ?_)
    · refine oj_ald0 (pc := 83) (by decide +kernel) ?_
      refine of_Vi (pc := 84) (as := []) v_M_172 o_57 rfl rfl (Nat.le_of_ble_eq_true rfl) (by decide +kernel) (by decide) rfl (c_M_here_0 (okp_bind H)) (fun r M H => ?_)
      refine oj_bipush (pc := 87) (v := 93) ⟨by decide, by decide⟩ (by decide +kernel) ?_
      refine oj_icmp_ne (pc := 89) (off := 49) (tgt := 138) (by decide +kernel) (by decide) H (fun _ H => ?_) (fun _ H => ?_)
      · refine oj_le (lv' := [_, _, vu]) ⟨Or.inr rfl, Or.inr rfl, Or.inl rfl, trivial⟩ ?_
        exact h138  _ H
      · refine oj_ald0 (pc := 92) (by decide +kernel) ?_
        refine oj_ld1 (pc := 93) (by decide +kernel) ?_
        refine of_Vi (pc := 94) (as := [_]) v_M_225 o_57 rfl rfl (Nat.le_of_ble_eq_true rfl) (by decide +kernel) (by decide) rfl (c_M_hasOpenSum_0 (okp_bind H)) (fun r M H => ?_)
        refine oj_if_eq (pc := 97) (off := 41) (tgt := 138) (by decide +kernel) (by decide) H (fun _ H => ?_) (fun _ H => ?_)
        · refine oj_le (lv' := [_, _, vu]) ⟨Or.inr rfl, Or.inr rfl, Or.inl rfl, trivial⟩ ?_
          exact h138  _ H
        · refine oj_ald0 (pc := 100) (by decide +kernel) ?_
          refine oj_iconst (pc := 101) (v := 1) ⟨by decide, by decide⟩ (by decide +kernel) ?_
          refine of_Vv (pc := 102) (as := [_]) v_M_221 o_57 rfl rfl (Nat.le_of_ble_eq_true rfl) (by decide +kernel) (by decide) rfl (c_M_closesSums_0 (okp_bind H)) (fun M H => ?_)
          refine oj_ald0 (pc := 105) (by decide +kernel) ?_
          refine oj_ald0 (pc := 106) (by decide +kernel) ?_
          refine oj_getI' (pc := 107) (ki := 14) f_M_196 s_57_14 rfl (by decide +kernel) ?_
          refine oj_iconst (pc := 110) (v := 1) ⟨by decide, by decide⟩ (by decide +kernel) ?_
          refine oj_isub (pc := 111) (by decide +kernel) ?_
          refine oj_putI' (pc := 112) (ki := 14) f_M_196 s_57_14 rfl (by decide +kernel) ?_
          have H := okp_lt H
          refine oj_ald0 (pc := 115) (by decide +kernel) ?_
          refine oj_ald0 (pc := 116) (by decide +kernel) ?_
          refine oj_getI' (pc := 117) (ki := 12) f_M_193 s_57_12 rfl (by decide +kernel) ?_
          refine oj_iconst (pc := 120) (v := 1) ⟨by decide, by decide⟩ (by decide +kernel) ?_
          refine oj_isub (pc := 121) (by decide +kernel) ?_
          refine oj_putI' (pc := 122) (ki := 12) f_M_193 s_57_12 rfl (by decide +kernel) ?_
          have H := okp_lt H
          refine oj_ald0 (pc := 125) (by decide +kernel) ?_
          refine oj_ald0 (pc := 126) (by decide +kernel) ?_
          refine oj_getI' (pc := 127) (ki := 8) f_M_166 s_57_8 rfl (by decide +kernel) ?_
          refine oj_iconst (pc := 130) (v := 1) ⟨by decide, by decide⟩ (by decide +kernel) ?_
          refine oj_iadd (pc := 131) (by decide +kernel) ?_
          refine oj_putI' (pc := 132) (ki := 8) f_M_166 s_57_8 rfl (by decide +kernel) ?_
          have H := okp_lt H
          refine oj_goto (pc := 135) (off := 28) (tgt := 163) (by decide +kernel) (by decide) ?_
          refine oj_le (lv' := [_, _, vu]) ⟨Or.inr rfl, Or.inr rfl, Or.inl rfl, trivial⟩ ?_
          exact h163  _ H
    · refine oj_ald0 (pc := 27) (by decide +kernel) ?_
      refine oj_ld2 (pc := 28) (by decide +kernel) ?_
      refine oj_iconst (pc := 29) (v := 4) ⟨by decide, by decide⟩ (by decide +kernel) ?_
      refine oj_icmp_ge (pc := 30) (off := 7) (tgt := 37) (by decide +kernel) (by decide) H (fun _ H => ?_) (fun _ H => ?_)
      · refine oj_iconst (pc := 37) (v := 0) ⟨by decide, by decide⟩ (by decide +kernel) ?_
        exact h38 _ _ _ H
      · refine oj_iconst (pc := 33) (v := 1) ⟨by decide, by decide⟩ (by decide +kernel) ?_
        refine oj_goto (pc := 34) (off := 4) (tgt := 38) (by decide +kernel) (by decide) ?_
        exact h38 _ _ _ H
  refine oj_ald0 (pc := 0) (by decide +kernel) ?_
  refine oj_getI' (pc := 1) (ki := 14) f_M_196 s_57_14 rfl (by decide +kernel) ?_
  refine oj_st1 (pc := 4) (by decide +kernel) (by decide +kernel) ?_
  have H := okp_lt H
  refine oj_ald0 (pc := 5) (by decide +kernel) ?_
  refine of_Vi (pc := 6) (as := []) v_M_215 o_57 rfl rfl (Nat.le_of_ble_eq_true rfl) (by decide +kernel) (by decide) rfl (c_M_readsFactor_0 (okp_bind H)) (fun r M H => ?_)
  refine oj_if_ne (pc := 9) (off := 5) (tgt := 14) (by decide +kernel) (by decide) H (fun _ H => ?_) (fun _ H => ?_)
  · exact h14 _ _ _ H
  · refine oj_iconst (pc := 12) (v := 0) ⟨by decide, by decide⟩ (by decide +kernel) ?_
    exact oj_iret (pc := 13) (by decide +kernel) rfl rfl (Nat.le_refl _) (Nat.le_refl _) ⟨rfl, H⟩
theorem c_M_readsCompared_0 {l : Launch} {f : Nat} {M : oM} {K : Int × oM → Prop} (H : okp (p_M_readsCompared f M) K) : oKf l m_M_readsCompared 7 [vr 57] M K := by
  refine oK_intro (lv := [vr 57, vu]) (by decide +kernel) (Nat.le_of_ble_eq_true rfl) rfl ?_
  have h52 : ∀ (s0 : Int) (M : oM), okp (p_M_readsCompared_B52 f s0 M) K → oJ l m_M_readsCompared (oEf 7 K) 0 0 52 [vr 57, vu] [vi s0] WD M := by
    intro s0 M H
    refine oj_st1 (pc := 52) (by decide +kernel) (by decide +kernel) ?_
    refine oj_ld1 (pc := 53) (by decide +kernel) ?_
    refine oj_iconst (pc := 54) (v := -1) ⟨by decide, by decide⟩ (by decide +kernel) ?_
    refine oj_icmp_ne (pc := 55) (off := 13) (tgt := 68) (by decide +kernel) (by decide) H (fun _ H => ?_) (fun _ H => ?_)
    · refine oj_ald0 (pc := 68) (by decide +kernel) ?_
      refine oj_ald0 (pc := 69) (by decide +kernel) ?_
      refine oj_getI' (pc := 70) (ki := 8) f_M_166 s_57_8 rfl (by decide +kernel) ?_
      refine oj_iconst (pc := 73) (v := 1) ⟨by decide, by decide⟩ (by decide +kernel) ?_
      refine oj_iadd (pc := 74) (by decide +kernel) ?_
      refine oj_putI' (pc := 75) (ki := 8) f_M_166 s_57_8 rfl (by decide +kernel) ?_
      have H := okp_lt H
      refine oj_ald0 (pc := 78) (by decide +kernel) ?_
      refine of_Vi (pc := 79) (as := []) v_M_228 o_57 rfl rfl (Nat.le_of_ble_eq_true rfl) (by decide +kernel) (by decide) rfl (c_M_readsSum_0 (okp_bind H)) (fun r M H => ?_)
      refine oj_if_ne (pc := 82) (off := 5) (tgt := 87) (by decide +kernel) (by decide) H (fun _ H => ?_) (fun _ H => ?_)
      · refine oj_ald0 (pc := 87) (by decide +kernel) ?_
        refine oj_ld1 (pc := 88) (by decide +kernel) ?_
        refine oj_iconst (pc := 89) (v := 0) ⟨by decide, by decide⟩ (by decide +kernel) ?_
        refine of_Vv (pc := 90) (as := [_, _]) v_M_202 o_57 rfl rfl (Nat.le_of_ble_eq_true rfl) (by decide +kernel) (by decide) rfl (c_M_notes_0 (okp_bind H)) (fun M H => ?_)
        refine oj_ald0 (pc := 93) (by decide +kernel) ?_
        refine of_Vv (pc := 94) (as := []) v_M_231 o_57 rfl rfl (Nat.le_of_ble_eq_true rfl) (by decide +kernel) (by decide) rfl (c_M_endsPiece_0 (okp_bind H)) (fun M H => ?_)
        refine oj_iconst (pc := 97) (v := 1) ⟨by decide, by decide⟩ (by decide +kernel) ?_
        exact oj_iret (pc := 98) (by decide +kernel) rfl rfl (Nat.le_refl _) (Nat.le_refl _) ⟨rfl, H⟩
      · refine oj_iconst (pc := 85) (v := 0) ⟨by decide, by decide⟩ (by decide +kernel) ?_
        exact oj_iret (pc := 86) (by decide +kernel) rfl rfl (Nat.le_refl _) (Nat.le_refl _) ⟨rfl, H⟩
    · refine oj_ald0 (pc := 58) (by decide +kernel) ?_
      refine oj_iconst (pc := 59) (v := 1) ⟨by decide, by decide⟩ (by decide +kernel) ?_
      refine oj_ald0 (pc := 60) (by decide +kernel) ?_
      refine oj_getI' (pc := 61) (ki := 8) f_M_166 s_57_8 rfl (by decide +kernel) ?_
      refine of_Vi (pc := 64) (as := [_, _]) v_M_179 o_57 rfl rfl (Nat.le_of_ble_eq_true rfl) (by decide +kernel) (by decide) rfl (c_M_wrongAt_0 (okp_bind H)) (fun r M H => ?_)
      exact oj_zret (pc := 67) (by decide +kernel) rfl (Nat.le_refl _) (Nat.le_refl _) H (fun H => ⟨rfl, H⟩)
  refine oj_ald0 (pc := 0) (by decide +kernel) ?_
  refine of_Vi (pc := 1) (as := []) v_M_228 o_57 rfl rfl (Nat.le_of_ble_eq_true rfl) (by decide +kernel) (by decide) rfl (c_M_readsSum_0 (okp_bind H)) (fun r M H => ?_)
  refine oj_if_ne (pc := 4) (off := 5) (tgt := 9) (by decide +kernel) (by decide) H (fun _ H => ?_) (fun _ H => ?_)
  · refine oj_ald0 (pc := 9) (by decide +kernel) ?_
    refine of_Vi (pc := 10) (as := []) v_M_172 o_57 rfl rfl (Nat.le_of_ble_eq_true rfl) (by decide +kernel) (by decide) rfl (c_M_here_0 (okp_bind H)) (fun r M H => ?_)
    refine oj_bipush (pc := 13) (v := 60) ⟨by decide, by decide⟩ (by decide +kernel) ?_
    refine oj_icmp_ne (pc := 15) (off := 8) (tgt := 23) (by decide +kernel) (by decide) H (fun _ H => ?_) (fun _ H => ?_)
    · refine oj_ald0 (pc := 23) (by decide +kernel) ?_
      refine of_Vi (pc := 24) (as := []) v_M_172 o_57 rfl rfl (Nat.le_of_ble_eq_true rfl) (by decide +kernel) (by decide) rfl (c_M_here_0 (okp_bind H)) (fun r M H => ?_)
      refine oj_bipush (pc := 27) (v := 62) ⟨by decide, by decide⟩ (by decide +kernel) ?_
      refine oj_icmp_ne (pc := 29) (off := 8) (tgt := 37) (by decide +kernel) (by decide) H (fun _ H => ?_) (fun _ H => ?_)
      · refine oj_ald0 (pc := 37) (by decide +kernel) ?_
        refine of_Vi (pc := 38) (as := []) v_M_172 o_57 rfl rfl (Nat.le_of_ble_eq_true rfl) (by decide +kernel) (by decide) rfl (c_M_here_0 (okp_bind H)) (fun r M H => ?_)
        refine oj_bipush (pc := 41) (v := 61) ⟨by decide, by decide⟩ (by decide +kernel) ?_
        refine oj_icmp_ne (pc := 43) (off := 8) (tgt := 51) (by decide +kernel) (by decide) H (fun _ H => ?_) (fun _ H => ?_)
        · refine oj_iconst (pc := 51) (v := -1) ⟨by decide, by decide⟩ (by decide +kernel) ?_
          exact h52 _ _ H
        · refine oj_bipush (pc := 46) (v := 9) ⟨by decide, by decide⟩ (by decide +kernel) ?_
          refine oj_goto (pc := 48) (off := 4) (tgt := 52) (by decide +kernel) (by decide) ?_
          exact h52 _ _ H
      · refine oj_bipush (pc := 32) (v := 8) ⟨by decide, by decide⟩ (by decide +kernel) ?_
        refine oj_goto (pc := 34) (off := 18) (tgt := 52) (by decide +kernel) (by decide) ?_
        exact h52 _ _ H
    · refine oj_bipush (pc := 18) (v := 7) ⟨by decide, by decide⟩ (by decide +kernel) ?_
      refine oj_goto (pc := 20) (off := 32) (tgt := 52) (by decide +kernel) (by decide) ?_
      exact h52 _ _ H
  · refine oj_iconst (pc := 7) (v := 0) ⟨by decide, by decide⟩ (by decide +kernel) ?_
    exact oj_iret (pc := 8) (by decide +kernel) rfl rfl (Nat.le_refl _) (Nat.le_refl _) ⟨rfl, H⟩
theorem c_M_readsCondition_0 {l : Launch} {f : Nat} {M : oM} {K : Int × oM → Prop} (H : okp (p_M_readsCondition f M) K) : oKf l m_M_readsCondition 8 [vr 57] M K := by
  refine oK_intro (lv := [vr 57]) (by decide +kernel) (Nat.le_of_ble_eq_true rfl) rfl ?_
  have h40 : ∀ (g : Nat) (M : oM), okp (iter (p_M_readsCondition_L40 f) g M) K → oJ l m_M_readsCondition (oEf 8 K) 0 0 40 [vr 57] [] WD M := by
    intro g  M H
    have HL := fun hs => iter_J' (Jh := fun s => oJ l m_M_readsCondition (oEf 8 K) 0 0 40 [vr 57] [] WD s) (G := K) hs g M H
    refine HL ?_
    intro K40 M i40 e40 H
    show oJ l m_M_readsCondition (oEf 8 K) 0 0 40 [vr 57] [] WD M
    unfold p_M_readsCondition_L40 at H
    have h75 : ∀ (s1 : Int) (M : oM), okp (p_M_readsCondition_B75_40 f s1 M) K40 → oJ l m_M_readsCondition (oEf 8 K) 0 0 75 [vr 57] [vi s1, vr 57] WD M := by
      intro s1 M H
      refine of_Vi (pc := 75) (as := [_]) v_M_206 o_57 rfl rfl (Nat.le_of_ble_eq_true rfl) (by decide +kernel) (by decide) rfl (c_M_opens_0 (okp_bind H)) (fun r M H => ?_)
      refine oj_if_ne (pc := 78) (off := -38) (tgt := 40) (by decide +kernel) (by decide) H (fun _ H => ?_) (fun _ H => ?_)
      · have H := i40 _ H
        exact H
      · refine oj_iconst (pc := 81) (v := 0) ⟨by decide, by decide⟩ (by decide +kernel) ?_
        have H := e40 _ H
        exact oj_iret (pc := 82) (by decide +kernel) rfl rfl (Nat.le_refl _) (Nat.le_refl _) ⟨rfl, H⟩
    have h58 : ∀ (M : oM), okp (p_M_readsCondition_B58_40 f M) K40 → oJ l m_M_readsCondition (oEf 8 K) 0 0 58 [vr 57] [] WD M := by
      intro  M H
      refine oj_ald0 (pc := 58) (by decide +kernel) ?_
      refine oj_ald0 (pc := 59) (by decide +kernel) ?_
      refine of_Vi (pc := 60) (as := []) v_M_172 o_57 rfl rfl (Nat.le_of_ble_eq_true rfl) (by decide +kernel) (by decide) rfl (c_M_here_0 (okp_bind H)) (fun r M H => ?_)
      refine oj_bipush (pc := 63) (v := 33) ⟨by decide, by decide⟩ (by decide +kernel) ?_
      refine oj_icmp_ne (pc := 65) (off := 8) (tgt := 73) (by decide +kernel) (by decide) H (fun _ H => ?_) (fun _ H => ?_)
      · refine oj_bipush (pc := 73) (v := 13) ⟨by decide, by decide⟩ (by decide +kernel) ?_
        exact h75 _ _ H
      · refine oj_bipush (pc := 68) (v := 10) ⟨by decide, by decide⟩ (by decide +kernel) ?_
        refine oj_goto (pc := 70) (off := 5) (tgt := 75) (by decide +kernel) (by decide) ?_
        exact h75 _ _ H
    have h215 : ∀ (s1 : Int) (M : oM), okp (p_M_readsCondition_B215_40 f s1 M) K40 → oJ l m_M_readsCondition (oEf 8 K) 0 0 215 [vr 57] [vi s1, vr 57] WD M := by
      intro s1 M H
      refine of_Vv (pc := 215) (as := [_]) v_M_240 o_57 rfl rfl (Nat.le_of_ble_eq_true rfl) (by decide +kernel) (by decide) rfl (c_M_jumps_0 (okp_bind H)) (fun M H => ?_)
      refine oj_goto (pc := 218) (off := -178) (tgt := 40) (by decide +kernel) (by decide) ?_
      have H := i40 _ H
      exact H
    have h195 : ∀ (s1 : Int) (M : oM), okp (p_M_readsCondition_B195_40 f s1 M) K40 → oJ l m_M_readsCondition (oEf 8 K) 0 0 195 [vr 57] [vi s1, vr 57] WD M := by
      intro s1 M H
      refine of_Vv (pc := 195) (as := [_]) v_M_237 o_57 rfl rfl (Nat.le_of_ble_eq_true rfl) (by decide +kernel) (by decide) rfl (c_M_lands_0 (okp_bind H)) (fun M H => ?_)
      refine oj_ald0 (pc := 198) (by decide +kernel) ?_
      refine oj_ald0 (pc := 199) (by decide +kernel) ?_
      refine of_Vi (pc := 200) (as := []) v_M_172 o_57 rfl rfl (Nat.le_of_ble_eq_true rfl) (by decide +kernel) (by decide) rfl (c_M_here_0 (okp_bind H)) (fun r M H => ?_)
      refine oj_bipush (pc := 203) (v := 38) ⟨by decide, by decide⟩ (by decide +kernel) ?_
      refine oj_icmp_ne (pc := 205) (off := 8) (tgt := 213) (by decide +kernel) (by decide) H (fun _ H => ?_) (fun _ H => ?_)
      · refine oj_bipush (pc := 213) (v := 12) ⟨by decide, by decide⟩ (by decide +kernel) ?_
        exact h215 _ _ H
      · refine oj_bipush (pc := 208) (v := 11) ⟨by decide, by decide⟩ (by decide +kernel) ?_
        refine oj_goto (pc := 210) (off := 5) (tgt := 215) (by decide +kernel) (by decide) ?_
        exact h215 _ _ H
    have h180 : ∀ (M : oM), okp (p_M_readsCondition_B180_40 f M) K40 → oJ l m_M_readsCondition (oEf 8 K) 0 0 180 [vr 57] [] WD M := by
      intro  M H
      refine oj_ald0 (pc := 180) (by decide +kernel) ?_
      refine oj_ald0 (pc := 181) (by decide +kernel) ?_
      refine of_Vi (pc := 182) (as := []) v_M_172 o_57 rfl rfl (Nat.le_of_ble_eq_true rfl) (by decide +kernel) (by decide) rfl (c_M_here_0 (okp_bind H)) (fun r M H => ?_)
      refine oj_bipush (pc := 185) (v := 124) ⟨by decide, by decide⟩ (by decide +kernel) ?_
      refine oj_icmp_ne (pc := 187) (off := 7) (tgt := 194) (by decide +kernel) (by decide) H (fun _ H => ?_) (fun _ H => ?_)
      · refine oj_iconst (pc := 194) (v := 0) ⟨by decide, by decide⟩ (by decide +kernel) ?_
        exact h195 _ _ H
      · refine oj_iconst (pc := 190) (v := 1) ⟨by decide, by decide⟩ (by decide +kernel) ?_
        refine oj_goto (pc := 191) (off := 4) (tgt := 195) (by decide +kernel) (by decide) ?_
        exact h195 _ _ H
    have x92 : ∀ (M : oM), okp (p_M_readsCondition_X92 f (.inr M)) K40 → oJ l m_M_readsCondition (oEf 8 K) 0 0 152 [vr 57] [] WD M := by
      intro  M H
      unfold p_M_readsCondition_X92 at H
      refine oj_ald0 (pc := 152) (by decide +kernel) ?_
      refine of_Vi (pc := 153) (as := []) v_M_172 o_57 rfl rfl (Nat.le_of_ble_eq_true rfl) (by decide +kernel) (by decide) rfl (c_M_here_0 (okp_bind H)) (fun r M H => ?_)
      refine oj_bipush (pc := 156) (v := 38) ⟨by decide, by decide⟩ (by decide +kernel) ?_
      refine oj_icmp_eq (pc := 158) (off := 22) (tgt := 180) (by decide +kernel) (by decide) H (fun _ H => ?_) (fun _ H => ?_)
      · exact h180  _ H
      · refine oj_ald0 (pc := 161) (by decide +kernel) ?_
        refine of_Vi (pc := 162) (as := []) v_M_172 o_57 rfl rfl (Nat.le_of_ble_eq_true rfl) (by decide +kernel) (by decide) rfl (c_M_here_0 (okp_bind H)) (fun r M H => ?_)
        refine oj_bipush (pc := 165) (v := 124) ⟨by decide, by decide⟩ (by decide +kernel) ?_
        refine oj_icmp_eq (pc := 167) (off := 13) (tgt := 180) (by decide +kernel) (by decide) H (fun _ H => ?_) (fun _ H => ?_)
        · exact h180  _ H
        · refine oj_ald0 (pc := 170) (by decide +kernel) ?_
          refine oj_iconst (pc := 171) (v := 1) ⟨by decide, by decide⟩ (by decide +kernel) ?_
          refine oj_ald0 (pc := 172) (by decide +kernel) ?_
          refine oj_getI' (pc := 173) (ki := 8) f_M_166 s_57_8 rfl (by decide +kernel) ?_
          refine of_Vi (pc := 176) (as := [_, _]) v_M_179 o_57 rfl rfl (Nat.le_of_ble_eq_true rfl) (by decide +kernel) (by decide) rfl (c_M_wrongAt_0 (okp_bind H)) (fun r M H => ?_)
          refine oj_zret (pc := 179) (f := _) (K := _) (by decide +kernel) rfl (Nat.le_refl _) (Nat.le_refl _) H (fun H => ?_)
          have H := e40 _ H
          exact ⟨rfl, H⟩
    have h92 : ∀ (g : Nat) (M : oM), okp (iter (p_M_readsCondition_L92 f) g M) (fun r => okp (p_M_readsCondition_X92 f r) K40) → oJ l m_M_readsCondition (oEf 8 K) 0 0 92 [vr 57] [] WD M := by
      intro g  M H
      have HL := fun hs => iter_J' (Jh := fun s => oJ l m_M_readsCondition (oEf 8 K) 0 0 92 [vr 57] [] WD s) (G := (fun r => okp (p_M_readsCondition_X92 f r) K40)) hs g M H
      refine HL ?_
      intro K92 M i92 e92 H
      show oJ l m_M_readsCondition (oEf 8 K) 0 0 92 [vr 57] [] WD M
      unfold p_M_readsCondition_L92 at H
      refine oj_ald0 (pc := 92) (by decide +kernel) ?_
      refine of_Vi (pc := 93) (as := []) v_M_172 o_57 rfl rfl (Nat.le_of_ble_eq_true rfl) (by decide +kernel) (by decide) rfl (c_M_here_0 (okp_bind H)) (fun r M H => ?_)
      refine oj_bipush (pc := 96) (v := 41) ⟨by decide, by decide⟩ (by decide +kernel) ?_
      refine oj_icmp_ne (pc := 98) (off := 54) (tgt := 152) (by decide +kernel) (by decide) H (fun _ H => ?_) (fun _ H => ?_)
      · have H := e92 _ H
        exact x92  _ H
      · refine oj_ald0 (pc := 101) (by decide +kernel) ?_
        refine oj_iconst (pc := 102) (v := 1) ⟨by decide, by decide⟩ (by decide +kernel) ?_
        refine of_Vv (pc := 103) (as := [_]) v_M_237 o_57 rfl rfl (Nat.le_of_ble_eq_true rfl) (by decide +kernel) (by decide) rfl (c_M_lands_0 (okp_bind H)) (fun M H => ?_)
        refine oj_ald0 (pc := 106) (by decide +kernel) ?_
        refine oj_ald0 (pc := 107) (by decide +kernel) ?_
        refine oj_getI' (pc := 108) (ki := 14) f_M_196 s_57_14 rfl (by decide +kernel) ?_
        refine oj_iconst (pc := 111) (v := 1) ⟨by decide, by decide⟩ (by decide +kernel) ?_
        refine oj_isub (pc := 112) (by decide +kernel) ?_
        refine oj_putI' (pc := 113) (ki := 14) f_M_196 s_57_14 rfl (by decide +kernel) ?_
        have H := okp_lt H
        refine oj_ald0 (pc := 116) (by decide +kernel) ?_
        refine oj_ald0 (pc := 117) (by decide +kernel) ?_
        refine oj_getI' (pc := 118) (ki := 12) f_M_193 s_57_12 rfl (by decide +kernel) ?_
        refine oj_iconst (pc := 121) (v := 1) ⟨by decide, by decide⟩ (by decide +kernel) ?_
        refine oj_isub (pc := 122) (by decide +kernel) ?_
        refine oj_putI' (pc := 123) (ki := 12) f_M_193 s_57_12 rfl (by decide +kernel) ?_
        have H := okp_lt H
        refine oj_ald0 (pc := 126) (by decide +kernel) ?_
        refine oj_ald0 (pc := 127) (by decide +kernel) ?_
        refine oj_getI' (pc := 128) (ki := 8) f_M_166 s_57_8 rfl (by decide +kernel) ?_
        refine oj_iconst (pc := 131) (v := 1) ⟨by decide, by decide⟩ (by decide +kernel) ?_
        refine oj_iadd (pc := 132) (by decide +kernel) ?_
        refine oj_putI' (pc := 133) (ki := 8) f_M_166 s_57_8 rfl (by decide +kernel) ?_
        have H := okp_lt H
        refine oj_ald0 (pc := 136) (by decide +kernel) ?_
        refine oj_getI' (pc := 137) (ki := 14) f_M_196 s_57_14 rfl (by decide +kernel) ?_
        refine oj_if_ne (pc := 140) (off := 5) (tgt := 145) (by decide +kernel) (by decide) H (fun _ H => ?_) (fun _ H => ?_)
        · refine oj_ald0 (pc := 145) (by decide +kernel) ?_
          refine of_Vv (pc := 146) (as := []) v_M_231 o_57 rfl rfl (Nat.le_of_ble_eq_true rfl) (by decide +kernel) (by decide) rfl (c_M_endsPiece_0 (okp_bind H)) (fun M H => ?_)
          refine oj_goto (pc := 149) (off := -57) (tgt := 92) (by decide +kernel) (by decide) ?_
          have H := i92 _ H
          exact H
        · refine oj_iconst (pc := 143) (v := 1) ⟨by decide, by decide⟩ (by decide +kernel) ?_
          have H := e92 _ H
          have H := e40 _ H
          exact oj_iret (pc := 144) (by decide +kernel) rfl rfl (Nat.le_refl _) (Nat.le_refl _) ⟨rfl, H⟩
    refine oj_ald0 (pc := 40) (by decide +kernel) ?_
    refine of_Vi (pc := 41) (as := []) v_M_172 o_57 rfl rfl (Nat.le_of_ble_eq_true rfl) (by decide +kernel) (by decide) rfl (c_M_here_0 (okp_bind H)) (fun r M H => ?_)
    refine oj_bipush (pc := 44) (v := 33) ⟨by decide, by decide⟩ (by decide +kernel) ?_
    refine oj_icmp_eq (pc := 46) (off := 12) (tgt := 58) (by decide +kernel) (by decide) H (fun _ H => ?_) (fun _ H => ?_)
    · exact h58  _ H
    · refine oj_ald0 (pc := 49) (by decide +kernel) ?_
      refine of_Vi (pc := 50) (as := []) v_M_172 o_57 rfl rfl (Nat.le_of_ble_eq_true rfl) (by decide +kernel) (by decide) rfl (c_M_here_0 (okp_bind H)) (fun r M H => ?_)
      refine oj_bipush (pc := 53) (v := 40) ⟨by decide, by decide⟩ (by decide +kernel) ?_
      refine oj_icmp_ne (pc := 55) (off := 28) (tgt := 83) (by decide +kernel) (by decide) H (fun _ H => ?_) (fun _ H => ?_)
      · refine oj_ald0 (pc := 83) (by decide +kernel) ?_
        refine of_Vi (pc := 84) (as := []) v_M_234 o_57 rfl rfl (Nat.le_of_ble_eq_true rfl) (by decide +kernel) (by decide) rfl (c_M_readsCompared_0 (okp_bind H)) (fun r M H => ?_)
        refine oj_if_ne (pc := 87) (off := 5) (tgt := 92) (by decide +kernel) (by decide) H (fun _ H => ?_) (fun _ H => ?_)
        · exact h92 _  _ (okp_bind H)
        · refine oj_iconst (pc := 90) (v := 0) ⟨by decide, by decide⟩ (by decide +kernel) ?_
          have H := e40 _ H
          exact oj_iret (pc := 91) (by decide +kernel) rfl rfl (Nat.le_refl _) (Nat.le_refl _) ⟨rfl, H⟩
      · exact h58  _ H
  refine oj_ald0 (pc := 0) (by decide +kernel) ?_
  refine of_Vi (pc := 1) (as := []) v_M_172 o_57 rfl rfl (Nat.le_of_ble_eq_true rfl) (by decide +kernel) (by decide) rfl (c_M_here_0 (okp_bind H)) (fun r M H => ?_)
  refine oj_bipush (pc := 4) (v := 40) ⟨by decide, by decide⟩ (by decide +kernel) ?_
  refine oj_icmp_eq (pc := 6) (off := 13) (tgt := 19) (by decide +kernel) (by decide) H (fun _ H => ?_) (fun _ H => ?_)
  · refine oj_ald0 (pc := 19) (by decide +kernel) ?_
    refine oj_iconst (pc := 20) (v := 0) ⟨by decide, by decide⟩ (by decide +kernel) ?_
    refine oj_putI' (pc := 21) (ki := 12) f_M_193 s_57_12 rfl (by decide +kernel) ?_
    have H := okp_lt H
    refine oj_ald0 (pc := 24) (by decide +kernel) ?_
    refine oj_iconst (pc := 25) (v := 0) ⟨by decide, by decide⟩ (by decide +kernel) ?_
    refine oj_putI' (pc := 26) (ki := 14) f_M_196 s_57_14 rfl (by decide +kernel) ?_
    have H := okp_lt H
    refine oj_ald0 (pc := 29) (by decide +kernel) ?_
    refine oj_bipush (pc := 30) (v := 13) ⟨by decide, by decide⟩ (by decide +kernel) ?_
    refine of_Vi (pc := 32) (as := [_]) v_M_206 o_57 rfl rfl (Nat.le_of_ble_eq_true rfl) (by decide +kernel) (by decide) rfl (c_M_opens_0 (okp_bind H)) (fun r M H => ?_)
    refine oj_if_ne (pc := 35) (off := 5) (tgt := 40) (by decide +kernel) (by decide) H (fun _ H => ?_) (fun _ H => ?_)
    · exact h40 _  _ H
    · refine oj_iconst (pc := 38) (v := 0) ⟨by decide, by decide⟩ (by decide +kernel) ?_
      exact oj_iret (pc := 39) (by decide +kernel) rfl rfl (Nat.le_refl _) (Nat.le_refl _) ⟨rfl, H⟩
  · refine oj_ald0 (pc := 9) (by decide +kernel) ?_
    refine oj_iconst (pc := 10) (v := 1) ⟨by decide, by decide⟩ (by decide +kernel) ?_
    refine oj_ald0 (pc := 11) (by decide +kernel) ?_
    refine oj_getI' (pc := 12) (ki := 8) f_M_166 s_57_8 rfl (by decide +kernel) ?_
    refine of_Vi (pc := 15) (as := [_, _]) v_M_179 o_57 rfl rfl (Nat.le_of_ble_eq_true rfl) (by decide +kernel) (by decide) rfl (c_M_wrongAt_0 (okp_bind H)) (fun r M H => ?_)
    exact oj_zret (pc := 18) (by decide +kernel) rfl (Nat.le_refl _) (Nat.le_refl _) H (fun H => ⟨rfl, H⟩)
