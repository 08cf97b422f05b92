/-! walks (by program) -/
theorem c_D_owedInAll_0 {l : Launch} {f : Nat} {M : oM} {K : Int × oM → Prop} (H : okp (p_D_owedInAll f 6 M) K) : oKf l m_D_owedInAll 2 [vr 6] M K := by
  refine oK_intro (lv := [vr 6, vu, vu]) (by decide +kernel) (Nat.le_of_ble_eq_true rfl) rfl ?_
  have h4 : ∀ (g : Nat) (l1 l2 : Int) (M : oM), okp (iter (p_D_owedInAll_L4 f 6) g (l1, l2, M)) K → oJ l m_D_owedInAll (oEf 2 K) 0 0 4 [vr 6, vi l1, vi l2] [] WD M := by
    intro g l1 l2 M H
    have HL := fun hs => iter_J' (Jh := fun s => oJ l m_D_owedInAll (oEf 2 K) 0 0 4 [vr 6, vi s.1, vi s.2.1] [] WD s.2.2) (G := K) hs g (l1, l2, M) H
    refine HL ?_
    intro K4 s i4 e4 H
    obtain ⟨l1, l2, M⟩ := s
    show oJ l m_D_owedInAll (oEf 2 K) 0 0 4 [vr 6, vi l1, vi l2] [] WD M
    refine oj_ld2 (pc := 4) (by decide +kernel) ?_
    refine oj_bipush (pc := 5) (v := 100) ⟨by decide, by decide⟩ (by decide +kernel) ?_
    refine oj_icmp_ge (pc := 7) (off := 18) (tgt := 25) (by decide +kernel) (by decide) H (fun _ H => ?_) (fun _ H => ?_)
    · refine oj_ld1 (pc := 25) (by decide +kernel) ?_
      have H := e4 _ H
      exact oj_iret (pc := 26) (by decide +kernel) rfl rfl (Nat.le_refl _) (Nat.le_refl _) ⟨rfl, H⟩
    · refine oj_ld1 (pc := 10) (by decide +kernel) ?_
      refine oj_ald0 (pc := 11) (by decide +kernel) ?_
      refine oj_getR' (pc := 12) f_D_9 s_6_0 (by decide +kernel) ?_
      refine oj_ld2 (pc := 15) (by decide +kernel) ?_
      refine oj_iald (pc := 16) (NN := 100) a_7 rfl (by decide +kernel) H (fun H => ?_)
      refine oj_iadd (pc := 17) (by decide +kernel) ?_
      refine oj_st1 (pc := 18) (by decide +kernel) (by decide +kernel) ?_
      have H := okp_lt H
      refine oj_inc2 (pc := 19) (d := 1) (by decide +kernel) (by decide +kernel) ?_
      have H := okp_lt H
      refine oj_goto (pc := 22) (off := -18) (tgt := 4) (by decide +kernel) (by decide) ?_
      have H := i4 _ H
      exact H
  refine oj_iconst (pc := 0) (v := 0) ⟨by decide, by decide⟩ (by decide +kernel) ?_
  refine oj_st1 (pc := 1) (by decide +kernel) (by decide +kernel) ?_
  refine oj_iconst (pc := 2) (v := 0) ⟨by decide, by decide⟩ (by decide +kernel) ?_
  refine oj_st2 (pc := 3) (by decide +kernel) (by decide +kernel) ?_
  exact h4 _ _ _ _ H
theorem c_D_owedInAll_1 {l : Launch} {f : Nat} {M : oM} {K : Int × oM → Prop} (H : okp (p_D_owedInAll f 14 M) K) : oKf l m_D_owedInAll 2 [vr 14] M K := by
  refine oK_intro (lv := [vr 14, vu, vu]) (by decide +kernel) (Nat.le_of_ble_eq_true rfl) rfl ?_
  have h4 : ∀ (g : Nat) (l1 l2 : Int) (M : oM), okp (iter (p_D_owedInAll_L4 f 14) g (l1, l2, M)) K → oJ l m_D_owedInAll (oEf 2 K) 0 0 4 [vr 14, vi l1, vi l2] [] WD M := by
    intro g l1 l2 M H
    have HL := fun hs => iter_J' (Jh := fun s => oJ l m_D_owedInAll (oEf 2 K) 0 0 4 [vr 14, vi s.1, vi s.2.1] [] WD s.2.2) (G := K) hs g (l1, l2, M) H
    refine HL ?_
    intro K4 s i4 e4 H
    obtain ⟨l1, l2, M⟩ := s
    show oJ l m_D_owedInAll (oEf 2 K) 0 0 4 [vr 14, vi l1, vi l2] [] WD M
    refine oj_ld2 (pc := 4) (by decide +kernel) ?_
    refine oj_bipush (pc := 5) (v := 100) ⟨by decide, by decide⟩ (by decide +kernel) ?_
    refine oj_icmp_ge (pc := 7) (off := 18) (tgt := 25) (by decide +kernel) (by decide) H (fun _ H => ?_) (fun _ H => ?_)
    · refine oj_ld1 (pc := 25) (by decide +kernel) ?_
      have H := e4 _ H
      exact oj_iret (pc := 26) (by decide +kernel) rfl rfl (Nat.le_refl _) (Nat.le_refl _) ⟨rfl, H⟩
    · refine oj_ld1 (pc := 10) (by decide +kernel) ?_
      refine oj_ald0 (pc := 11) (by decide +kernel) ?_
      refine oj_getR' (pc := 12) f_D_9 s_14_0 (by decide +kernel) ?_
      refine oj_ld2 (pc := 15) (by decide +kernel) ?_
      refine oj_iald (pc := 16) (NN := 100) a_15 rfl (by decide +kernel) H (fun H => ?_)
      refine oj_iadd (pc := 17) (by decide +kernel) ?_
      refine oj_st1 (pc := 18) (by decide +kernel) (by decide +kernel) ?_
      have H := okp_lt H
      refine oj_inc2 (pc := 19) (d := 1) (by decide +kernel) (by decide +kernel) ?_
      have H := okp_lt H
      refine oj_goto (pc := 22) (off := -18) (tgt := 4) (by decide +kernel) (by decide) ?_
      have H := i4 _ H
      exact H
  refine oj_iconst (pc := 0) (v := 0) ⟨by decide, by decide⟩ (by decide +kernel) ?_
  refine oj_st1 (pc := 1) (by decide +kernel) (by decide +kernel) ?_
  refine oj_iconst (pc := 2) (v := 0) ⟨by decide, by decide⟩ (by decide +kernel) ?_
  refine oj_st2 (pc := 3) (by decide +kernel) (by decide +kernel) ?_
  exact h4 _ _ _ _ H
theorem c_O_debts_0 {l : Launch} {f : Nat} {l1 : Int} {M : oM} {K : Int × oM → Prop} (H : okp (p_O_debts f l1 M) K) : oKf l m_O_debts 6 [vr 0, vi l1] M K := by
  refine oK_intro (lv := [vr 0, vi l1, vu]) (by decide +kernel) (Nat.le_of_ble_eq_true rfl) rfl ?_
  refine oj_ald0 (pc := 0) (by decide +kernel) ?_
  refine oj_getR' (pc := 1) f_O_12 s_0_0 (by decide +kernel) ?_
  refine oj_ld1 (pc := 4) (by decide +kernel) ?_
  refine oj_iconst (pc := 5) (v := 1) ⟨by decide, by decide⟩ (by decide +kernel) ?_
  refine oj_sipush (pc := 6) (v := 160) ⟨by decide, by decide⟩ (by decide +kernel) ?_
  refine of_Vi (pc := 9) (as := [_, _, _]) v_O_128 o_1 rfl rfl (Nat.le_of_ble_eq_true rfl) (by decide +kernel) (by decide) rfl (c_T_opens_0 (okp_bind H)) (fun r M H => ?_)
  refine oj_if_ne (pc := 12) (off := 5) (tgt := 17) (by decide +kernel) (by decide) H (fun _ H => ?_) (fun _ H => ?_)
  · refine oj_ald0 (pc := 17) (by decide +kernel) ?_
    refine oj_getR' (pc := 18) f_O_62 s_0_8 (by decide +kernel) ?_
    refine of_Vi (pc := 21) (as := []) v_O_142 o_37 rfl rfl (Nat.le_of_ble_eq_true rfl) (by decide +kernel) (by decide) rfl (c_DR_read_0 (okp_bind H)) (fun r M H => ?_)
    refine oj_st2 (pc := 24) (by decide +kernel) (by decide +kernel) ?_
    refine oj_ald0 (pc := 25) (by decide +kernel) ?_
    refine oj_getR' (pc := 26) f_O_12 s_0_0 (by decide +kernel) ?_
    refine of_Vv (pc := 29) (as := []) v_O_135 o_1 rfl rfl (Nat.le_of_ble_eq_true rfl) (by decide +kernel) (by decide) rfl (c_T_clear_0 (okp_bind H)) (fun M H => ?_)
    refine oj_ld2 (pc := 32) (by decide +kernel) ?_
    refine oj_if_eq (pc := 33) (off := 5) (tgt := 38) (by decide +kernel) (by decide) H (fun _ H => ?_) (fun _ H => ?_)
    · refine oj_ald0 (pc := 38) (by decide +kernel) ?_
      refine oj_getR' (pc := 39) f_O_62 s_0_8 (by decide +kernel) ?_
      refine oj_getR' (pc := 42) f_O_143 s_37_2 (by decide +kernel) ?_
      refine oj_iconst (pc := 45) (v := 0) ⟨by decide, by decide⟩ (by decide +kernel) ?_
      refine oj_ald0 (pc := 46) (by decide +kernel) ?_
      refine oj_getR' (pc := 47) f_O_26 s_0_2 (by decide +kernel) ?_
      refine oj_getR' (pc := 50) f_O_110 s_6_0 (by decide +kernel) ?_
      refine oj_iconst (pc := 53) (v := 0) ⟨by decide, by decide⟩ (by decide +kernel) ?_
      refine oj_bipush (pc := 54) (v := 100) ⟨by decide, by decide⟩ (by decide +kernel) ?_
      refine oj_copy (pc := 56) (n0 := 100) (n1 := 100) l_O_145 acn.1 acn.2.1 acn.2.2 a_38 a_7 rfl rfl (Nat.le_of_ble_eq_true rfl) (Nat.le_of_ble_eq_true rfl) (by decide +kernel) H (fun H => ?_)
      have H := okp_lt H
      refine oj_ald0 (pc := 59) (by decide +kernel) ?_
      refine oj_getR' (pc := 60) f_O_26 s_0_2 (by decide +kernel) ?_
      refine of_Vi (pc := 63) (as := []) v_O_151 o_6 rfl rfl (Nat.le_of_ble_eq_true rfl) (by decide +kernel) (by decide) rfl (c_D_owedInAll_0 (okp_bind H)) (fun r M H => ?_)
      exact oj_iret (pc := 66) (by decide +kernel) rfl rfl (Nat.le_refl _) (Nat.le_refl _) ⟨rfl, H⟩
    · refine oj_ld2 (pc := 36) (by decide +kernel) ?_
      exact oj_iret (pc := 37) (by decide +kernel) rfl rfl (Nat.le_refl _) (Nat.le_refl _) ⟨rfl, H⟩
  · refine oj_iconst (pc := 15) (v := -1) ⟨by decide, by decide⟩ (by decide +kernel) ?_
    exact oj_iret (pc := 16) (by decide +kernel) rfl rfl (Nat.le_refl _) (Nat.le_refl _) ⟨rfl, H⟩
theorem c_O_areHours_0 {l : Launch} {f : Nat} {l0 : Int} {M : oM} {K : Int × oM → Prop} (H : okp (p_O_areHours f l0 M) K) : oKf l m_O_areHours 2 [vi l0] M K := by
  refine oK_intro (lv := [vi l0]) (by decide +kernel) (Nat.le_of_ble_eq_true rfl) rfl ?_
  refine oj_ld0 (pc := 0) (by decide +kernel) ?_
  refine oj_iconst (pc := 1) (v := 1) ⟨by decide, by decide⟩ (by decide +kernel) ?_
  refine oj_icmp_lt (pc := 2) (off := 14) (tgt := 16) (by decide +kernel) (by decide) H (fun _ H => ?_) (fun _ H => ?_)
  · refine oj_iconst (pc := 16) (v := 0) ⟨by decide, by decide⟩ (by decide +kernel) ?_
    exact oj_iret (pc := 17) (by decide +kernel) rfl rfl (Nat.le_refl _) (Nat.le_refl _) ⟨rfl, H⟩
  · refine oj_ld0 (pc := 5) (by decide +kernel) ?_
    refine oj_sipush (pc := 6) (v := 240) ⟨by decide, by decide⟩ (by decide +kernel) ?_
    refine oj_icmp_gt (pc := 9) (off := 7) (tgt := 16) (by decide +kernel) (by decide) H (fun _ H => ?_) (fun _ H => ?_)
    · refine oj_iconst (pc := 16) (v := 0) ⟨by decide, by decide⟩ (by decide +kernel) ?_
      exact oj_iret (pc := 17) (by decide +kernel) rfl rfl (Nat.le_refl _) (Nat.le_refl _) ⟨rfl, H⟩
    · refine oj_iconst (pc := 12) (v := 1) ⟨by decide, by decide⟩ (by decide +kernel) ?_
      refine oj_goto (pc := 13) (off := 4) (tgt := 17) (by decide +kernel) (by decide) ?_
      exact oj_iret (pc := 17) (by decide +kernel) rfl rfl (Nat.le_refl _) (Nat.le_refl _) ⟨rfl, H⟩
theorem c_D_draw_0 {l : Launch} {f : Nat} {M : oM} {K : Int × oM → Prop} (H : okp (p_D_draw f 14 M) K) : oKf l m_D_draw 2 [vr 14] M K := by
  refine oK_intro (lv := [vr 14]) (by decide +kernel) (Nat.le_of_ble_eq_true rfl) rfl ?_
  refine oj_ald0 (pc := 0) (by decide +kernel) ?_
  refine oj_sipush (pc := 1) (v := 25173) ⟨by decide, by decide⟩ (by decide +kernel) ?_
  refine oj_ald0 (pc := 4) (by decide +kernel) ?_
  refine oj_getI' (pc := 5) (ki := 11) f_D_31 s_14_11 rfl (by decide +kernel) ?_
  refine oj_imul (pc := 8) (by decide +kernel) ?_
  refine oj_sipush (pc := 9) (v := 13849) ⟨by decide, by decide⟩ (by decide +kernel) ?_
  refine oj_iadd (pc := 12) (by decide +kernel) ?_
  refine oj_ldc (pc := 13) (v := 65535) k_D_71 ⟨by decide, by decide⟩ (by decide +kernel) ?_
  refine oj_iand (pc := 15) (by decide +kernel) ?_
  refine oj_putI' (pc := 16) (ki := 11) f_D_31 s_14_11 rfl (by decide +kernel) ?_
  have H := okp_lt H
  refine oj_ald0 (pc := 19) (by decide +kernel) ?_
  refine oj_getI' (pc := 20) (ki := 11) f_D_31 s_14_11 rfl (by decide +kernel) ?_
  refine oj_bipush (pc := 23) (v := 10) ⟨by decide, by decide⟩ (by decide +kernel) ?_
  refine oj_irem (pc := 25) (by decide +kernel) H (fun _ H => ?_)
  exact oj_iret (pc := 26) (by decide +kernel) rfl rfl (Nat.le_refl _) (Nat.le_refl _) ⟨rfl, H⟩
theorem c_D_draw_1 {l : Launch} {f : Nat} {M : oM} {K : Int × oM → Prop} (H : okp (p_D_draw f 6 M) K) : oKf l m_D_draw 2 [vr 6] M K := by
  refine oK_intro (lv := [vr 6]) (by decide +kernel) (Nat.le_of_ble_eq_true rfl) rfl ?_
  refine oj_ald0 (pc := 0) (by decide +kernel) ?_
  refine oj_sipush (pc := 1) (v := 25173) ⟨by decide, by decide⟩ (by decide +kernel) ?_
  refine oj_ald0 (pc := 4) (by decide +kernel) ?_
  refine oj_getI' (pc := 5) (ki := 11) f_D_31 s_6_11 rfl (by decide +kernel) ?_
  refine oj_imul (pc := 8) (by decide +kernel) ?_
  refine oj_sipush (pc := 9) (v := 13849) ⟨by decide, by decide⟩ (by decide +kernel) ?_
  refine oj_iadd (pc := 12) (by decide +kernel) ?_
  refine oj_ldc (pc := 13) (v := 65535) k_D_71 ⟨by decide, by decide⟩ (by decide +kernel) ?_
  refine oj_iand (pc := 15) (by decide +kernel) ?_
  refine oj_putI' (pc := 16) (ki := 11) f_D_31 s_6_11 rfl (by decide +kernel) ?_
  have H := okp_lt H
  refine oj_ald0 (pc := 19) (by decide +kernel) ?_
  refine oj_getI' (pc := 20) (ki := 11) f_D_31 s_6_11 rfl (by decide +kernel) ?_
  refine oj_bipush (pc := 23) (v := 10) ⟨by decide, by decide⟩ (by decide +kernel) ?_
  refine oj_irem (pc := 25) (by decide +kernel) H (fun _ H => ?_)
  exact oj_iret (pc := 26) (by decide +kernel) rfl rfl (Nat.le_refl _) (Nat.le_refl _) ⟨rfl, H⟩
theorem c_L_joined_0 {l : Launch} {f : Nat} {l0 l1 l2 : Int} {M : oM} {K : Int × oM → Prop} (H : okp (p_L_joined f l0 l1 l2 M) K) : oKf l m_L_joined 2 [vi l0, vi l1, vi l2] M K := by
  refine oK_intro (lv := [vi l0, vi l1, vi l2]) (by decide +kernel) (Nat.le_of_ble_eq_true rfl) rfl ?_
  refine oj_ld0 (pc := 0) (by decide +kernel) ?_
  refine oj_case (c := _ = 37) H (fun c0 H => ?_) (fun c0 H => ?_)
  · refine oj_look (pc := 1) (dflt := 125) (ps := #[(37, 91), (42, 75), (43, 67), (45, 71), (47, 79), (60, 103), (62, 114)]) (len := 67) (off := 91) (tgt := 92) (by decide +kernel) (by decide +kernel) (by rw [c0]; decide +kernel) (by decide) ?_
    refine oj_ld2 (pc := 92) (by decide +kernel) ?_
    refine oj_if_ne (pc := 93) (off := 7) (tgt := 100) (by decide +kernel) (by decide) H (fun _ H => ?_) (fun _ H => ?_)
    · refine oj_ld1 (pc := 100) (by decide +kernel) ?_
      refine oj_ld2 (pc := 101) (by decide +kernel) ?_
      refine oj_irem (pc := 102) (by decide +kernel) H (fun _ H => ?_)
      exact oj_iret (pc := 103) (by decide +kernel) rfl rfl (Nat.le_refl _) (Nat.le_refl _) ⟨rfl, H⟩
    · refine oj_iconst (pc := 96) (v := 0) ⟨by decide, by decide⟩ (by decide +kernel) ?_
      refine oj_goto (pc := 97) (off := 6) (tgt := 103) (by decide +kernel) (by decide) ?_
      exact oj_iret (pc := 103) (by decide +kernel) rfl rfl (Nat.le_refl _) (Nat.le_refl _) ⟨rfl, H⟩
  refine oj_case (c := _ = 42) H (fun c1 H => ?_) (fun c1 H => ?_)
  · refine oj_look (pc := 1) (dflt := 125) (ps := #[(37, 91), (42, 75), (43, 67), (45, 71), (47, 79), (60, 103), (62, 114)]) (len := 67) (off := 75) (tgt := 76) (by decide +kernel) (by decide +kernel) (by rw [c1]; decide +kernel) (by decide) ?_
    refine oj_ld1 (pc := 76) (by decide +kernel) ?_
    refine oj_ld2 (pc := 77) (by decide +kernel) ?_
    refine oj_imul (pc := 78) (by decide +kernel) ?_
    exact oj_iret (pc := 79) (by decide +kernel) rfl rfl (Nat.le_refl _) (Nat.le_refl _) ⟨rfl, H⟩
  refine oj_case (c := _ = 43) H (fun c2 H => ?_) (fun c2 H => ?_)
  · refine oj_look (pc := 1) (dflt := 125) (ps := #[(37, 91), (42, 75), (43, 67), (45, 71), (47, 79), (60, 103), (62, 114)]) (len := 67) (off := 67) (tgt := 68) (by decide +kernel) (by decide +kernel) (by rw [c2]; decide +kernel) (by decide) ?_
    refine oj_ld1 (pc := 68) (by decide +kernel) ?_
    refine oj_ld2 (pc := 69) (by decide +kernel) ?_
    refine oj_iadd (pc := 70) (by decide +kernel) ?_
    exact oj_iret (pc := 71) (by decide +kernel) rfl rfl (Nat.le_refl _) (Nat.le_refl _) ⟨rfl, H⟩
  refine oj_case (c := _ = 45) H (fun c3 H => ?_) (fun c3 H => ?_)
  · refine oj_look (pc := 1) (dflt := 125) (ps := #[(37, 91), (42, 75), (43, 67), (45, 71), (47, 79), (60, 103), (62, 114)]) (len := 67) (off := 71) (tgt := 72) (by decide +kernel) (by decide +kernel) (by rw [c3]; decide +kernel) (by decide) ?_
    refine oj_ld1 (pc := 72) (by decide +kernel) ?_
    refine oj_ld2 (pc := 73) (by decide +kernel) ?_
    refine oj_isub (pc := 74) (by decide +kernel) ?_
    exact oj_iret (pc := 75) (by decide +kernel) rfl rfl (Nat.le_refl _) (Nat.le_refl _) ⟨rfl, H⟩
  refine oj_case (c := _ = 47) H (fun c4 H => ?_) (fun c4 H => ?_)
  · refine oj_look (pc := 1) (dflt := 125) (ps := #[(37, 91), (42, 75), (43, 67), (45, 71), (47, 79), (60, 103), (62, 114)]) (len := 67) (off := 79) (tgt := 80) (by decide +kernel) (by decide +kernel) (by rw [c4]; decide +kernel) (by decide) ?_
    refine oj_ld2 (pc := 80) (by decide +kernel) ?_
    refine oj_if_ne (pc := 81) (off := 7) (tgt := 88) (by decide +kernel) (by decide) H (fun _ H => ?_) (fun _ H => ?_)
    · refine oj_ld1 (pc := 88) (by decide +kernel) ?_
      refine oj_ld2 (pc := 89) (by decide +kernel) ?_
      refine oj_idiv (pc := 90) (by decide +kernel) H (fun _ H => ?_)
      exact oj_iret (pc := 91) (by decide +kernel) rfl rfl (Nat.le_refl _) (Nat.le_refl _) ⟨rfl, H⟩
    · refine oj_iconst (pc := 84) (v := 0) ⟨by decide, by decide⟩ (by decide +kernel) ?_
      refine oj_goto (pc := 85) (off := 6) (tgt := 91) (by decide +kernel) (by decide) ?_
      exact oj_iret (pc := 91) (by decide +kernel) rfl rfl (Nat.le_refl _) (Nat.le_refl _) ⟨rfl, H⟩
  refine oj_case (c := _ = 60) H (fun c5 H => ?_) (fun c5 H => ?_)
  · refine oj_look (pc := 1) (dflt := 125) (ps := #[(37, 91), (42, 75), (43, 67), (45, 71), (47, 79), (60, 103), (62, 114)]) (len := 67) (off := 103) (tgt := 104) (by decide +kernel) (by decide +kernel) (by rw [c5]; decide +kernel) (by decide) ?_
    refine oj_ld1 (pc := 104) (by decide +kernel) ?_
    refine oj_ld2 (pc := 105) (by decide +kernel) ?_
    refine oj_icmp_ge (pc := 106) (off := 7) (tgt := 113) (by decide +kernel) (by decide) H (fun _ H => ?_) (fun _ H => ?_)
    · refine oj_iconst (pc := 113) (v := 0) ⟨by decide, by decide⟩ (by decide +kernel) ?_
      exact oj_iret (pc := 114) (by decide +kernel) rfl rfl (Nat.le_refl _) (Nat.le_refl _) ⟨rfl, H⟩
    · refine oj_iconst (pc := 109) (v := 1) ⟨by decide, by decide⟩ (by decide +kernel) ?_
      refine oj_goto (pc := 110) (off := 4) (tgt := 114) (by decide +kernel) (by decide) ?_
      exact oj_iret (pc := 114) (by decide +kernel) rfl rfl (Nat.le_refl _) (Nat.le_refl _) ⟨rfl, H⟩
  refine oj_case (c := _ = 62) H (fun c6 H => ?_) (fun c6 H => ?_)
  · refine oj_look (pc := 1) (dflt := 125) (ps := #[(37, 91), (42, 75), (43, 67), (45, 71), (47, 79), (60, 103), (62, 114)]) (len := 67) (off := 114) (tgt := 115) (by decide +kernel) (by decide +kernel) (by rw [c6]; decide +kernel) (by decide) ?_
    refine oj_ld1 (pc := 115) (by decide +kernel) ?_
    refine oj_ld2 (pc := 116) (by decide +kernel) ?_
    refine oj_icmp_le (pc := 117) (off := 7) (tgt := 124) (by decide +kernel) (by decide) H (fun _ H => ?_) (fun _ H => ?_)
    · refine oj_iconst (pc := 124) (v := 0) ⟨by decide, by decide⟩ (by decide +kernel) ?_
      exact oj_iret (pc := 125) (by decide +kernel) rfl rfl (Nat.le_refl _) (Nat.le_refl _) ⟨rfl, H⟩
    · refine oj_iconst (pc := 120) (v := 1) ⟨by decide, by decide⟩ (by decide +kernel) ?_
      refine oj_goto (pc := 121) (off := 4) (tgt := 125) (by decide +kernel) (by decide) ?_
      exact oj_iret (pc := 125) (by decide +kernel) rfl rfl (Nat.le_refl _) (Nat.le_refl _) ⟨rfl, H⟩
  refine oj_look (pc := 1) (dflt := 125) (ps := #[(37, 91), (42, 75), (43, 67), (45, 71), (47, 79), (60, 103), (62, 114)]) (len := 67) (off := 125) (tgt := 126) (by decide +kernel) (by decide +kernel) (by simp only [Op.lookupswitch.offset]; repeat (rw [if_neg (by omega)])) (by decide) ?_
  refine oj_ld1 (pc := 126) (by decide +kernel) ?_
  refine oj_ld2 (pc := 127) (by decide +kernel) ?_
  refine oj_icmp_ne (pc := 128) (off := 7) (tgt := 135) (by decide +kernel) (by decide) H (fun _ H => ?_) (fun _ H => ?_)
  · refine oj_iconst (pc := 135) (v := 0) ⟨by decide, by decide⟩ (by decide +kernel) ?_
    exact oj_iret (pc := 136) (by decide +kernel) rfl rfl (Nat.le_refl _) (Nat.le_refl _) ⟨rfl, H⟩
  · refine oj_iconst (pc := 131) (v := 1) ⟨by decide, by decide⟩ (by decide +kernel) ?_
    refine oj_goto (pc := 132) (off := 4) (tgt := 136) (by decide +kernel) (by decide) ?_
    exact oj_iret (pc := 136) (by decide +kernel) rfl rfl (Nat.le_refl _) (Nat.le_refl _) ⟨rfl, H⟩
theorem c_L_reckoned_0 {l : Launch} {f : Nat} {l1 l2 : Int} {M : oM} {K : Int × oM → Prop} (H : okp (p_L_reckoned f l1 l2 M) K) : oKf l m_L_reckoned 3 [vr 18, vi l1, vi l2] M K := by
  refine oK_intro (lv := [vr 18, vi l1, vi l2, vu, vu, vu, vu, vu, vu]) (by decide +kernel) (Nat.le_of_ble_eq_true rfl) rfl ?_
  have h8 : ∀ (g : Nat) (l2 l3 l4 l5 : Int) (M : oM), okp (iter (p_L_reckoned_L8 f l2) g (l3, l4, l5, M)) K → oJ l m_L_reckoned (oEf 3 K) 0 0 8 [vr 18, vu, vi l2, vi l3, vi l4, vi l5, vu, vu, vu] [] WD M := by
    intro g l2 l3 l4 l5 M H
    have HL := fun hs => iter_J' (Jh := fun s => oJ l m_L_reckoned (oEf 3 K) 0 0 8 [vr 18, vu, vi l2, vi s.1, vi s.2.1, vi s.2.2.1, vu, vu, vu] [] WD s.2.2.2) (G := K) hs g (l3, l4, l5, M) H
    refine HL ?_
    intro K8 s i8 e8 H
    obtain ⟨l3, l4, l5, M⟩ := s
    show oJ l m_L_reckoned (oEf 3 K) 0 0 8 [vr 18, vu, vi l2, vi l3, vi l4, vi l5, vu, vu, vu] [] WD M
    have h292 : ∀ (l3 : Int) (M : oM), okp (p_L_reckoned_B292_8 f l3 M) K8 → oJ l m_L_reckoned (oEf 3 K) 0 0 292 [vr 18, vu, vu, vi l3, vu, vu, vu, vu, vu] [] WD M := by
      intro l3 M H
      refine oj_ld3 (pc := 292) (by decide +kernel) ?_
      refine oj_iconst (pc := 293) (v := 1) ⟨by decide, by decide⟩ (by decide +kernel) ?_
      refine oj_icmp_ne (pc := 294) (off := 12) (tgt := 306) (by decide +kernel) (by decide) H (fun _ H => ?_) (fun _ H => ?_)
      · refine oj_iconst (pc := 306) (v := 0) ⟨by decide, by decide⟩ (by decide +kernel) ?_
        have H := e8 _ H
        exact oj_iret (pc := 307) (by decide +kernel) rfl rfl (Nat.le_refl _) (Nat.le_refl _) ⟨rfl, H⟩
      · refine oj_ald0 (pc := 297) (by decide +kernel) ?_
        refine oj_getR' (pc := 298) f_L_33 s_18_8 (by decide +kernel) ?_
        refine oj_iconst (pc := 301) (v := 0) ⟨by decide, by decide⟩ (by decide +kernel) ?_
        refine oj_iald (pc := 302) (NN := 64) a_26 rfl (by decide +kernel) H (fun H => ?_)
        refine oj_goto (pc := 303) (off := 4) (tgt := 307) (by decide +kernel) (by decide) ?_
        have H := e8 _ H
        exact oj_iret (pc := 307) (by decide +kernel) rfl rfl (Nat.le_refl _) (Nat.le_refl _) ⟨rfl, H⟩
    have h286 : ∀ (l3 l4 l5 : Int) (M : oM), okp (p_L_reckoned_B286_8 f l2 l3 l4 l5 M) K8 → oJ l m_L_reckoned (oEf 3 K) 0 0 286 [vr 18, vu, vi l2, vi l3, vi l4, vi l5, vu, vu, vu] [] WD M := by
      intro l3 l4 l5 M H
      refine oj_inc5 (pc := 286) (d := 1) (by decide +kernel) (by decide +kernel) ?_
      have H := okp_lt H
      refine oj_goto (pc := 289) (off := -281) (tgt := 8) (by decide +kernel) (by decide) ?_
      have H := i8 _ H
      exact H
    have h105 : ∀ (l3 l4 l5 s1 s2 : Int) (M : oM), okp (p_L_reckoned_B105_8 f l2 l3 l4 l5 s1 s2 M) K8 → oJ l m_L_reckoned (oEf 3 K) 0 0 105 [vr 18, vu, vi l2, vi l3, vi l4, vi l5, vu, vu, vu] [vi s2, vi s1, vr 26] WD M := by
      intro l3 l4 l5 s1 s2 M H
      refine oj_iast (pc := 105) (NN := 64) a_26 rfl (by decide +kernel) H (fun H => ?_)
      have H := okp_lt H
      refine oj_inc3 (pc := 106) (d := 1) (by decide +kernel) (by decide +kernel) ?_
      have H := okp_lt H
      refine oj_goto (pc := 109) (off := 177) (tgt := 286) (by decide +kernel) (by decide) ?_
      exact h286 _ _ _ _ H
    have h70 : ∀ (l3 l4 l5 l6 l7 : Int) (M : oM), okp (p_L_reckoned_B70_8 f l2 l3 l4 l5 l6 l7 M) K8 → oJ l m_L_reckoned (oEf 3 K) 0 0 70 [vr 18, vu, vi l2, vi l3, vi l4, vi l5, vi l6, vi l7, vu] [] WD M := by
      intro l3 l4 l5 l6 l7 M H
      refine oj_ld3 (pc := 70) (by decide +kernel) ?_
      refine oj_bipush (pc := 71) (v := 64) ⟨by decide, by decide⟩ (by decide +kernel) ?_
      refine oj_icmp_lt (pc := 73) (off := 5) (tgt := 78) (by decide +kernel) (by decide) H (fun _ H => ?_) (fun _ H => ?_)
      · refine oj_ald0 (pc := 78) (by decide +kernel) ?_
        refine oj_getR' (pc := 79) f_L_33 s_18_8 (by decide +kernel) ?_
        refine oj_ld3 (pc := 82) (by decide +kernel) ?_
        refine oj_ld6 (pc := 83) (by decide +kernel) ?_
        refine oj_bipush (pc := 85) (v := 48) ⟨by decide, by decide⟩ (by decide +kernel) ?_
        refine oj_icmp_ne (pc := 87) (off := 8) (tgt := 95) (by decide +kernel) (by decide) H (fun _ H => ?_) (fun _ H => ?_)
        · refine oj_ald0 (pc := 95) (by decide +kernel) ?_
          refine oj_getR' (pc := 96) f_L_30 s_18_7 (by decide +kernel) ?_
          refine oj_ld7 (pc := 99) (by decide +kernel) ?_
          refine oj_bipush (pc := 101) (v := 7) ⟨by decide, by decide⟩ (by decide +kernel) ?_
          refine oj_iand (pc := 103) (by decide +kernel) ?_
          refine oj_iald (pc := 104) (NN := 8) a_25 rfl (by decide +kernel) H (fun H => ?_)
          refine oj_le (lv' := [_, vu, _, _, _, _, vu, vu, vu]) ⟨Or.inr rfl, Or.inr rfl, Or.inr rfl, Or.inr rfl, Or.inr rfl, Or.inr rfl, Or.inl rfl, Or.inl rfl, Or.inr rfl, trivial⟩ ?_
          exact h105 _ _ _ _ _ _ H
        · refine oj_ld7 (pc := 90) (by decide +kernel) ?_
          refine oj_goto (pc := 92) (off := 13) (tgt := 105) (by decide +kernel) (by decide) ?_
          refine oj_le (lv' := [_, vu, _, _, _, _, vu, vu, vu]) ⟨Or.inr rfl, Or.inr rfl, Or.inr rfl, Or.inr rfl, Or.inr rfl, Or.inr rfl, Or.inl rfl, Or.inl rfl, Or.inr rfl, trivial⟩ ?_
          exact h105 _ _ _ _ _ _ H
      · refine oj_iconst (pc := 76) (v := 0) ⟨by decide, by decide⟩ (by decide +kernel) ?_
        have H := e8 _ H
        exact oj_iret (pc := 77) (by decide +kernel) rfl rfl (Nat.le_refl _) (Nat.le_refl _) ⟨rfl, H⟩
    have h196 : ∀ (l3 l4 l5 l7 s0 s1 : Int) (M : oM), okp (p_L_reckoned_B196_8 f l2 l3 l4 l5 l7 s0 s1 M) K8 → oJ l m_L_reckoned (oEf 3 K) 0 0 196 [vr 18, vu, vi l2, vi l3, vi l4, vi l5, vu, vi l7, vu] [vi s1, vi s0] WD M := by
      intro l3 l4 l5 l7 s0 s1 M H
      refine oj_icmp_ne (pc := 196) (off := 10) (tgt := 206) (by decide +kernel) (by decide) H (fun _ H => ?_) (fun _ H => ?_)
      · refine oj_inc3 (pc := 206) (d := -1) (by decide +kernel) (by decide +kernel) ?_
        have H := okp_lt H
        refine oj_goto (pc := 209) (off := 77) (tgt := 286) (by decide +kernel) (by decide) ?_
        refine oj_le (lv' := [_, vu, _, _, _, _, vu, vu, vu]) ⟨Or.inr rfl, Or.inr rfl, Or.inr rfl, Or.inr rfl, Or.inr rfl, Or.inr rfl, Or.inr rfl, Or.inl rfl, Or.inr rfl, trivial⟩ ?_
        exact h286 _ _ _ _ H
      · refine oj_ld7 (pc := 199) (by decide +kernel) ?_
        refine oj_st4 (pc := 201) (by decide +kernel) (by decide +kernel) ?_
        refine oj_goto (pc := 203) (off := 83) (tgt := 286) (by decide +kernel) (by decide) ?_
        refine oj_le (lv' := [_, vu, _, _, _, _, vu, vu, vu]) ⟨Or.inr rfl, Or.inr rfl, Or.inr rfl, Or.inr rfl, Or.inr rfl, Or.inr rfl, Or.inr rfl, Or.inl rfl, Or.inr rfl, trivial⟩ ?_
        exact h286 _ _ _ _ H
    have h184 : ∀ (l3 l4 l5 l6 l7 s0 : Int) (M : oM), okp (p_L_reckoned_B184_8 f l2 l3 l4 l5 l6 l7 s0 M) K8 → oJ l m_L_reckoned (oEf 3 K) 0 0 184 [vr 18, vu, vi l2, vi l3, vi l4, vi l5, vi l6, vi l7, vu] [vi s0] WD M := by
      intro l3 l4 l5 l6 l7 s0 M H
      refine oj_ld6 (pc := 184) (by decide +kernel) ?_
      refine oj_bipush (pc := 186) (v := 124) ⟨by decide, by decide⟩ (by decide +kernel) ?_
      refine oj_icmp_ne (pc := 188) (off := 7) (tgt := 195) (by decide +kernel) (by decide) H (fun _ H => ?_) (fun _ H => ?_)
      · refine oj_iconst (pc := 195) (v := 0) ⟨by decide, by decide⟩ (by decide +kernel) ?_
        refine oj_le (lv' := [_, vu, _, _, _, _, vu, _, vu]) ⟨Or.inr rfl, Or.inr rfl, Or.inr rfl, Or.inr rfl, Or.inr rfl, Or.inr rfl, Or.inl rfl, Or.inr rfl, Or.inr rfl, trivial⟩ ?_
        exact h196 _ _ _ _ _ _ _ H
      · refine oj_iconst (pc := 191) (v := 1) ⟨by decide, by decide⟩ (by decide +kernel) ?_
        refine oj_goto (pc := 192) (off := 4) (tgt := 196) (by decide +kernel) (by decide) ?_
        refine oj_le (lv' := [_, vu, _, _, _, _, vu, _, vu]) ⟨Or.inr rfl, Or.inr rfl, Or.inr rfl, Or.inr rfl, Or.inr rfl, Or.inr rfl, Or.inl rfl, Or.inr rfl, Or.inr rfl, trivial⟩ ?_
        exact h196 _ _ _ _ _ _ _ H
    have h133 : ∀ (l3 l4 l5 l6 l7 : Int) (M : oM), okp (p_L_reckoned_B133_8 f l2 l3 l4 l5 l6 l7 M) K8 → oJ l m_L_reckoned (oEf 3 K) 0 0 133 [vr 18, vu, vi l2, vi l3, vi l4, vi l5, vi l6, vi l7, vu] [] WD M := by
      intro l3 l4 l5 l6 l7 M H
      refine oj_ld3 (pc := 133) (by decide +kernel) ?_
      refine oj_iconst (pc := 134) (v := 1) ⟨by decide, by decide⟩ (by decide +kernel) ?_
      refine oj_icmp_ge (pc := 135) (off := 5) (tgt := 140) (by decide +kernel) (by decide) H (fun _ H => ?_) (fun _ H => ?_)
      · refine oj_ld6 (pc := 140) (by decide +kernel) ?_
        refine oj_bipush (pc := 142) (v := 33) ⟨by decide, by decide⟩ (by decide +kernel) ?_
        refine oj_icmp_ne (pc := 144) (off := 24) (tgt := 168) (by decide +kernel) (by decide) H (fun _ H => ?_) (fun _ H => ?_)
        · refine oj_ald0 (pc := 168) (by decide +kernel) ?_
          refine oj_getR' (pc := 169) f_L_33 s_18_8 (by decide +kernel) ?_
          refine oj_ld3 (pc := 172) (by decide +kernel) ?_
          refine oj_iconst (pc := 173) (v := 1) ⟨by decide, by decide⟩ (by decide +kernel) ?_
          refine oj_isub (pc := 174) (by decide +kernel) ?_
          refine oj_iald (pc := 175) (NN := 64) a_26 rfl (by decide +kernel) H (fun H => ?_)
          refine oj_if_eq (pc := 176) (off := 7) (tgt := 183) (by decide +kernel) (by decide) H (fun _ H => ?_) (fun _ H => ?_)
          · refine oj_iconst (pc := 183) (v := 0) ⟨by decide, by decide⟩ (by decide +kernel) ?_
            exact h184 _ _ _ _ _ _ _ H
          · refine oj_iconst (pc := 179) (v := 1) ⟨by decide, by decide⟩ (by decide +kernel) ?_
            refine oj_goto (pc := 180) (off := 4) (tgt := 184) (by decide +kernel) (by decide) ?_
            exact h184 _ _ _ _ _ _ _ H
        · refine oj_ald0 (pc := 147) (by decide +kernel) ?_
          refine oj_getR' (pc := 148) f_L_33 s_18_8 (by decide +kernel) ?_
          refine oj_ld3 (pc := 151) (by decide +kernel) ?_
          refine oj_iconst (pc := 152) (v := 1) ⟨by decide, by decide⟩ (by decide +kernel) ?_
          refine oj_isub (pc := 153) (by decide +kernel) ?_
          refine oj_iconst (pc := 154) (v := 1) ⟨by decide, by decide⟩ (by decide +kernel) ?_
          refine oj_ald0 (pc := 155) (by decide +kernel) ?_
          refine oj_getR' (pc := 156) f_L_33 s_18_8 (by decide +kernel) ?_
          refine oj_ld3 (pc := 159) (by decide +kernel) ?_
          refine oj_iconst (pc := 160) (v := 1) ⟨by decide, by decide⟩ (by decide +kernel) ?_
          refine oj_isub (pc := 161) (by decide +kernel) ?_
          refine oj_iald (pc := 162) (NN := 64) a_26 rfl (by decide +kernel) H (fun H => ?_)
          refine oj_isub (pc := 163) (by decide +kernel) ?_
          refine oj_iast (pc := 164) (NN := 64) a_26 rfl (by decide +kernel) H (fun H => ?_)
          have H := okp_lt H
          refine oj_goto (pc := 165) (off := 121) (tgt := 286) (by decide +kernel) (by decide) ?_
          refine oj_le (lv' := [_, vu, _, _, _, _, vu, vu, vu]) ⟨Or.inr rfl, Or.inr rfl, Or.inr rfl, Or.inr rfl, Or.inr rfl, Or.inr rfl, Or.inl rfl, Or.inl rfl, Or.inr rfl, trivial⟩ ?_
          exact h286 _ _ _ _ H
      · refine oj_iconst (pc := 138) (v := 0) ⟨by decide, by decide⟩ (by decide +kernel) ?_
        have H := e8 _ H
        exact oj_iret (pc := 139) (by decide +kernel) rfl rfl (Nat.le_refl _) (Nat.le_refl _) ⟨rfl, H⟩
    have h256 : ∀ (l3 l4 l5 l6 : Int) (M : oM), okp (p_L_reckoned_B256_8 f l2 l3 l4 l5 l6 M) K8 → oJ l m_L_reckoned (oEf 3 K) 0 0 256 [vr 18, vu, vi l2, vi l3, vi l4, vi l5, vi l6, vu, vu] [] WD M := by
      intro l3 l4 l5 l6 M H
      refine oj_inc3 (pc := 256) (d := -1) (by decide +kernel) (by decide +kernel) ?_
      have H := okp_lt H
      refine oj_ald0 (pc := 259) (by decide +kernel) ?_
      refine oj_getR' (pc := 260) f_L_33 s_18_8 (by decide +kernel) ?_
      refine oj_ld3 (pc := 263) (by decide +kernel) ?_
      refine oj_iconst (pc := 264) (v := 1) ⟨by decide, by decide⟩ (by decide +kernel) ?_
      refine oj_isub (pc := 265) (by decide +kernel) ?_
      refine oj_ld6 (pc := 266) (by decide +kernel) ?_
      refine oj_ald0 (pc := 268) (by decide +kernel) ?_
      refine oj_getR' (pc := 269) f_L_33 s_18_8 (by decide +kernel) ?_
      refine oj_ld3 (pc := 272) (by decide +kernel) ?_
      refine oj_iconst (pc := 273) (v := 1) ⟨by decide, by decide⟩ (by decide +kernel) ?_
      refine oj_isub (pc := 274) (by decide +kernel) ?_
      refine oj_iald (pc := 275) (NN := 64) a_26 rfl (by decide +kernel) H (fun H => ?_)
      refine oj_ald0 (pc := 276) (by decide +kernel) ?_
      refine oj_getR' (pc := 277) f_L_33 s_18_8 (by decide +kernel) ?_
      refine oj_ld3 (pc := 280) (by decide +kernel) ?_
      refine oj_iald (pc := 281) (NN := 64) a_26 rfl (by decide +kernel) H (fun H => ?_)
      refine of_Si (pc := 282) (as := [_, _, _]) v_L_101 rfl rfl (Nat.le_of_ble_eq_true rfl) (by decide +kernel) (by decide) rfl (c_L_joined_0 (okp_bind H)) (fun r M H => ?_)
      refine oj_iast (pc := 285) (NN := 64) a_26 rfl (by decide +kernel) H (fun H => ?_)
      have H := okp_lt H
      refine oj_le (lv' := [_, vu, _, _, _, _, vu, vu, vu]) ⟨Or.inr rfl, Or.inr rfl, Or.inr rfl, Or.inr rfl, Or.inr rfl, Or.inr rfl, Or.inl rfl, Or.inr rfl, Or.inr rfl, trivial⟩ ?_
      exact h286 _ _ _ _ H
    have h231 : ∀ (l3 l4 l5 l6 s0 : Int) (M : oM), okp (p_L_reckoned_B231_8 f l2 l3 l4 l5 l6 s0 M) K8 → oJ l m_L_reckoned (oEf 3 K) 0 0 231 [vr 18, vu, vi l2, vi l3, vi l4, vi l5, vi l6, vu, vu] [vi s0] WD M := by
      intro l3 l4 l5 l6 s0 M H
      refine oj_st8 (pc := 231) (by decide +kernel) (by decide +kernel) ?_
      refine oj_ld3 (pc := 233) (by decide +kernel) ?_
      refine oj_iconst (pc := 234) (v := 2) ⟨by decide, by decide⟩ (by decide +kernel) ?_
      refine oj_icmp_lt (pc := 235) (off := 19) (tgt := 254) (by decide +kernel) (by decide) H (fun _ H => ?_) (fun _ H => ?_)
      · refine oj_iconst (pc := 254) (v := 0) ⟨by decide, by decide⟩ (by decide +kernel) ?_
        have H := e8 _ H
        exact oj_iret (pc := 255) (by decide +kernel) rfl rfl (Nat.le_refl _) (Nat.le_refl _) ⟨rfl, H⟩
      · refine oj_ld8 (pc := 238) (by decide +kernel) ?_
        refine oj_if_eq (pc := 240) (off := 16) (tgt := 256) (by decide +kernel) (by decide) H (fun _ H => ?_) (fun _ H => ?_)
        · refine oj_le (lv' := [_, vu, _, _, _, _, _, vu, vu]) ⟨Or.inr rfl, Or.inr rfl, Or.inr rfl, Or.inr rfl, Or.inr rfl, Or.inr rfl, Or.inr rfl, Or.inr rfl, Or.inl rfl, trivial⟩ ?_
          exact h256 _ _ _ _ _ H
        · refine oj_ald0 (pc := 243) (by decide +kernel) ?_
          refine oj_getR' (pc := 244) f_L_33 s_18_8 (by decide +kernel) ?_
          refine oj_ld3 (pc := 247) (by decide +kernel) ?_
          refine oj_iconst (pc := 248) (v := 1) ⟨by decide, by decide⟩ (by decide +kernel) ?_
          refine oj_isub (pc := 249) (by decide +kernel) ?_
          refine oj_iald (pc := 250) (NN := 64) a_26 rfl (by decide +kernel) H (fun H => ?_)
          refine oj_if_ne (pc := 251) (off := 5) (tgt := 256) (by decide +kernel) (by decide) H (fun _ H => ?_) (fun _ H => ?_)
          · refine oj_le (lv' := [_, vu, _, _, _, _, _, vu, vu]) ⟨Or.inr rfl, Or.inr rfl, Or.inr rfl, Or.inr rfl, Or.inr rfl, Or.inr rfl, Or.inr rfl, Or.inr rfl, Or.inl rfl, trivial⟩ ?_
            exact h256 _ _ _ _ _ H
          · refine oj_iconst (pc := 254) (v := 0) ⟨by decide, by decide⟩ (by decide +kernel) ?_
            have H := e8 _ H
            exact oj_iret (pc := 255) (by decide +kernel) rfl rfl (Nat.le_refl _) (Nat.le_refl _) ⟨rfl, H⟩
    have h226 : ∀ (l3 l4 l5 l6 : Int) (M : oM), okp (p_L_reckoned_B226_8 f l2 l3 l4 l5 l6 M) K8 → oJ l m_L_reckoned (oEf 3 K) 0 0 226 [vr 18, vu, vi l2, vi l3, vi l4, vi l5, vi l6, vu, vu] [] WD M := by
      intro l3 l4 l5 l6 M H
      refine oj_iconst (pc := 226) (v := 1) ⟨by decide, by decide⟩ (by decide +kernel) ?_
      refine oj_goto (pc := 227) (off := 4) (tgt := 231) (by decide +kernel) (by decide) ?_
      exact h231 _ _ _ _ _ _ H
    refine oj_ld5 (pc := 8) (by decide +kernel) ?_
    refine oj_sipush (pc := 10) (v := 240) ⟨by decide, by decide⟩ (by decide +kernel) ?_
    refine oj_icmp_ge (pc := 13) (off := 279) (tgt := 292) (by decide +kernel) (by decide) H (fun _ H => ?_) (fun _ H => ?_)
    · refine oj_le (lv' := [_, vu, vu, _, vu, vu, vu, vu, vu]) ⟨Or.inr rfl, Or.inr rfl, Or.inl rfl, Or.inr rfl, Or.inl rfl, Or.inl rfl, Or.inr rfl, Or.inr rfl, Or.inr rfl, trivial⟩ ?_
      exact h292 _ _ H
    · refine oj_ld4 (pc := 16) (by decide +kernel) ?_
      refine oj_if_lt (pc := 18) (off := 274) (tgt := 292) (by decide +kernel) (by decide) H (fun _ H => ?_) (fun _ H => ?_)
      · refine oj_le (lv' := [_, vu, vu, _, vu, vu, vu, vu, vu]) ⟨Or.inr rfl, Or.inr rfl, Or.inl rfl, Or.inr rfl, Or.inl rfl, Or.inl rfl, Or.inr rfl, Or.inr rfl, Or.inr rfl, trivial⟩ ?_
        exact h292 _ _ H
      · refine oj_ld4 (pc := 21) (by decide +kernel) ?_
        refine oj_ld2 (pc := 23) (by decide +kernel) ?_
        refine oj_icmp_ge (pc := 24) (off := 268) (tgt := 292) (by decide +kernel) (by decide) H (fun _ H => ?_) (fun _ H => ?_)
        · refine oj_le (lv' := [_, vu, vu, _, vu, vu, vu, vu, vu]) ⟨Or.inr rfl, Or.inr rfl, Or.inl rfl, Or.inr rfl, Or.inl rfl, Or.inl rfl, Or.inr rfl, Or.inr rfl, Or.inr rfl, trivial⟩ ?_
          exact h292 _ _ H
        · refine oj_ld4 (pc := 27) (by decide +kernel) ?_
          refine oj_sipush (pc := 29) (v := 240) ⟨by decide, by decide⟩ (by decide +kernel) ?_
          refine oj_icmp_ge (pc := 32) (off := 260) (tgt := 292) (by decide +kernel) (by decide) H (fun _ H => ?_) (fun _ H => ?_)
          · refine oj_le (lv' := [_, vu, vu, _, vu, vu, vu, vu, vu]) ⟨Or.inr rfl, Or.inr rfl, Or.inl rfl, Or.inr rfl, Or.inl rfl, Or.inl rfl, Or.inr rfl, Or.inr rfl, Or.inr rfl, trivial⟩ ?_
            exact h292 _ _ H
          · refine oj_ald0 (pc := 35) (by decide +kernel) ?_
            refine oj_getR' (pc := 36) f_L_9 s_18_1 (by decide +kernel) ?_
            refine oj_ld4 (pc := 39) (by decide +kernel) ?_
            refine oj_iald (pc := 41) (NN := 240) a_19 rfl (by decide +kernel) H (fun H => ?_)
            refine oj_st6 (pc := 42) (by decide +kernel) (by decide +kernel) ?_
            have H := okp_lt H
            refine oj_ald0 (pc := 44) (by decide +kernel) ?_
            refine oj_getR' (pc := 45) f_L_15 s_18_2 (by decide +kernel) ?_
            refine oj_ld4 (pc := 48) (by decide +kernel) ?_
            refine oj_iald (pc := 50) (NN := 240) a_20 rfl (by decide +kernel) H (fun H => ?_)
            refine oj_st7 (pc := 51) (by decide +kernel) (by decide +kernel) ?_
            have H := okp_lt H
            refine oj_inc4 (pc := 53) (d := 1) (by decide +kernel) (by decide +kernel) ?_
            have H := okp_lt H
            refine oj_ld6 (pc := 56) (by decide +kernel) ?_
            refine oj_bipush (pc := 58) (v := 48) ⟨by decide, by decide⟩ (by decide +kernel) ?_
            refine oj_icmp_eq (pc := 60) (off := 10) (tgt := 70) (by decide +kernel) (by decide) H (fun _ H => ?_) (fun _ H => ?_)
            · exact h70 _ _ _ _ _ _ H
            · refine oj_ld6 (pc := 63) (by decide +kernel) ?_
              refine oj_bipush (pc := 65) (v := 97) ⟨by decide, by decide⟩ (by decide +kernel) ?_
              refine oj_icmp_ne (pc := 67) (off := 45) (tgt := 112) (by decide +kernel) (by decide) H (fun _ H => ?_) (fun _ H => ?_)
              · refine oj_ld6 (pc := 112) (by decide +kernel) ?_
                refine oj_bipush (pc := 114) (v := 33) ⟨by decide, by decide⟩ (by decide +kernel) ?_
                refine oj_icmp_eq (pc := 116) (off := 17) (tgt := 133) (by decide +kernel) (by decide) H (fun _ H => ?_) (fun _ H => ?_)
                · exact h133 _ _ _ _ _ _ H
                · refine oj_ld6 (pc := 119) (by decide +kernel) ?_
                  refine oj_bipush (pc := 121) (v := 38) ⟨by decide, by decide⟩ (by decide +kernel) ?_
                  refine oj_icmp_eq (pc := 123) (off := 10) (tgt := 133) (by decide +kernel) (by decide) H (fun _ H => ?_) (fun _ H => ?_)
                  · exact h133 _ _ _ _ _ _ H
                  · refine oj_ld6 (pc := 126) (by decide +kernel) ?_
                    refine oj_bipush (pc := 128) (v := 124) ⟨by decide, by decide⟩ (by decide +kernel) ?_
                    refine oj_icmp_ne (pc := 130) (off := 82) (tgt := 212) (by decide +kernel) (by decide) H (fun _ H => ?_) (fun _ H => ?_)
                    · refine oj_ld6 (pc := 212) (by decide +kernel) ?_
                      refine oj_bipush (pc := 214) (v := 47) ⟨by decide, by decide⟩ (by decide +kernel) ?_
                      refine oj_icmp_eq (pc := 216) (off := 10) (tgt := 226) (by decide +kernel) (by decide) H (fun _ H => ?_) (fun _ H => ?_)
                      · refine oj_le (lv' := [_, vu, _, _, _, _, _, vu, vu]) ⟨Or.inr rfl, Or.inr rfl, Or.inr rfl, Or.inr rfl, Or.inr rfl, Or.inr rfl, Or.inr rfl, Or.inl rfl, Or.inr rfl, trivial⟩ ?_
                        exact h226 _ _ _ _ _ H
                      · refine oj_ld6 (pc := 219) (by decide +kernel) ?_
                        refine oj_bipush (pc := 221) (v := 37) ⟨by decide, by decide⟩ (by decide +kernel) ?_
                        refine oj_icmp_ne (pc := 223) (off := 7) (tgt := 230) (by decide +kernel) (by decide) H (fun _ H => ?_) (fun _ H => ?_)
                        · refine oj_iconst (pc := 230) (v := 0) ⟨by decide, by decide⟩ (by decide +kernel) ?_
                          refine oj_le (lv' := [_, vu, _, _, _, _, _, vu, vu]) ⟨Or.inr rfl, Or.inr rfl, Or.inr rfl, Or.inr rfl, Or.inr rfl, Or.inr rfl, Or.inr rfl, Or.inl rfl, Or.inr rfl, trivial⟩ ?_
                          exact h231 _ _ _ _ _ _ H
                        · refine oj_le (lv' := [_, vu, _, _, _, _, _, vu, vu]) ⟨Or.inr rfl, Or.inr rfl, Or.inr rfl, Or.inr rfl, Or.inr rfl, Or.inr rfl, Or.inr rfl, Or.inl rfl, Or.inr rfl, trivial⟩ ?_
                          exact h226 _ _ _ _ _ H
                    · exact h133 _ _ _ _ _ _ H
              · exact h70 _ _ _ _ _ _ H
  refine oj_iconst (pc := 0) (v := 0) ⟨by decide, by decide⟩ (by decide +kernel) ?_
  refine oj_st3 (pc := 1) (by decide +kernel) (by decide +kernel) ?_
  refine oj_ld1 (pc := 2) (by decide +kernel) ?_
  refine oj_st4 (pc := 3) (by decide +kernel) (by decide +kernel) ?_
  refine oj_iconst (pc := 5) (v := 0) ⟨by decide, by decide⟩ (by decide +kernel) ?_
  refine oj_st5 (pc := 6) (by decide +kernel) (by decide +kernel) ?_
  refine oj_le (lv' := [_, vu, _, _, _, _, vu, vu, vu]) ⟨Or.inr rfl, Or.inl rfl, Or.inr rfl, Or.inr rfl, Or.inr rfl, Or.inr rfl, Or.inr rfl, Or.inr rfl, Or.inr rfl, trivial⟩ ?_
  exact h8 _ _ _ _ _ _ H
theorem c_L_firstOf_0 {l : Launch} {f : Nat} {l1 l2 : Int} {M : oM} {K : Int × oM → Prop} (H : okp (p_L_firstOf f l1 l2 M) K) : oKf l m_L_firstOf 4 [vr 18, vi l1, vi l2] M K := by
  refine oK_intro (lv := [vr 18, vi l1, vi l2, vu, vu]) (by decide +kernel) (Nat.le_of_ble_eq_true rfl) rfl ?_
  have h2 : ∀ (g : Nat) (l1 l2 l3 : Int) (M : oM), okp (iter (p_L_firstOf_L2 f l1 l2) g (l3, M)) K → oJ l m_L_firstOf (oEf 4 K) 0 0 2 [vr 18, vi l1, vi l2, vi l3, vu] [] WD M := by
    intro g l1 l2 l3 M H
    have HL := fun hs => iter_J' (Jh := fun s => oJ l m_L_firstOf (oEf 4 K) 0 0 2 [vr 18, vi l1, vi l2, vi s.1, vu] [] WD s.2) (G := K) hs g (l3, M) H
    refine HL ?_
    intro K2 s i2 e2 H
    obtain ⟨l3, M⟩ := s
    show oJ l m_L_firstOf (oEf 4 K) 0 0 2 [vr 18, vi l1, vi l2, vi l3, vu] [] WD M
    have h74 : ∀ (l3 : Int) (M : oM), okp (p_L_firstOf_B74_2 f l1 l2 l3 M) K2 → oJ l m_L_firstOf (oEf 4 K) 0 0 74 [vr 18, vi l1, vi l2, vi l3, vu] [] WD M := by
      intro l3 M H
      refine oj_inc3 (pc := 74) (d := 1) (by decide +kernel) (by decide +kernel) ?_
      have H := okp_lt H
      refine oj_goto (pc := 77) (off := -75) (tgt := 2) (by decide +kernel) (by decide) ?_
      have H := i2 _ H
      exact H
    refine oj_ld3 (pc := 2) (by decide +kernel) ?_
    refine oj_ald0 (pc := 3) (by decide +kernel) ?_
    refine oj_getI' (pc := 4) (ki := 10) f_L_50 s_18_10 rfl (by decide +kernel) ?_
    refine oj_icmp_ge (pc := 7) (off := 73) (tgt := 80) (by decide +kernel) (by decide) H (fun _ H => ?_) (fun _ H => ?_)
    · refine oj_iconst (pc := 80) (v := 0) ⟨by decide, by decide⟩ (by decide +kernel) ?_
      have H := e2 _ H
      exact oj_iret (pc := 81) (by decide +kernel) rfl rfl (Nat.le_refl _) (Nat.le_refl _) ⟨rfl, H⟩
    · refine oj_ld3 (pc := 10) (by decide +kernel) ?_
      refine oj_bipush (pc := 11) (v := 16) ⟨by decide, by decide⟩ (by decide +kernel) ?_
      refine oj_icmp_ge (pc := 13) (off := 67) (tgt := 80) (by decide +kernel) (by decide) H (fun _ H => ?_) (fun _ H => ?_)
      · refine oj_iconst (pc := 80) (v := 0) ⟨by decide, by decide⟩ (by decide +kernel) ?_
        have H := e2 _ H
        exact oj_iret (pc := 81) (by decide +kernel) rfl rfl (Nat.le_refl _) (Nat.le_refl _) ⟨rfl, H⟩
      · refine oj_ald0 (pc := 16) (by decide +kernel) ?_
        refine oj_getR' (pc := 17) f_L_18 s_18_3 (by decide +kernel) ?_
        refine oj_ld3 (pc := 20) (by decide +kernel) ?_
        refine oj_iald (pc := 21) (NN := 16) a_21 rfl (by decide +kernel) H (fun H => ?_)
        refine oj_ld1 (pc := 22) (by decide +kernel) ?_
        refine oj_icmp_ne (pc := 23) (off := 51) (tgt := 74) (by decide +kernel) (by decide) H (fun _ H => ?_) (fun _ H => ?_)
        · exact h74 _ _ H
        · refine oj_ald0 (pc := 26) (by decide +kernel) ?_
          refine oj_ald0 (pc := 27) (by decide +kernel) ?_
          refine oj_getR' (pc := 28) f_L_24 s_18_5 (by decide +kernel) ?_
          refine oj_ld3 (pc := 31) (by decide +kernel) ?_
          refine oj_iald (pc := 32) (NN := 16) a_23 rfl (by decide +kernel) H (fun H => ?_)
          refine oj_ald0 (pc := 33) (by decide +kernel) ?_
          refine oj_getR' (pc := 34) f_L_27 s_18_6 (by decide +kernel) ?_
          refine oj_ld3 (pc := 37) (by decide +kernel) ?_
          refine oj_iald (pc := 38) (NN := 16) a_24 rfl (by decide +kernel) H (fun H => ?_)
          refine of_Vi (pc := 39) (as := [_, _]) v_L_57 o_18 rfl rfl (Nat.le_of_ble_eq_true rfl) (by decide +kernel) (by decide) rfl (c_L_reckoned_0 (okp_bind H)) (fun r M H => ?_)
          refine oj_if_eq (pc := 42) (off := 32) (tgt := 74) (by decide +kernel) (by decide) H (fun _ H => ?_) (fun _ H => ?_)
          · exact h74 _ _ H
          · refine oj_ald0 (pc := 45) (by decide +kernel) ?_
            refine oj_ald0 (pc := 46) (by decide +kernel) ?_
            refine oj_getR' (pc := 47) f_L_21 s_18_4 (by decide +kernel) ?_
            refine oj_ld3 (pc := 50) (by decide +kernel) ?_
            refine oj_iald (pc := 51) (NN := 16) a_22 rfl (by decide +kernel) H (fun H => ?_)
            refine oj_ald0 (pc := 52) (by decide +kernel) ?_
            refine oj_getR' (pc := 53) f_L_24 s_18_5 (by decide +kernel) ?_
            refine oj_ld3 (pc := 56) (by decide +kernel) ?_
            refine oj_iald (pc := 57) (NN := 16) a_23 rfl (by decide +kernel) H (fun H => ?_)
            refine of_Vi (pc := 58) (as := [_, _]) v_L_57 o_18 rfl rfl (Nat.le_of_ble_eq_true rfl) (by decide +kernel) (by decide) rfl (c_L_reckoned_0 (okp_bind H)) (fun r M H => ?_)
            refine oj_st4 (pc := 61) (by decide +kernel) (by decide +kernel) ?_
            refine oj_iconst (pc := 63) (v := 0) ⟨by decide, by decide⟩ (by decide +kernel) ?_
            refine oj_ld2 (pc := 64) (by decide +kernel) ?_
            refine oj_ld4 (pc := 65) (by decide +kernel) ?_
            refine oj_mmin (pc := 67) q_L_93 mm_min (Nat.le_of_ble_eq_true rfl) (Nat.le_of_ble_eq_true rfl) (Nat.zero_le _) (Nat.zero_le _) (by decide +kernel) ?_
            refine oj_mmax (pc := 70) q_L_98 mm_max (Nat.le_of_ble_eq_true rfl) (Nat.le_of_ble_eq_true rfl) (Nat.zero_le _) (Nat.zero_le _) (by decide +kernel) ?_
            have H := e2 _ H
            exact oj_iret (pc := 73) (by decide +kernel) rfl rfl (Nat.le_refl _) (Nat.le_refl _) ⟨rfl, H⟩
  refine oj_iconst (pc := 0) (v := 0) ⟨by decide, by decide⟩ (by decide +kernel) ?_
  refine oj_st3 (pc := 1) (by decide +kernel) (by decide +kernel) ?_
  exact h2 _ _ _ _ _ H
theorem c_D_debtOf_0 {l : Launch} {f : Nat} {l1 l2 : Int} {M : oM} {K : Int × oM → Prop} (H : okp (p_D_debtOf f 6 l1 l2 M) K) : oKf l m_D_debtOf 3 [vr 6, vi l1, vi l2] M K := by
  refine oK_intro (lv := [vr 6, vi l1, vi l2]) (by decide +kernel) (Nat.le_of_ble_eq_true rfl) rfl ?_
  refine oj_ld1 (pc := 0) (by decide +kernel) ?_
  refine of_Si (pc := 1) (as := [_]) v_D_67 rfl rfl (Nat.le_of_ble_eq_true rfl) (by decide +kernel) (by decide) rfl (c_O_isOne_0 (okp_bind H)) (fun r M H => ?_)
  refine oj_if_eq (pc := 4) (off := 24) (tgt := 28) (by decide +kernel) (by decide) H (fun _ H => ?_) (fun _ H => ?_)
  · refine oj_iconst (pc := 28) (v := 0) ⟨by decide, by decide⟩ (by decide +kernel) ?_
    exact oj_iret (pc := 29) (by decide +kernel) rfl rfl (Nat.le_refl _) (Nat.le_refl _) ⟨rfl, H⟩
  · refine oj_ld2 (pc := 7) (by decide +kernel) ?_
    refine of_Si (pc := 8) (as := [_]) v_D_67 rfl rfl (Nat.le_of_ble_eq_true rfl) (by decide +kernel) (by decide) rfl (c_O_isOne_0 (okp_bind H)) (fun r M H => ?_)
    refine oj_if_eq (pc := 11) (off := 17) (tgt := 28) (by decide +kernel) (by decide) H (fun _ H => ?_) (fun _ H => ?_)
    · refine oj_iconst (pc := 28) (v := 0) ⟨by decide, by decide⟩ (by decide +kernel) ?_
      exact oj_iret (pc := 29) (by decide +kernel) rfl rfl (Nat.le_refl _) (Nat.le_refl _) ⟨rfl, H⟩
    · refine oj_ald0 (pc := 14) (by decide +kernel) ?_
      refine oj_getR' (pc := 15) f_D_9 s_6_0 (by decide +kernel) ?_
      refine oj_ld1 (pc := 18) (by decide +kernel) ?_
      refine oj_bipush (pc := 19) (v := 10) ⟨by decide, by decide⟩ (by decide +kernel) ?_
      refine oj_imul (pc := 21) (by decide +kernel) ?_
      refine oj_ld2 (pc := 22) (by decide +kernel) ?_
      refine oj_iadd (pc := 23) (by decide +kernel) ?_
      refine oj_iald (pc := 24) (NN := 100) a_7 rfl (by decide +kernel) H (fun H => ?_)
      refine oj_goto (pc := 25) (off := 4) (tgt := 29) (by decide +kernel) (by decide) ?_
      exact oj_iret (pc := 29) (by decide +kernel) rfl rfl (Nat.le_refl _) (Nat.le_refl _) ⟨rfl, H⟩
theorem c_D_debtOf_1 {l : Launch} {f : Nat} {l1 l2 : Int} {M : oM} {K : Int × oM → Prop} (H : okp (p_D_debtOf f 14 l1 l2 M) K) : oKf l m_D_debtOf 3 [vr 14, vi l1, vi l2] M K := by
  refine oK_intro (lv := [vr 14, vi l1, vi l2]) (by decide +kernel) (Nat.le_of_ble_eq_true rfl) rfl ?_
  refine oj_ld1 (pc := 0) (by decide +kernel) ?_
  refine of_Si (pc := 1) (as := [_]) v_D_67 rfl rfl (Nat.le_of_ble_eq_true rfl) (by decide +kernel) (by decide) rfl (c_O_isOne_0 (okp_bind H)) (fun r M H => ?_)
  refine oj_if_eq (pc := 4) (off := 24) (tgt := 28) (by decide +kernel) (by decide) H (fun _ H => ?_) (fun _ H => ?_)
  · refine oj_iconst (pc := 28) (v := 0) ⟨by decide, by decide⟩ (by decide +kernel) ?_
    exact oj_iret (pc := 29) (by decide +kernel) rfl rfl (Nat.le_refl _) (Nat.le_refl _) ⟨rfl, H⟩
  · refine oj_ld2 (pc := 7) (by decide +kernel) ?_
    refine of_Si (pc := 8) (as := [_]) v_D_67 rfl rfl (Nat.le_of_ble_eq_true rfl) (by decide +kernel) (by decide) rfl (c_O_isOne_0 (okp_bind H)) (fun r M H => ?_)
    refine oj_if_eq (pc := 11) (off := 17) (tgt := 28) (by decide +kernel) (by decide) H (fun _ H => ?_) (fun _ H => ?_)
    · refine oj_iconst (pc := 28) (v := 0) ⟨by decide, by decide⟩ (by decide +kernel) ?_
      exact oj_iret (pc := 29) (by decide +kernel) rfl rfl (Nat.le_refl _) (Nat.le_refl _) ⟨rfl, H⟩
    · refine oj_ald0 (pc := 14) (by decide +kernel) ?_
      refine oj_getR' (pc := 15) f_D_9 s_14_0 (by decide +kernel) ?_
      refine oj_ld1 (pc := 18) (by decide +kernel) ?_
      refine oj_bipush (pc := 19) (v := 10) ⟨by decide, by decide⟩ (by decide +kernel) ?_
      refine oj_imul (pc := 21) (by decide +kernel) ?_
      refine oj_ld2 (pc := 22) (by decide +kernel) ?_
      refine oj_iadd (pc := 23) (by decide +kernel) ?_
      refine oj_iald (pc := 24) (NN := 100) a_15 rfl (by decide +kernel) H (fun H => ?_)
      refine oj_goto (pc := 25) (off := 4) (tgt := 29) (by decide +kernel) (by decide) ?_
      exact oj_iret (pc := 29) (by decide +kernel) rfl rfl (Nat.le_refl _) (Nat.le_refl _) ⟨rfl, H⟩
theorem c_D_owedBy_0 {l : Launch} {f : Nat} {l1 : Int} {M : oM} {K : Int × oM → Prop} (H : okp (p_D_owedBy f 6 l1 M) K) : oKf l m_D_owedBy 2 [vr 6, vi l1] M K := by
  refine oK_intro (lv := [vr 6, vi l1, vu, vu]) (by decide +kernel) (Nat.le_of_ble_eq_true rfl) rfl ?_
  have h4 : ∀ (g : Nat) (l1 l2 l3 : Int) (M : oM), okp (iter (p_D_owedBy_L4 f 6 l1) g (l2, l3, M)) K → oJ l m_D_owedBy (oEf 2 K) 0 0 4 [vr 6, vi l1, vi l2, vi l3] [] WD M := by
    intro g l1 l2 l3 M H
    have HL := fun hs => iter_J' (Jh := fun s => oJ l m_D_owedBy (oEf 2 K) 0 0 4 [vr 6, vi l1, vi s.1, vi s.2.1] [] WD s.2.2) (G := K) hs g (l2, l3, M) H
    refine HL ?_
    intro K4 s i4 e4 H
    obtain ⟨l2, l3, M⟩ := s
    show oJ l m_D_owedBy (oEf 2 K) 0 0 4 [vr 6, vi l1, vi l2, vi l3] [] WD M
    refine oj_ld3 (pc := 4) (by decide +kernel) ?_
    refine oj_bipush (pc := 5) (v := 10) ⟨by decide, by decide⟩ (by decide +kernel) ?_
    refine oj_icmp_ge (pc := 7) (off := 23) (tgt := 30) (by decide +kernel) (by decide) H (fun _ H => ?_) (fun _ H => ?_)
    · refine oj_ld2 (pc := 30) (by decide +kernel) ?_
      have H := e4 _ H
      exact oj_iret (pc := 31) (by decide +kernel) rfl rfl (Nat.le_refl _) (Nat.le_refl _) ⟨rfl, H⟩
    · refine oj_ld2 (pc := 10) (by decide +kernel) ?_
      refine oj_ald0 (pc := 11) (by decide +kernel) ?_
      refine oj_getR' (pc := 12) f_D_9 s_6_0 (by decide +kernel) ?_
      refine oj_ld1 (pc := 15) (by decide +kernel) ?_
      refine oj_bipush (pc := 16) (v := 10) ⟨by decide, by decide⟩ (by decide +kernel) ?_
      refine oj_imul (pc := 18) (by decide +kernel) ?_
      refine oj_ld3 (pc := 19) (by decide +kernel) ?_
      refine oj_iadd (pc := 20) (by decide +kernel) ?_
      refine oj_iald (pc := 21) (NN := 100) a_7 rfl (by decide +kernel) H (fun H => ?_)
      refine oj_iadd (pc := 22) (by decide +kernel) ?_
      refine oj_st2 (pc := 23) (by decide +kernel) (by decide +kernel) ?_
      have H := okp_lt H
      refine oj_inc3 (pc := 24) (d := 1) (by decide +kernel) (by decide +kernel) ?_
      have H := okp_lt H
      refine oj_goto (pc := 27) (off := -23) (tgt := 4) (by decide +kernel) (by decide) ?_
      have H := i4 _ H
      exact H
  refine oj_iconst (pc := 0) (v := 0) ⟨by decide, by decide⟩ (by decide +kernel) ?_
  refine oj_st2 (pc := 1) (by decide +kernel) (by decide +kernel) ?_
  refine oj_iconst (pc := 2) (v := 0) ⟨by decide, by decide⟩ (by decide +kernel) ?_
  refine oj_st3 (pc := 3) (by decide +kernel) (by decide +kernel) ?_
  exact h4 _ _ _ _ _ H
theorem c_D_owedBy_1 {l : Launch} {f : Nat} {l1 : Int} {M : oM} {K : Int × oM → Prop} (H : okp (p_D_owedBy f 14 l1 M) K) : oKf l m_D_owedBy 2 [vr 14, vi l1] M K := by
  refine oK_intro (lv := [vr 14, vi l1, vu, vu]) (by decide +kernel) (Nat.le_of_ble_eq_true rfl) rfl ?_
  have h4 : ∀ (g : Nat) (l1 l2 l3 : Int) (M : oM), okp (iter (p_D_owedBy_L4 f 14 l1) g (l2, l3, M)) K → oJ l m_D_owedBy (oEf 2 K) 0 0 4 [vr 14, vi l1, vi l2, vi l3] [] WD M := by
    intro g l1 l2 l3 M H
    have HL := fun hs => iter_J' (Jh := fun s => oJ l m_D_owedBy (oEf 2 K) 0 0 4 [vr 14, vi l1, vi s.1, vi s.2.1] [] WD s.2.2) (G := K) hs g (l2, l3, M) H
    refine HL ?_
    intro K4 s i4 e4 H
    obtain ⟨l2, l3, M⟩ := s
    show oJ l m_D_owedBy (oEf 2 K) 0 0 4 [vr 14, vi l1, vi l2, vi l3] [] WD M
    refine oj_ld3 (pc := 4) (by decide +kernel) ?_
    refine oj_bipush (pc := 5) (v := 10) ⟨by decide, by decide⟩ (by decide +kernel) ?_
    refine oj_icmp_ge (pc := 7) (off := 23) (tgt := 30) (by decide +kernel) (by decide) H (fun _ H => ?_) (fun _ H => ?_)
    · refine oj_ld2 (pc := 30) (by decide +kernel) ?_
      have H := e4 _ H
      exact oj_iret (pc := 31) (by decide +kernel) rfl rfl (Nat.le_refl _) (Nat.le_refl _) ⟨rfl, H⟩
    · refine oj_ld2 (pc := 10) (by decide +kernel) ?_
      refine oj_ald0 (pc := 11) (by decide +kernel) ?_
      refine oj_getR' (pc := 12) f_D_9 s_14_0 (by decide +kernel) ?_
      refine oj_ld1 (pc := 15) (by decide +kernel) ?_
      refine oj_bipush (pc := 16) (v := 10) ⟨by decide, by decide⟩ (by decide +kernel) ?_
      refine oj_imul (pc := 18) (by decide +kernel) ?_
      refine oj_ld3 (pc := 19) (by decide +kernel) ?_
      refine oj_iadd (pc := 20) (by decide +kernel) ?_
      refine oj_iald (pc := 21) (NN := 100) a_15 rfl (by decide +kernel) H (fun H => ?_)
      refine oj_iadd (pc := 22) (by decide +kernel) ?_
      refine oj_st2 (pc := 23) (by decide +kernel) (by decide +kernel) ?_
      have H := okp_lt H
      refine oj_inc3 (pc := 24) (d := 1) (by decide +kernel) (by decide +kernel) ?_
      have H := okp_lt H
      refine oj_goto (pc := 27) (off := -23) (tgt := 4) (by decide +kernel) (by decide) ?_
      have H := i4 _ H
      exact H
  refine oj_iconst (pc := 0) (v := 0) ⟨by decide, by decide⟩ (by decide +kernel) ?_
  refine oj_st2 (pc := 1) (by decide +kernel) (by decide +kernel) ?_
  refine oj_iconst (pc := 2) (v := 0) ⟨by decide, by decide⟩ (by decide +kernel) ?_
  refine oj_st3 (pc := 3) (by decide +kernel) (by decide +kernel) ?_
  exact h4 _ _ _ _ _ H
theorem c_D_timesChalked_0 {l : Launch} {f : Nat} {l1 : Int} {M : oM} {K : Int × oM → Prop} (H : okp (p_D_timesChalked f 6 l1 M) K) : oKf l m_D_timesChalked 2 [vr 6, vi l1] M K := by
  refine oK_intro (lv := [vr 6, vi l1, vu, vu]) (by decide +kernel) (Nat.le_of_ble_eq_true rfl) rfl ?_
  have h4 : ∀ (g : Nat) (l1 l2 l3 : Int) (M : oM), okp (iter (p_D_timesChalked_L4 f 6 l1) g (l2, l3, M)) K → oJ l m_D_timesChalked (oEf 2 K) 0 0 4 [vr 6, vi l1, vi l2, vi l3] [] WD M := by
    intro g l1 l2 l3 M H
    have HL := fun hs => iter_J' (Jh := fun s => oJ l m_D_timesChalked (oEf 2 K) 0 0 4 [vr 6, vi l1, vi s.1, vi s.2.1] [] WD s.2.2) (G := K) hs g (l2, l3, M) H
    refine HL ?_
    intro K4 s i4 e4 H
    obtain ⟨l2, l3, M⟩ := s
    show oJ l m_D_timesChalked (oEf 2 K) 0 0 4 [vr 6, vi l1, vi l2, vi l3] [] WD M
    have h31 : ∀ (l2 l3 : Int) (M : oM), okp (p_D_timesChalked_B31_4 f 6 l1 l2 l3 M) K4 → oJ l m_D_timesChalked (oEf 2 K) 0 0 31 [vr 6, vi l1, vi l2, vi l3] [] WD M := by
      intro l2 l3 M H
      refine oj_inc3 (pc := 31) (d := 1) (by decide +kernel) (by decide +kernel) ?_
      have H := okp_lt H
      refine oj_goto (pc := 34) (off := -30) (tgt := 4) (by decide +kernel) (by decide) ?_
      have H := i4 _ H
      exact H
    refine oj_ld3 (pc := 4) (by decide +kernel) ?_
    refine oj_ald0 (pc := 5) (by decide +kernel) ?_
    refine oj_getI' (pc := 6) (ki := 3) f_D_40 s_6_3 rfl (by decide +kernel) ?_
    refine oj_icmp_ge (pc := 9) (off := 28) (tgt := 37) (by decide +kernel) (by decide) H (fun _ H => ?_) (fun _ H => ?_)
    · refine oj_ld2 (pc := 37) (by decide +kernel) ?_
      have H := e4 _ H
      exact oj_iret (pc := 38) (by decide +kernel) rfl rfl (Nat.le_refl _) (Nat.le_refl _) ⟨rfl, H⟩
    · refine oj_ld3 (pc := 12) (by decide +kernel) ?_
      refine oj_bipush (pc := 13) (v := 40) ⟨by decide, by decide⟩ (by decide +kernel) ?_
      refine oj_icmp_ge (pc := 15) (off := 22) (tgt := 37) (by decide +kernel) (by decide) H (fun _ H => ?_) (fun _ H => ?_)
      · refine oj_ld2 (pc := 37) (by decide +kernel) ?_
        have H := e4 _ H
        exact oj_iret (pc := 38) (by decide +kernel) rfl rfl (Nat.le_refl _) (Nat.le_refl _) ⟨rfl, H⟩
      · refine oj_ald0 (pc := 18) (by decide +kernel) ?_
        refine oj_getR' (pc := 19) f_D_18 s_6_2 (by decide +kernel) ?_
        refine oj_ld3 (pc := 22) (by decide +kernel) ?_
        refine oj_iald (pc := 23) (NN := 40) a_9 rfl (by decide +kernel) H (fun H => ?_)
        refine oj_ld1 (pc := 24) (by decide +kernel) ?_
        refine oj_icmp_ne (pc := 25) (off := 6) (tgt := 31) (by decide +kernel) (by decide) H (fun _ H => ?_) (fun _ H => ?_)
        · exact h31 _ _ _ H
        · refine oj_inc2 (pc := 28) (d := 1) (by decide +kernel) (by decide +kernel) ?_
          have H := okp_lt H
          exact h31 _ _ _ H
  refine oj_iconst (pc := 0) (v := 0) ⟨by decide, by decide⟩ (by decide +kernel) ?_
  refine oj_st2 (pc := 1) (by decide +kernel) (by decide +kernel) ?_
  refine oj_iconst (pc := 2) (v := 0) ⟨by decide, by decide⟩ (by decide +kernel) ?_
  refine oj_st3 (pc := 3) (by decide +kernel) (by decide +kernel) ?_
  exact h4 _ _ _ _ _ H
theorem c_D_timesChalked_1 {l : Launch} {f : Nat} {l1 : Int} {M : oM} {K : Int × oM → Prop} (H : okp (p_D_timesChalked f 14 l1 M) K) : oKf l m_D_timesChalked 2 [vr 14, vi l1] M K := by
  refine oK_intro (lv := [vr 14, vi l1, vu, vu]) (by decide +kernel) (Nat.le_of_ble_eq_true rfl) rfl ?_
  have h4 : ∀ (g : Nat) (l1 l2 l3 : Int) (M : oM), okp (iter (p_D_timesChalked_L4 f 14 l1) g (l2, l3, M)) K → oJ l m_D_timesChalked (oEf 2 K) 0 0 4 [vr 14, vi l1, vi l2, vi l3] [] WD M := by
    intro g l1 l2 l3 M H
    have HL := fun hs => iter_J' (Jh := fun s => oJ l m_D_timesChalked (oEf 2 K) 0 0 4 [vr 14, vi l1, vi s.1, vi s.2.1] [] WD s.2.2) (G := K) hs g (l2, l3, M) H
    refine HL ?_
    intro K4 s i4 e4 H
    obtain ⟨l2, l3, M⟩ := s
    show oJ l m_D_timesChalked (oEf 2 K) 0 0 4 [vr 14, vi l1, vi l2, vi l3] [] WD M
    have h31 : ∀ (l2 l3 : Int) (M : oM), okp (p_D_timesChalked_B31_4 f 14 l1 l2 l3 M) K4 → oJ l m_D_timesChalked (oEf 2 K) 0 0 31 [vr 14, vi l1, vi l2, vi l3] [] WD M := by
      intro l2 l3 M H
      refine oj_inc3 (pc := 31) (d := 1) (by decide +kernel) (by decide +kernel) ?_
      have H := okp_lt H
      refine oj_goto (pc := 34) (off := -30) (tgt := 4) (by decide +kernel) (by decide) ?_
      have H := i4 _ H
      exact H
    refine oj_ld3 (pc := 4) (by decide +kernel) ?_
    refine oj_ald0 (pc := 5) (by decide +kernel) ?_
    refine oj_getI' (pc := 6) (ki := 3) f_D_40 s_14_3 rfl (by decide +kernel) ?_
    refine oj_icmp_ge (pc := 9) (off := 28) (tgt := 37) (by decide +kernel) (by decide) H (fun _ H => ?_) (fun _ H => ?_)
    · refine oj_ld2 (pc := 37) (by decide +kernel) ?_
      have H := e4 _ H
      exact oj_iret (pc := 38) (by decide +kernel) rfl rfl (Nat.le_refl _) (Nat.le_refl _) ⟨rfl, H⟩
    · refine oj_ld3 (pc := 12) (by decide +kernel) ?_
      refine oj_bipush (pc := 13) (v := 40) ⟨by decide, by decide⟩ (by decide +kernel) ?_
      refine oj_icmp_ge (pc := 15) (off := 22) (tgt := 37) (by decide +kernel) (by decide) H (fun _ H => ?_) (fun _ H => ?_)
      · refine oj_ld2 (pc := 37) (by decide +kernel) ?_
        have H := e4 _ H
        exact oj_iret (pc := 38) (by decide +kernel) rfl rfl (Nat.le_refl _) (Nat.le_refl _) ⟨rfl, H⟩
      · refine oj_ald0 (pc := 18) (by decide +kernel) ?_
        refine oj_getR' (pc := 19) f_D_18 s_14_2 (by decide +kernel) ?_
        refine oj_ld3 (pc := 22) (by decide +kernel) ?_
        refine oj_iald (pc := 23) (NN := 40) a_17 rfl (by decide +kernel) H (fun H => ?_)
        refine oj_ld1 (pc := 24) (by decide +kernel) ?_
        refine oj_icmp_ne (pc := 25) (off := 6) (tgt := 31) (by decide +kernel) (by decide) H (fun _ H => ?_) (fun _ H => ?_)
        · exact h31 _ _ _ H
        · refine oj_inc2 (pc := 28) (d := 1) (by decide +kernel) (by decide +kernel) ?_
          have H := okp_lt H
          exact h31 _ _ _ H
  refine oj_iconst (pc := 0) (v := 0) ⟨by decide, by decide⟩ (by decide +kernel) ?_
  refine oj_st2 (pc := 1) (by decide +kernel) (by decide +kernel) ?_
  refine oj_iconst (pc := 2) (v := 0) ⟨by decide, by decide⟩ (by decide +kernel) ?_
  refine oj_st3 (pc := 3) (by decide +kernel) (by decide +kernel) ?_
  exact h4 _ _ _ _ _ H
theorem c_P_way_0 {l : Launch} {f : Nat} {l1 l2 : Int} {M : oM} {K : Int × oM → Prop} (H : okp (p_P_way f l1 l2 M) K) : oKf l m_P_way 3 [vr 3, vi l1, vi l2] M K := by
  refine oK_intro (lv := [vr 3, vi l1, vi l2]) (by decide +kernel) (Nat.le_of_ble_eq_true rfl) rfl ?_
  refine oj_ld1 (pc := 0) (by decide +kernel) ?_
  refine of_Si (pc := 1) (as := [_]) v_P_22 rfl rfl (Nat.le_of_ble_eq_true rfl) (by decide +kernel) (by decide) rfl (c_O_isOne_0 (okp_bind H)) (fun r M H => ?_)
  refine oj_if_eq (pc := 4) (off := 10) (tgt := 14) (by decide +kernel) (by decide) H (fun _ H => ?_) (fun _ H => ?_)
  · refine oj_iconst (pc := 14) (v := 1) ⟨by decide, by decide⟩ (by decide +kernel) ?_
    exact oj_iret (pc := 15) (by decide +kernel) rfl rfl (Nat.le_refl _) (Nat.le_refl _) ⟨rfl, H⟩
  · refine oj_ld2 (pc := 7) (by decide +kernel) ?_
    refine of_Si (pc := 8) (as := [_]) v_P_22 rfl rfl (Nat.le_of_ble_eq_true rfl) (by decide +kernel) (by decide) rfl (c_O_isOne_0 (okp_bind H)) (fun r M H => ?_)
    refine oj_if_ne (pc := 11) (off := 5) (tgt := 16) (by decide +kernel) (by decide) H (fun _ H => ?_) (fun _ H => ?_)
    · refine oj_iconst (pc := 16) (v := 1) ⟨by decide, by decide⟩ (by decide +kernel) ?_
      refine oj_ald0 (pc := 17) (by decide +kernel) ?_
      refine oj_getR' (pc := 18) f_P_9 s_3_0 (by decide +kernel) ?_
      refine oj_ld1 (pc := 21) (by decide +kernel) ?_
      refine oj_iald (pc := 22) (NN := 10) a_4 rfl (by decide +kernel) H (fun H => ?_)
      refine oj_ald0 (pc := 23) (by decide +kernel) ?_
      refine oj_getR' (pc := 24) f_P_9 s_3_0 (by decide +kernel) ?_
      refine oj_ld2 (pc := 27) (by decide +kernel) ?_
      refine oj_iald (pc := 28) (NN := 10) a_4 rfl (by decide +kernel) H (fun H => ?_)
      refine oj_isub (pc := 29) (by decide +kernel) ?_
      refine oj_mabs (pc := 30) q_P_29 mm_abs (Nat.le_of_ble_eq_true rfl) (Nat.le_of_ble_eq_true rfl) (Nat.zero_le _) (Nat.zero_le _) (by decide +kernel) ?_
      refine oj_ald0 (pc := 33) (by decide +kernel) ?_
      refine oj_getR' (pc := 34) f_P_15 s_3_1 (by decide +kernel) ?_
      refine oj_ld1 (pc := 37) (by decide +kernel) ?_
      refine oj_iald (pc := 38) (NN := 10) a_5 rfl (by decide +kernel) H (fun H => ?_)
      refine oj_ald0 (pc := 39) (by decide +kernel) ?_
      refine oj_getR' (pc := 40) f_P_15 s_3_1 (by decide +kernel) ?_
      refine oj_ld2 (pc := 43) (by decide +kernel) ?_
      refine oj_iald (pc := 44) (NN := 10) a_5 rfl (by decide +kernel) H (fun H => ?_)
      refine oj_isub (pc := 45) (by decide +kernel) ?_
      refine oj_mabs (pc := 46) q_P_29 mm_abs (Nat.le_of_ble_eq_true rfl) (Nat.le_of_ble_eq_true rfl) (Nat.zero_le _) (Nat.zero_le _) (by decide +kernel) ?_
      refine oj_iadd (pc := 49) (by decide +kernel) ?_
      refine oj_mmax (pc := 50) q_P_35 mm_max (Nat.le_of_ble_eq_true rfl) (Nat.le_of_ble_eq_true rfl) (Nat.zero_le _) (Nat.zero_le _) (by decide +kernel) ?_
      exact oj_iret (pc := 53) (by decide +kernel) rfl rfl (Nat.le_refl _) (Nat.le_refl _) ⟨rfl, H⟩
    · refine oj_iconst (pc := 14) (v := 1) ⟨by decide, by decide⟩ (by decide +kernel) ?_
      exact oj_iret (pc := 15) (by decide +kernel) rfl rfl (Nat.le_refl _) (Nat.le_refl _) ⟨rfl, H⟩
theorem c_L_look_0 {l : Launch} {f : Nat} {l2 l3 : Int} {M : oM} {K : Int × oM → Prop} (H : okp (p_L_look f 6 l2 l3 M) K) : oKf l m_L_look 4 [vr 18, vr 6, vi l2, vi l3] M K := by
  refine oK_intro (lv := [vr 18, vr 6, vi l2, vi l3]) (by decide +kernel) (Nat.le_of_ble_eq_true rfl) rfl ?_
  refine oj_ald0 (pc := 0) (by decide +kernel) ?_
  refine oj_getR' (pc := 1) f_L_30 s_18_7 (by decide +kernel) ?_
  refine oj_iconst (pc := 4) (v := 0) ⟨by decide, by decide⟩ (by decide +kernel) ?_
  refine oj_ld2 (pc := 5) (by decide +kernel) ?_
  refine oj_iast (pc := 6) (NN := 8) a_25 rfl (by decide +kernel) H (fun H => ?_)
  have H := okp_lt H
  refine oj_ald0 (pc := 7) (by decide +kernel) ?_
  refine oj_getR' (pc := 8) f_L_30 s_18_7 (by decide +kernel) ?_
  refine oj_iconst (pc := 11) (v := 1) ⟨by decide, by decide⟩ (by decide +kernel) ?_
  refine oj_ld3 (pc := 12) (by decide +kernel) ?_
  refine oj_iast (pc := 13) (NN := 8) a_25 rfl (by decide +kernel) H (fun H => ?_)
  have H := okp_lt H
  refine oj_ald0 (pc := 14) (by decide +kernel) ?_
  refine oj_getR' (pc := 15) f_L_30 s_18_7 (by decide +kernel) ?_
  refine oj_iconst (pc := 18) (v := 2) ⟨by decide, by decide⟩ (by decide +kernel) ?_
  refine oj_ald1 (pc := 19) (by decide +kernel) ?_
  refine oj_ld2 (pc := 20) (by decide +kernel) ?_
  refine oj_ld3 (pc := 21) (by decide +kernel) ?_
  refine of_Vi (pc := 22) (as := [_, _]) v_L_70 o_6 rfl rfl (Nat.le_of_ble_eq_true rfl) (by decide +kernel) (by decide) rfl (c_D_debtOf_0 (okp_bind H)) (fun r M H => ?_)
  refine oj_iast (pc := 25) (NN := 8) a_25 rfl (by decide +kernel) H (fun H => ?_)
  have H := okp_lt H
  refine oj_ald0 (pc := 26) (by decide +kernel) ?_
  refine oj_getR' (pc := 27) f_L_30 s_18_7 (by decide +kernel) ?_
  refine oj_iconst (pc := 30) (v := 3) ⟨by decide, by decide⟩ (by decide +kernel) ?_
  refine oj_ald1 (pc := 31) (by decide +kernel) ?_
  refine oj_ld2 (pc := 32) (by decide +kernel) ?_
  refine of_Vi (pc := 33) (as := [_]) v_L_75 o_6 rfl rfl (Nat.le_of_ble_eq_true rfl) (by decide +kernel) (by decide) rfl (c_D_owedBy_0 (okp_bind H)) (fun r M H => ?_)
  refine oj_iast (pc := 36) (NN := 8) a_25 rfl (by decide +kernel) H (fun H => ?_)
  have H := okp_lt H
  refine oj_ald0 (pc := 37) (by decide +kernel) ?_
  refine oj_getR' (pc := 38) f_L_30 s_18_7 (by decide +kernel) ?_
  refine oj_iconst (pc := 41) (v := 4) ⟨by decide, by decide⟩ (by decide +kernel) ?_
  refine oj_ald0 (pc := 42) (by decide +kernel) ?_
  refine oj_getR' (pc := 43) f_L_36 s_18_0 (by decide +kernel) ?_
  refine oj_ld2 (pc := 46) (by decide +kernel) ?_
  refine oj_ld3 (pc := 47) (by decide +kernel) ?_
  refine of_Vi (pc := 48) (as := [_, _]) v_L_79 o_3 rfl rfl (Nat.le_of_ble_eq_true rfl) (by decide +kernel) (by decide) rfl (c_P_way_0 (okp_bind H)) (fun r M H => ?_)
  refine oj_iast (pc := 51) (NN := 8) a_25 rfl (by decide +kernel) H (fun H => ?_)
  have H := okp_lt H
  refine oj_ald0 (pc := 52) (by decide +kernel) ?_
  refine oj_getR' (pc := 53) f_L_30 s_18_7 (by decide +kernel) ?_
  refine oj_iconst (pc := 56) (v := 5) ⟨by decide, by decide⟩ (by decide +kernel) ?_
  refine oj_ald1 (pc := 57) (by decide +kernel) ?_
  refine oj_ld3 (pc := 58) (by decide +kernel) ?_
  refine of_Vi (pc := 59) (as := [_]) v_L_84 o_6 rfl rfl (Nat.le_of_ble_eq_true rfl) (by decide +kernel) (by decide) rfl (c_D_timesChalked_0 (okp_bind H)) (fun r M H => ?_)
  refine oj_iast (pc := 62) (NN := 8) a_25 rfl (by decide +kernel) H (fun H => ?_)
  have H := okp_lt H
  refine oj_ald0 (pc := 63) (by decide +kernel) ?_
  refine oj_getR' (pc := 64) f_L_30 s_18_7 (by decide +kernel) ?_
  refine oj_bipush (pc := 67) (v := 6) ⟨by decide, by decide⟩ (by decide +kernel) ?_
  refine oj_ald1 (pc := 69) (by decide +kernel) ?_
  refine oj_getI' (pc := 70) (ki := 8) f_L_87 s_6_8 rfl (by decide +kernel) ?_
  refine oj_iast (pc := 73) (NN := 8) a_25 rfl (by decide +kernel) H (fun H => ?_)
  have H := okp_lt H
  refine oj_ald0 (pc := 74) (by decide +kernel) ?_
  refine oj_getR' (pc := 75) f_L_30 s_18_7 (by decide +kernel) ?_
  refine oj_bipush (pc := 78) (v := 7) ⟨by decide, by decide⟩ (by decide +kernel) ?_
  refine oj_ald1 (pc := 80) (by decide +kernel) ?_
  refine oj_getI' (pc := 81) (ki := 9) f_L_90 s_6_9 rfl (by decide +kernel) ?_
  refine oj_iast (pc := 84) (NN := 8) a_25 rfl (by decide +kernel) H (fun H => ?_)
  have H := okp_lt H
  exact oj_vret (pc := 85) (by decide +kernel) rfl (Nat.le_refl _) (Nat.le_refl _) ⟨rfl, H⟩
theorem c_L_look_1 {l : Launch} {f : Nat} {l2 l3 : Int} {M : oM} {K : Int × oM → Prop} (H : okp (p_L_look f 14 l2 l3 M) K) : oKf l m_L_look 4 [vr 18, vr 14, vi l2, vi l3] M K := by
  refine oK_intro (lv := [vr 18, vr 14, vi l2, vi l3]) (by decide +kernel) (Nat.le_of_ble_eq_true rfl) rfl ?_
  refine oj_ald0 (pc := 0) (by decide +kernel) ?_
  refine oj_getR' (pc := 1) f_L_30 s_18_7 (by decide +kernel) ?_
  refine oj_iconst (pc := 4) (v := 0) ⟨by decide, by decide⟩ (by decide +kernel) ?_
  refine oj_ld2 (pc := 5) (by decide +kernel) ?_
  refine oj_iast (pc := 6) (NN := 8) a_25 rfl (by decide +kernel) H (fun H => ?_)
  have H := okp_lt H
  refine oj_ald0 (pc := 7) (by decide +kernel) ?_
  refine oj_getR' (pc := 8) f_L_30 s_18_7 (by decide +kernel) ?_
  refine oj_iconst (pc := 11) (v := 1) ⟨by decide, by decide⟩ (by decide +kernel) ?_
  refine oj_ld3 (pc := 12) (by decide +kernel) ?_
  refine oj_iast (pc := 13) (NN := 8) a_25 rfl (by decide +kernel) H (fun H => ?_)
  have H := okp_lt H
  refine oj_ald0 (pc := 14) (by decide +kernel) ?_
  refine oj_getR' (pc := 15) f_L_30 s_18_7 (by decide +kernel) ?_
  refine oj_iconst (pc := 18) (v := 2) ⟨by decide, by decide⟩ (by decide +kernel) ?_
  refine oj_ald1 (pc := 19) (by decide +kernel) ?_
  refine oj_ld2 (pc := 20) (by decide +kernel) ?_
  refine oj_ld3 (pc := 21) (by decide +kernel) ?_
  refine of_Vi (pc := 22) (as := [_, _]) v_L_70 o_14 rfl rfl (Nat.le_of_ble_eq_true rfl) (by decide +kernel) (by decide) rfl (c_D_debtOf_1 (okp_bind H)) (fun r M H => ?_)
  refine oj_iast (pc := 25) (NN := 8) a_25 rfl (by decide +kernel) H (fun H => ?_)
  have H := okp_lt H
  refine oj_ald0 (pc := 26) (by decide +kernel) ?_
  refine oj_getR' (pc := 27) f_L_30 s_18_7 (by decide +kernel) ?_
  refine oj_iconst (pc := 30) (v := 3) ⟨by decide, by decide⟩ (by decide +kernel) ?_
  refine oj_ald1 (pc := 31) (by decide +kernel) ?_
  refine oj_ld2 (pc := 32) (by decide +kernel) ?_
  refine of_Vi (pc := 33) (as := [_]) v_L_75 o_14 rfl rfl (Nat.le_of_ble_eq_true rfl) (by decide +kernel) (by decide) rfl (c_D_owedBy_1 (okp_bind H)) (fun r M H => ?_)
  refine oj_iast (pc := 36) (NN := 8) a_25 rfl (by decide +kernel) H (fun H => ?_)
  have H := okp_lt H
  refine oj_ald0 (pc := 37) (by decide +kernel) ?_
  refine oj_getR' (pc := 38) f_L_30 s_18_7 (by decide +kernel) ?_
  refine oj_iconst (pc := 41) (v := 4) ⟨by decide, by decide⟩ (by decide +kernel) ?_
  refine oj_ald0 (pc := 42) (by decide +kernel) ?_
  refine oj_getR' (pc := 43) f_L_36 s_18_0 (by decide +kernel) ?_
  refine oj_ld2 (pc := 46) (by decide +kernel) ?_
  refine oj_ld3 (pc := 47) (by decide +kernel) ?_
  refine of_Vi (pc := 48) (as := [_, _]) v_L_79 o_3 rfl rfl (Nat.le_of_ble_eq_true rfl) (by decide +kernel) (by decide) rfl (c_P_way_0 (okp_bind H)) (fun r M H => ?_)
  refine oj_iast (pc := 51) (NN := 8) a_25 rfl (by decide +kernel) H (fun H => ?_)
  have H := okp_lt H
  refine oj_ald0 (pc := 52) (by decide +kernel) ?_
  refine oj_getR' (pc := 53) f_L_30 s_18_7 (by decide +kernel) ?_
  refine oj_iconst (pc := 56) (v := 5) ⟨by decide, by decide⟩ (by decide +kernel) ?_
  refine oj_ald1 (pc := 57) (by decide +kernel) ?_
  refine oj_ld3 (pc := 58) (by decide +kernel) ?_
  refine of_Vi (pc := 59) (as := [_]) v_L_84 o_14 rfl rfl (Nat.le_of_ble_eq_true rfl) (by decide +kernel) (by decide) rfl (c_D_timesChalked_1 (okp_bind H)) (fun r M H => ?_)
  refine oj_iast (pc := 62) (NN := 8) a_25 rfl (by decide +kernel) H (fun H => ?_)
  have H := okp_lt H
  refine oj_ald0 (pc := 63) (by decide +kernel) ?_
  refine oj_getR' (pc := 64) f_L_30 s_18_7 (by decide +kernel) ?_
  refine oj_bipush (pc := 67) (v := 6) ⟨by decide, by decide⟩ (by decide +kernel) ?_
  refine oj_ald1 (pc := 69) (by decide +kernel) ?_
  refine oj_getI' (pc := 70) (ki := 8) f_L_87 s_14_8 rfl (by decide +kernel) ?_
  refine oj_iast (pc := 73) (NN := 8) a_25 rfl (by decide +kernel) H (fun H => ?_)
  have H := okp_lt H
  refine oj_ald0 (pc := 74) (by decide +kernel) ?_
  refine oj_getR' (pc := 75) f_L_30 s_18_7 (by decide +kernel) ?_
  refine oj_bipush (pc := 78) (v := 7) ⟨by decide, by decide⟩ (by decide +kernel) ?_
  refine oj_ald1 (pc := 80) (by decide +kernel) ?_
  refine oj_getI' (pc := 81) (ki := 9) f_L_90 s_14_9 rfl (by decide +kernel) ?_
  refine oj_iast (pc := 84) (NN := 8) a_25 rfl (by decide +kernel) H (fun H => ?_)
  have H := okp_lt H
  exact oj_vret (pc := 85) (by decide +kernel) rfl (Nat.le_refl _) (Nat.le_refl _) ⟨rfl, H⟩
theorem c_L_growth_0 {l : Launch} {f : Nat} {l2 l3 : Int} {M : oM} {K : Int × oM → Prop} (H : okp (p_L_growth f 14 l2 l3 M) K) : oKf l m_L_growth 5 [vr 18, vr 14, vi l2, vi l3] M K := by
  refine oK_intro (lv := [vr 18, vr 14, vi l2, vi l3]) (by decide +kernel) (Nat.le_of_ble_eq_true rfl) rfl ?_
  refine oj_ald0 (pc := 0) (by decide +kernel) ?_
  refine oj_ald1 (pc := 1) (by decide +kernel) ?_
  refine oj_ld2 (pc := 2) (by decide +kernel) ?_
  refine oj_ld3 (pc := 3) (by decide +kernel) ?_
  refine of_Vv (pc := 4) (as := [_, _, _]) v_L_53 o_18 rfl rfl (Nat.le_of_ble_eq_true rfl) (by decide +kernel) (by decide) rfl (c_L_look_1 (okp_bind H)) (fun M H => ?_)
  refine oj_ald0 (pc := 7) (by decide +kernel) ?_
  refine oj_bipush (pc := 8) (v := 105) ⟨by decide, by decide⟩ (by decide +kernel) ?_
  refine oj_bipush (pc := 10) (v := 9) ⟨by decide, by decide⟩ (by decide +kernel) ?_
  refine of_Vi (pc := 12) (as := [_, _]) v_L_61 o_18 rfl rfl (Nat.le_of_ble_eq_true rfl) (by decide +kernel) (by decide) rfl (c_L_firstOf_0 (okp_bind H)) (fun r M H => ?_)
  exact oj_iret (pc := 15) (by decide +kernel) rfl rfl (Nat.le_refl _) (Nat.le_refl _) ⟨rfl, H⟩
theorem c_L_growth_1 {l : Launch} {f : Nat} {l2 l3 : Int} {M : oM} {K : Int × oM → Prop} (H : okp (p_L_growth f 6 l2 l3 M) K) : oKf l m_L_growth 5 [vr 18, vr 6, vi l2, vi l3] M K := by
  refine oK_intro (lv := [vr 18, vr 6, vi l2, vi l3]) (by decide +kernel) (Nat.le_of_ble_eq_true rfl) rfl ?_
  refine oj_ald0 (pc := 0) (by decide +kernel) ?_
  refine oj_ald1 (pc := 1) (by decide +kernel) ?_
  refine oj_ld2 (pc := 2) (by decide +kernel) ?_
  refine oj_ld3 (pc := 3) (by decide +kernel) ?_
  refine of_Vv (pc := 4) (as := [_, _, _]) v_L_53 o_18 rfl rfl (Nat.le_of_ble_eq_true rfl) (by decide +kernel) (by decide) rfl (c_L_look_0 (okp_bind H)) (fun M H => ?_)
  refine oj_ald0 (pc := 7) (by decide +kernel) ?_
  refine oj_bipush (pc := 8) (v := 105) ⟨by decide, by decide⟩ (by decide +kernel) ?_
  refine oj_bipush (pc := 10) (v := 9) ⟨by decide, by decide⟩ (by decide +kernel) ?_
  refine of_Vi (pc := 12) (as := [_, _]) v_L_61 o_18 rfl rfl (Nat.le_of_ble_eq_true rfl) (by decide +kernel) (by decide) rfl (c_L_firstOf_0 (okp_bind H)) (fun r M H => ?_)
  exact oj_iret (pc := 15) (by decide +kernel) rfl rfl (Nat.le_refl _) (Nat.le_refl _) ⟨rfl, H⟩
theorem c_L_rain_0 {l : Launch} {f : Nat} {l1 : Int} {M : oM} {K : Int × oM → Prop} (H : okp (p_L_rain f l1 M) K) : oKf l m_L_rain 5 [vr 18, vi l1] M K := by
  refine oK_intro (lv := [vr 18, vi l1]) (by decide +kernel) (Nat.le_of_ble_eq_true rfl) rfl ?_
  refine oj_ald0 (pc := 0) (by decide +kernel) ?_
  refine oj_getR' (pc := 1) f_L_30 s_18_7 (by decide +kernel) ?_
  refine oj_iconst (pc := 4) (v := 0) ⟨by decide, by decide⟩ (by decide +kernel) ?_
  refine of_Sv (pc := 5) (as := [_, _]) v_L_64 rfl rfl (Nat.le_of_ble_eq_true rfl) (by decide +kernel) (by decide) rfl (c_JA_fill_2 (okp_bind H)) (fun M H => ?_)
  refine oj_ald0 (pc := 8) (by decide +kernel) ?_
  refine oj_getR' (pc := 9) f_L_30 s_18_7 (by decide +kernel) ?_
  refine oj_bipush (pc := 12) (v := 7) ⟨by decide, by decide⟩ (by decide +kernel) ?_
  refine oj_ld1 (pc := 14) (by decide +kernel) ?_
  refine oj_iast (pc := 15) (NN := 8) a_25 rfl (by decide +kernel) H (fun H => ?_)
  have H := okp_lt H
  refine oj_ald0 (pc := 16) (by decide +kernel) ?_
  refine oj_bipush (pc := 17) (v := 114) ⟨by decide, by decide⟩ (by decide +kernel) ?_
  refine oj_bipush (pc := 19) (v := 10) ⟨by decide, by decide⟩ (by decide +kernel) ?_
  refine of_Vi (pc := 21) (as := [_, _]) v_L_61 o_18 rfl rfl (Nat.le_of_ble_eq_true rfl) (by decide +kernel) (by decide) rfl (c_L_firstOf_0 (okp_bind H)) (fun r M H => ?_)
  exact oj_iret (pc := 24) (by decide +kernel) rfl rfl (Nat.le_refl _) (Nat.le_refl _) ⟨rfl, H⟩
theorem c_C_beginDay_0 {l : Launch} {f : Nat} {M : oM} {K : Int × oM → Prop} (H : okp (p_C_beginDay f 14 M) K) : oKf l m_C_beginDay 6 [vr 41, vr 14] M K := by
  refine oK_intro (lv := [vr 41, vr 14, vu, vu, vu]) (by decide +kernel) (Nat.le_of_ble_eq_true rfl) rfl ?_
  have h46 : ∀ (g : Nat) (l2 : Int) (M : oM), okp (iter (p_C_beginDay_L46 f 14) g (l2, M)) K → oJ l m_C_beginDay (oEf 6 K) 0 0 46 [vr 41, vr 14, vi l2, vu, vu] [] WD M := by
    intro g l2 M H
    have HL := fun hs => iter_J' (Jh := fun s => oJ l m_C_beginDay (oEf 6 K) 0 0 46 [vr 41, vr 14, vi s.1, vu, vu] [] WD s.2) (G := K) hs g (l2, M) H
    refine HL ?_
    intro K46 s i46 e46 H
    obtain ⟨l2, M⟩ := s
    show oJ l m_C_beginDay (oEf 6 K) 0 0 46 [vr 41, vr 14, vi l2, vu, vu] [] WD M
    have h113 : ∀ (l2 : Int) (M : oM), okp (p_C_beginDay_B113_46 f 14 l2 M) K46 → oJ l m_C_beginDay (oEf 6 K) 0 0 113 [vr 41, vr 14, vi l2, vu, vu] [] WD M := by
      intro l2 M H
      refine oj_inc2 (pc := 113) (d := 1) (by decide +kernel) (by decide +kernel) ?_
      have H := okp_lt H
      refine oj_goto (pc := 116) (off := -70) (tgt := 46) (by decide +kernel) (by decide) ?_
      have H := i46 _ H
      exact H
    refine oj_ld2 (pc := 46) (by decide +kernel) ?_
    refine oj_bipush (pc := 47) (v := 100) ⟨by decide, by decide⟩ (by decide +kernel) ?_
    refine oj_icmp_ge (pc := 49) (off := 70) (tgt := 119) (by decide +kernel) (by decide) H (fun _ H => ?_) (fun _ H => ?_)
    · have H := e46 _ H
      exact oj_vret (pc := 119) (by decide +kernel) rfl (Nat.le_refl _) (Nat.le_refl _) ⟨rfl, H⟩
    · refine oj_ald1 (pc := 52) (by decide +kernel) ?_
      refine oj_getR' (pc := 53) f_C_81 s_14_0 (by decide +kernel) ?_
      refine oj_ld2 (pc := 56) (by decide +kernel) ?_
      refine oj_iald (pc := 57) (NN := 100) a_15 rfl (by decide +kernel) H (fun H => ?_)
      refine oj_st3 (pc := 58) (by decide +kernel) (by decide +kernel) ?_
      have H := okp_lt H
      refine oj_ld3 (pc := 59) (by decide +kernel) ?_
      refine oj_if_le (pc := 60) (off := 53) (tgt := 113) (by decide +kernel) (by decide) H (fun _ H => ?_) (fun _ H => ?_)
      · refine oj_le (lv' := [_, _, _, vu, vu]) ⟨Or.inr rfl, Or.inr rfl, Or.inr rfl, Or.inl rfl, Or.inr rfl, trivial⟩ ?_
        exact h113 _ _ H
      · refine oj_ld3 (pc := 63) (by decide +kernel) ?_
        refine oj_ald0 (pc := 64) (by decide +kernel) ?_
        refine oj_getR' (pc := 65) f_C_19 s_41_1 (by decide +kernel) ?_
        refine oj_ald1 (pc := 68) (by decide +kernel) ?_
        refine oj_ld2 (pc := 69) (by decide +kernel) ?_
        refine oj_bipush (pc := 70) (v := 10) ⟨by decide, by decide⟩ (by decide +kernel) ?_
        refine oj_idiv (pc := 72) (by decide +kernel) H (fun _ H => ?_)
        refine oj_ld2 (pc := 73) (by decide +kernel) ?_
        refine oj_bipush (pc := 74) (v := 10) ⟨by decide, by decide⟩ (by decide +kernel) ?_
        refine oj_irem (pc := 76) (by decide +kernel) H (fun _ H => ?_)
        refine of_Vi (pc := 77) (as := [_, _, _]) v_C_84 o_18 rfl rfl (Nat.le_of_ble_eq_true rfl) (by decide +kernel) (by decide) rfl (c_L_growth_0 (okp_bind H)) (fun r M H => ?_)
        refine oj_iadd (pc := 80) (by decide +kernel) ?_
        refine oj_st4 (pc := 81) (by decide +kernel) (by decide +kernel) ?_
        have H := okp_lt H
        refine oj_ald1 (pc := 83) (by decide +kernel) ?_
        refine oj_getR' (pc := 84) f_C_81 s_14_0 (by decide +kernel) ?_
        refine oj_ld2 (pc := 87) (by decide +kernel) ?_
        refine oj_bipush (pc := 88) (v := 99) ⟨by decide, by decide⟩ (by decide +kernel) ?_
        refine oj_ld4 (pc := 90) (by decide +kernel) ?_
        refine oj_mmin (pc := 92) q_C_88 mm_min (Nat.le_of_ble_eq_true rfl) (Nat.le_of_ble_eq_true rfl) (Nat.zero_le _) (Nat.zero_le _) (by decide +kernel) ?_
        refine oj_iast (pc := 95) (NN := 100) a_15 rfl (by decide +kernel) H (fun H => ?_)
        have H := okp_lt H
        refine oj_ald0 (pc := 96) (by decide +kernel) ?_
        refine oj_dup (pc := 97) (by decide +kernel) ?_
        refine oj_getI' (pc := 98) (ki := 4) f_C_29 s_41_4 rfl (by decide +kernel) ?_
        refine oj_ald1 (pc := 101) (by decide +kernel) ?_
        refine oj_getR' (pc := 102) f_C_81 s_14_0 (by decide +kernel) ?_
        refine oj_ld2 (pc := 105) (by decide +kernel) ?_
        refine oj_iald (pc := 106) (NN := 100) a_15 rfl (by decide +kernel) H (fun H => ?_)
        refine oj_ld3 (pc := 107) (by decide +kernel) ?_
        refine oj_isub (pc := 108) (by decide +kernel) ?_
        refine oj_iadd (pc := 109) (by decide +kernel) ?_
        refine oj_putI' (pc := 110) (ki := 4) f_C_29 s_41_4 rfl (by decide +kernel) ?_
        have H := okp_lt H
        refine oj_le (lv' := [_, _, _, vu, vu]) ⟨Or.inr rfl, Or.inr rfl, Or.inr rfl, Or.inl rfl, Or.inl rfl, trivial⟩ ?_
        exact h113 _ _ H
  have h44 : ∀ (M : oM), okp (p_C_beginDay_B44 f 14 M) K → oJ l m_C_beginDay (oEf 6 K) 0 0 44 [vr 41, vr 14, vu, vu, vu] [] WD M := by
    intro  M H
    refine oj_iconst (pc := 44) (v := 0) ⟨by decide, by decide⟩ (by decide +kernel) ?_
    refine oj_st2 (pc := 45) (by decide +kernel) (by decide +kernel) ?_
    exact h46 _ _ _ H
  have h24 : ∀ (s1 : Int) (M : oM), okp (p_C_beginDay_B24 f 14 s1 M) K → oJ l m_C_beginDay (oEf 6 K) 0 0 24 [vr 41, vr 14, vu, vu, vu] [vi s1, vr 14] WD M := by
    intro s1 M H
    refine oj_putZ' (pc := 24) (ki := 10) f_C_77 s_14_10 rfl (by decide +kernel) H (fun H => ?_)
    have H := okp_lt H
    refine oj_ald1 (pc := 27) (by decide +kernel) ?_
    refine oj_getI' (pc := 28) (ki := 10) f_C_77 s_14_10 rfl (by decide +kernel) ?_
    refine oj_if_eq (pc := 31) (off := 13) (tgt := 44) (by decide +kernel) (by decide) H (fun _ H => ?_) (fun _ H => ?_)
    · exact h44  _ H
    · refine oj_ald0 (pc := 34) (by decide +kernel) ?_
      refine oj_dup (pc := 35) (by decide +kernel) ?_
      refine oj_getI' (pc := 36) (ki := 3) f_C_26 s_41_3 rfl (by decide +kernel) ?_
      refine oj_iconst (pc := 39) (v := 1) ⟨by decide, by decide⟩ (by decide +kernel) ?_
      refine oj_iadd (pc := 40) (by decide +kernel) ?_
      refine oj_putI' (pc := 41) (ki := 3) f_C_26 s_41_3 rfl (by decide +kernel) ?_
      have H := okp_lt H
      exact h44  _ H
  refine oj_ald1 (pc := 0) (by decide +kernel) ?_
  refine oj_ald1 (pc := 1) (by decide +kernel) ?_
  refine of_Vi (pc := 2) (as := []) v_C_67 o_14 rfl rfl (Nat.le_of_ble_eq_true rfl) (by decide +kernel) (by decide) rfl (c_D_draw_0 (okp_bind H)) (fun r M H => ?_)
  refine oj_ald0 (pc := 5) (by decide +kernel) ?_
  refine oj_getR' (pc := 6) f_C_19 s_41_1 (by decide +kernel) ?_
  refine oj_ald1 (pc := 9) (by decide +kernel) ?_
  refine oj_getI' (pc := 10) (ki := 9) f_C_36 s_14_9 rfl (by decide +kernel) ?_
  refine of_Vi (pc := 13) (as := [_]) v_C_71 o_18 rfl rfl (Nat.le_of_ble_eq_true rfl) (by decide +kernel) (by decide) rfl (c_L_rain_0 (okp_bind H)) (fun r M H => ?_)
  refine oj_icmp_ge (pc := 16) (off := 7) (tgt := 23) (by decide +kernel) (by decide) H (fun _ H => ?_) (fun _ H => ?_)
  · refine oj_iconst (pc := 23) (v := 0) ⟨by decide, by decide⟩ (by decide +kernel) ?_
    exact h24 _ _ H
  · refine oj_iconst (pc := 19) (v := 1) ⟨by decide, by decide⟩ (by decide +kernel) ?_
    refine oj_goto (pc := 20) (off := 4) (tgt := 24) (by decide +kernel) (by decide) ?_
    exact h24 _ _ H
theorem c_C_beginDay_1 {l : Launch} {f : Nat} {M : oM} {K : Int × oM → Prop} (H : okp (p_C_beginDay f 6 M) K) : oKf l m_C_beginDay 6 [vr 41, vr 6] M K := by
  refine oK_intro (lv := [vr 41, vr 6, vu, vu, vu]) (by decide +kernel) (Nat.le_of_ble_eq_true rfl) rfl ?_
  have h46 : ∀ (g : Nat) (l2 : Int) (M : oM), okp (iter (p_C_beginDay_L46 f 6) g (l2, M)) K → oJ l m_C_beginDay (oEf 6 K) 0 0 46 [vr 41, vr 6, vi l2, vu, vu] [] WD M := by
    intro g l2 M H
    have HL := fun hs => iter_J' (Jh := fun s => oJ l m_C_beginDay (oEf 6 K) 0 0 46 [vr 41, vr 6, vi s.1, vu, vu] [] WD s.2) (G := K) hs g (l2, M) H
    refine HL ?_
    intro K46 s i46 e46 H
    obtain ⟨l2, M⟩ := s
    show oJ l m_C_beginDay (oEf 6 K) 0 0 46 [vr 41, vr 6, vi l2, vu, vu] [] WD M
    have h113 : ∀ (l2 : Int) (M : oM), okp (p_C_beginDay_B113_46 f 6 l2 M) K46 → oJ l m_C_beginDay (oEf 6 K) 0 0 113 [vr 41, vr 6, vi l2, vu, vu] [] WD M := by
      intro l2 M H
      refine oj_inc2 (pc := 113) (d := 1) (by decide +kernel) (by decide +kernel) ?_
      have H := okp_lt H
      refine oj_goto (pc := 116) (off := -70) (tgt := 46) (by decide +kernel) (by decide) ?_
      have H := i46 _ H
      exact H
    refine oj_ld2 (pc := 46) (by decide +kernel) ?_
    refine oj_bipush (pc := 47) (v := 100) ⟨by decide, by decide⟩ (by decide +kernel) ?_
    refine oj_icmp_ge (pc := 49) (off := 70) (tgt := 119) (by decide +kernel) (by decide) H (fun _ H => ?_) (fun _ H => ?_)
    · have H := e46 _ H
      exact oj_vret (pc := 119) (by decide +kernel) rfl (Nat.le_refl _) (Nat.le_refl _) ⟨rfl, H⟩
    · refine oj_ald1 (pc := 52) (by decide +kernel) ?_
      refine oj_getR' (pc := 53) f_C_81 s_6_0 (by decide +kernel) ?_
      refine oj_ld2 (pc := 56) (by decide +kernel) ?_
      refine oj_iald (pc := 57) (NN := 100) a_7 rfl (by decide +kernel) H (fun H => ?_)
      refine oj_st3 (pc := 58) (by decide +kernel) (by decide +kernel) ?_
      have H := okp_lt H
      refine oj_ld3 (pc := 59) (by decide +kernel) ?_
      refine oj_if_le (pc := 60) (off := 53) (tgt := 113) (by decide +kernel) (by decide) H (fun _ H => ?_) (fun _ H => ?_)
      · refine oj_le (lv' := [_, _, _, vu, vu]) ⟨Or.inr rfl, Or.inr rfl, Or.inr rfl, Or.inl rfl, Or.inr rfl, trivial⟩ ?_
        exact h113 _ _ H
      · refine oj_ld3 (pc := 63) (by decide +kernel) ?_
        refine oj_ald0 (pc := 64) (by decide +kernel) ?_
        refine oj_getR' (pc := 65) f_C_19 s_41_1 (by decide +kernel) ?_
        refine oj_ald1 (pc := 68) (by decide +kernel) ?_
        refine oj_ld2 (pc := 69) (by decide +kernel) ?_
        refine oj_bipush (pc := 70) (v := 10) ⟨by decide, by decide⟩ (by decide +kernel) ?_
        refine oj_idiv (pc := 72) (by decide +kernel) H (fun _ H => ?_)
        refine oj_ld2 (pc := 73) (by decide +kernel) ?_
        refine oj_bipush (pc := 74) (v := 10) ⟨by decide, by decide⟩ (by decide +kernel) ?_
        refine oj_irem (pc := 76) (by decide +kernel) H (fun _ H => ?_)
        refine of_Vi (pc := 77) (as := [_, _, _]) v_C_84 o_18 rfl rfl (Nat.le_of_ble_eq_true rfl) (by decide +kernel) (by decide) rfl (c_L_growth_1 (okp_bind H)) (fun r M H => ?_)
        refine oj_iadd (pc := 80) (by decide +kernel) ?_
        refine oj_st4 (pc := 81) (by decide +kernel) (by decide +kernel) ?_
        have H := okp_lt H
        refine oj_ald1 (pc := 83) (by decide +kernel) ?_
        refine oj_getR' (pc := 84) f_C_81 s_6_0 (by decide +kernel) ?_
        refine oj_ld2 (pc := 87) (by decide +kernel) ?_
        refine oj_bipush (pc := 88) (v := 99) ⟨by decide, by decide⟩ (by decide +kernel) ?_
        refine oj_ld4 (pc := 90) (by decide +kernel) ?_
        refine oj_mmin (pc := 92) q_C_88 mm_min (Nat.le_of_ble_eq_true rfl) (Nat.le_of_ble_eq_true rfl) (Nat.zero_le _) (Nat.zero_le _) (by decide +kernel) ?_
        refine oj_iast (pc := 95) (NN := 100) a_7 rfl (by decide +kernel) H (fun H => ?_)
        have H := okp_lt H
        refine oj_ald0 (pc := 96) (by decide +kernel) ?_
        refine oj_dup (pc := 97) (by decide +kernel) ?_
        refine oj_getI' (pc := 98) (ki := 4) f_C_29 s_41_4 rfl (by decide +kernel) ?_
        refine oj_ald1 (pc := 101) (by decide +kernel) ?_
        refine oj_getR' (pc := 102) f_C_81 s_6_0 (by decide +kernel) ?_
        refine oj_ld2 (pc := 105) (by decide +kernel) ?_
        refine oj_iald (pc := 106) (NN := 100) a_7 rfl (by decide +kernel) H (fun H => ?_)
        refine oj_ld3 (pc := 107) (by decide +kernel) ?_
        refine oj_isub (pc := 108) (by decide +kernel) ?_
        refine oj_iadd (pc := 109) (by decide +kernel) ?_
        refine oj_putI' (pc := 110) (ki := 4) f_C_29 s_41_4 rfl (by decide +kernel) ?_
        have H := okp_lt H
        refine oj_le (lv' := [_, _, _, vu, vu]) ⟨Or.inr rfl, Or.inr rfl, Or.inr rfl, Or.inl rfl, Or.inl rfl, trivial⟩ ?_
        exact h113 _ _ H
  have h44 : ∀ (M : oM), okp (p_C_beginDay_B44 f 6 M) K → oJ l m_C_beginDay (oEf 6 K) 0 0 44 [vr 41, vr 6, vu, vu, vu] [] WD M := by
    intro  M H
    refine oj_iconst (pc := 44) (v := 0) ⟨by decide, by decide⟩ (by decide +kernel) ?_
    refine oj_st2 (pc := 45) (by decide +kernel) (by decide +kernel) ?_
    exact h46 _ _ _ H
  have h24 : ∀ (s1 : Int) (M : oM), okp (p_C_beginDay_B24 f 6 s1 M) K → oJ l m_C_beginDay (oEf 6 K) 0 0 24 [vr 41, vr 6, vu, vu, vu] [vi s1, vr 6] WD M := by
    intro s1 M H
    refine oj_putZ' (pc := 24) (ki := 10) f_C_77 s_6_10 rfl (by decide +kernel) H (fun H => ?_)
    have H := okp_lt H
    refine oj_ald1 (pc := 27) (by decide +kernel) ?_
    refine oj_getI' (pc := 28) (ki := 10) f_C_77 s_6_10 rfl (by decide +kernel) ?_
    refine oj_if_eq (pc := 31) (off := 13) (tgt := 44) (by decide +kernel) (by decide) H (fun _ H => ?_) (fun _ H => ?_)
    · exact h44  _ H
    · refine oj_ald0 (pc := 34) (by decide +kernel) ?_
      refine oj_dup (pc := 35) (by decide +kernel) ?_
      refine oj_getI' (pc := 36) (ki := 3) f_C_26 s_41_3 rfl (by decide +kernel) ?_
      refine oj_iconst (pc := 39) (v := 1) ⟨by decide, by decide⟩ (by decide +kernel) ?_
      refine oj_iadd (pc := 40) (by decide +kernel) ?_
      refine oj_putI' (pc := 41) (ki := 3) f_C_26 s_41_3 rfl (by decide +kernel) ?_
      have H := okp_lt H
      exact h44  _ H
  refine oj_ald1 (pc := 0) (by decide +kernel) ?_
  refine oj_ald1 (pc := 1) (by decide +kernel) ?_
  refine of_Vi (pc := 2) (as := []) v_C_67 o_6 rfl rfl (Nat.le_of_ble_eq_true rfl) (by decide +kernel) (by decide) rfl (c_D_draw_1 (okp_bind H)) (fun r M H => ?_)
  refine oj_ald0 (pc := 5) (by decide +kernel) ?_
  refine oj_getR' (pc := 6) f_C_19 s_41_1 (by decide +kernel) ?_
  refine oj_ald1 (pc := 9) (by decide +kernel) ?_
  refine oj_getI' (pc := 10) (ki := 9) f_C_36 s_6_9 rfl (by decide +kernel) ?_
  refine of_Vi (pc := 13) (as := [_]) v_C_71 o_18 rfl rfl (Nat.le_of_ble_eq_true rfl) (by decide +kernel) (by decide) rfl (c_L_rain_0 (okp_bind H)) (fun r M H => ?_)
  refine oj_icmp_ge (pc := 16) (off := 7) (tgt := 23) (by decide +kernel) (by decide) H (fun _ H => ?_) (fun _ H => ?_)
  · refine oj_iconst (pc := 23) (v := 0) ⟨by decide, by decide⟩ (by decide +kernel) ?_
    exact h24 _ _ H
  · refine oj_iconst (pc := 19) (v := 1) ⟨by decide, by decide⟩ (by decide +kernel) ?_
    refine oj_goto (pc := 20) (off := 4) (tgt := 24) (by decide +kernel) (by decide) ?_
    exact h24 _ _ H
theorem c_D_sendTo_0 {l : Launch} {f : Nat} {l1 l2 : Int} {M : oM} {K : Int × oM → Prop} (H : okp (p_D_sendTo f 14 l1 l2 M) K) : oKf l m_D_sendTo 2 [vr 14, vi l1, vi l2] M K := by
  refine oK_intro (lv := [vr 14, vi l1, vi l2]) (by decide +kernel) (Nat.le_of_ble_eq_true rfl) rfl ?_
  refine oj_ald0 (pc := 0) (by decide +kernel) ?_
  refine oj_ald0 (pc := 1) (by decide +kernel) ?_
  refine oj_getI' (pc := 2) (ki := 4) f_D_21 s_14_4 rfl (by decide +kernel) ?_
  refine oj_putI' (pc := 5) (ki := 5) f_D_25 s_14_5 rfl (by decide +kernel) ?_
  have H := okp_lt H
  refine oj_ald0 (pc := 8) (by decide +kernel) ?_
  refine oj_ld1 (pc := 9) (by decide +kernel) ?_
  refine oj_putI' (pc := 10) (ki := 6) f_D_28 s_14_6 rfl (by decide +kernel) ?_
  have H := okp_lt H
  refine oj_ald0 (pc := 13) (by decide +kernel) ?_
  refine oj_ld2 (pc := 14) (by decide +kernel) ?_
  refine oj_putI' (pc := 15) (ki := 7) f_D_43 s_14_7 rfl (by decide +kernel) ?_
  have H := okp_lt H
  refine oj_ald0 (pc := 18) (by decide +kernel) ?_
  refine oj_iconst (pc := 19) (v := -1) ⟨by decide, by decide⟩ (by decide +kernel) ?_
  refine oj_putI' (pc := 20) (ki := 4) f_D_21 s_14_4 rfl (by decide +kernel) ?_
  have H := okp_lt H
  exact oj_vret (pc := 23) (by decide +kernel) rfl (Nat.le_refl _) (Nat.le_refl _) ⟨rfl, H⟩
theorem c_D_sendTo_1 {l : Launch} {f : Nat} {l1 l2 : Int} {M : oM} {K : Int × oM → Prop} (H : okp (p_D_sendTo f 6 l1 l2 M) K) : oKf l m_D_sendTo 2 [vr 6, vi l1, vi l2] M K := by
  refine oK_intro (lv := [vr 6, vi l1, vi l2]) (by decide +kernel) (Nat.le_of_ble_eq_true rfl) rfl ?_
  refine oj_ald0 (pc := 0) (by decide +kernel) ?_
  refine oj_ald0 (pc := 1) (by decide +kernel) ?_
  refine oj_getI' (pc := 2) (ki := 4) f_D_21 s_6_4 rfl (by decide +kernel) ?_
  refine oj_putI' (pc := 5) (ki := 5) f_D_25 s_6_5 rfl (by decide +kernel) ?_
  have H := okp_lt H
  refine oj_ald0 (pc := 8) (by decide +kernel) ?_
  refine oj_ld1 (pc := 9) (by decide +kernel) ?_
  refine oj_putI' (pc := 10) (ki := 6) f_D_28 s_6_6 rfl (by decide +kernel) ?_
  have H := okp_lt H
  refine oj_ald0 (pc := 13) (by decide +kernel) ?_
  refine oj_ld2 (pc := 14) (by decide +kernel) ?_
  refine oj_putI' (pc := 15) (ki := 7) f_D_43 s_6_7 rfl (by decide +kernel) ?_
  have H := okp_lt H
  refine oj_ald0 (pc := 18) (by decide +kernel) ?_
  refine oj_iconst (pc := 19) (v := -1) ⟨by decide, by decide⟩ (by decide +kernel) ?_
  refine oj_putI' (pc := 20) (ki := 4) f_D_21 s_6_4 rfl (by decide +kernel) ?_
  have H := okp_lt H
  exact oj_vret (pc := 23) (by decide +kernel) rfl (Nat.le_refl _) (Nat.le_refl _) ⟨rfl, H⟩
theorem c_L_liking_0 {l : Launch} {f : Nat} {l2 l3 : Int} {M : oM} {K : Int × oM → Prop} (H : okp (p_L_liking f 6 l2 l3 M) K) : oKf l m_L_liking 5 [vr 18, vr 6, vi l2, vi l3] M K := by
  refine oK_intro (lv := [vr 18, vr 6, vi l2, vi l3, vu]) (by decide +kernel) (Nat.le_of_ble_eq_true rfl) rfl ?_
  have h10 : ∀ (g : Nat) (l4 : Int) (M : oM), okp (iter (p_L_liking_L10 f 6) g (l4, M)) K → oJ l m_L_liking (oEf 5 K) 0 0 10 [vr 18, vr 6, vu, vu, vi l4] [] WD M := by
    intro g l4 M H
    have HL := fun hs => iter_J' (Jh := fun s => oJ l m_L_liking (oEf 5 K) 0 0 10 [vr 18, vr 6, vu, vu, vi s.1] [] WD s.2) (G := K) hs g (l4, M) H
    refine HL ?_
    intro K10 s i10 e10 H
    obtain ⟨l4, M⟩ := s
    show oJ l m_L_liking (oEf 5 K) 0 0 10 [vr 18, vr 6, vu, vu, vi l4] [] WD M
    have h67 : ∀ (M : oM), okp (p_L_liking_B67_10 f 6 M) K10 → oJ l m_L_liking (oEf 5 K) 0 0 67 [vr 18, vr 6, vu, vu, vu] [] WD M := by
      intro  M H
      refine oj_ald0 (pc := 67) (by decide +kernel) ?_
      refine oj_bipush (pc := 68) (v := 101) ⟨by decide, by decide⟩ (by decide +kernel) ?_
      refine oj_sipush (pc := 70) (v := 9999) ⟨by decide, by decide⟩ (by decide +kernel) ?_
      refine of_Vi (pc := 73) (as := [_, _]) v_L_61 o_18 rfl rfl (Nat.le_of_ble_eq_true rfl) (by decide +kernel) (by decide) rfl (c_L_firstOf_0 (okp_bind H)) (fun r M H => ?_)
      have H := e10 _ H
      exact oj_iret (pc := 76) (by decide +kernel) rfl rfl (Nat.le_refl _) (Nat.le_refl _) ⟨rfl, H⟩
    have h61 : ∀ (l4 : Int) (M : oM), okp (p_L_liking_B61_10 f 6 l4 M) K10 → oJ l m_L_liking (oEf 5 K) 0 0 61 [vr 18, vr 6, vu, vu, vi l4] [] WD M := by
      intro l4 M H
      refine oj_inc4 (pc := 61) (d := 1) (by decide +kernel) (by decide +kernel) ?_
      have H := okp_lt H
      refine oj_goto (pc := 64) (off := -54) (tgt := 10) (by decide +kernel) (by decide) ?_
      have H := i10 _ H
      exact H
    refine oj_ld4 (pc := 10) (by decide +kernel) ?_
    refine oj_ald0 (pc := 12) (by decide +kernel) ?_
    refine oj_getI' (pc := 13) (ki := 10) f_L_50 s_18_10 rfl (by decide +kernel) ?_
    refine oj_icmp_ge (pc := 16) (off := 51) (tgt := 67) (by decide +kernel) (by decide) H (fun _ H => ?_) (fun _ H => ?_)
    · refine oj_le (lv' := [_, _, vu, vu, vu]) ⟨Or.inr rfl, Or.inr rfl, Or.inr rfl, Or.inr rfl, Or.inl rfl, trivial⟩ ?_
      exact h67  _ H
    · refine oj_ld4 (pc := 19) (by decide +kernel) ?_
      refine oj_bipush (pc := 21) (v := 16) ⟨by decide, by decide⟩ (by decide +kernel) ?_
      refine oj_icmp_ge (pc := 23) (off := 44) (tgt := 67) (by decide +kernel) (by decide) H (fun _ H => ?_) (fun _ H => ?_)
      · refine oj_le (lv' := [_, _, vu, vu, vu]) ⟨Or.inr rfl, Or.inr rfl, Or.inr rfl, Or.inr rfl, Or.inl rfl, trivial⟩ ?_
        exact h67  _ H
      · refine oj_ald0 (pc := 26) (by decide +kernel) ?_
        refine oj_getR' (pc := 27) f_L_18 s_18_3 (by decide +kernel) ?_
        refine oj_ld4 (pc := 30) (by decide +kernel) ?_
        refine oj_iald (pc := 32) (NN := 16) a_21 rfl (by decide +kernel) H (fun H => ?_)
        refine oj_bipush (pc := 33) (v := 115) ⟨by decide, by decide⟩ (by decide +kernel) ?_
        refine oj_icmp_ne (pc := 35) (off := 26) (tgt := 61) (by decide +kernel) (by decide) H (fun _ H => ?_) (fun _ H => ?_)
        · exact h61 _ _ H
        · refine oj_ald0 (pc := 38) (by decide +kernel) ?_
          refine oj_ald0 (pc := 39) (by decide +kernel) ?_
          refine oj_getR' (pc := 40) f_L_24 s_18_5 (by decide +kernel) ?_
          refine oj_ld4 (pc := 43) (by decide +kernel) ?_
          refine oj_iald (pc := 45) (NN := 16) a_23 rfl (by decide +kernel) H (fun H => ?_)
          refine oj_ald0 (pc := 46) (by decide +kernel) ?_
          refine oj_getR' (pc := 47) f_L_27 s_18_6 (by decide +kernel) ?_
          refine oj_ld4 (pc := 50) (by decide +kernel) ?_
          refine oj_iald (pc := 52) (NN := 16) a_24 rfl (by decide +kernel) H (fun H => ?_)
          refine of_Vi (pc := 53) (as := [_, _]) v_L_57 o_18 rfl rfl (Nat.le_of_ble_eq_true rfl) (by decide +kernel) (by decide) rfl (c_L_reckoned_0 (okp_bind H)) (fun r M H => ?_)
          refine oj_if_eq (pc := 56) (off := 5) (tgt := 61) (by decide +kernel) (by decide) H (fun _ H => ?_) (fun _ H => ?_)
          · exact h61 _ _ H
          · refine oj_iconst (pc := 59) (v := 0) ⟨by decide, by decide⟩ (by decide +kernel) ?_
            have H := e10 _ H
            exact oj_iret (pc := 60) (by decide +kernel) rfl rfl (Nat.le_refl _) (Nat.le_refl _) ⟨rfl, H⟩
  refine oj_ald0 (pc := 0) (by decide +kernel) ?_
  refine oj_ald1 (pc := 1) (by decide +kernel) ?_
  refine oj_ld2 (pc := 2) (by decide +kernel) ?_
  refine oj_ld3 (pc := 3) (by decide +kernel) ?_
  refine of_Vv (pc := 4) (as := [_, _, _]) v_L_53 o_18 rfl rfl (Nat.le_of_ble_eq_true rfl) (by decide +kernel) (by decide) rfl (c_L_look_0 (okp_bind H)) (fun M H => ?_)
  refine oj_iconst (pc := 7) (v := 0) ⟨by decide, by decide⟩ (by decide +kernel) ?_
  refine oj_st4 (pc := 8) (by decide +kernel) (by decide +kernel) ?_
  refine oj_le (lv' := [_, _, vu, vu, _]) ⟨Or.inr rfl, Or.inr rfl, Or.inl rfl, Or.inl rfl, Or.inr rfl, trivial⟩ ?_
  exact h10 _ _ _ H
theorem c_L_liking_1 {l : Launch} {f : Nat} {l2 l3 : Int} {M : oM} {K : Int × oM → Prop} (H : okp (p_L_liking f 14 l2 l3 M) K) : oKf l m_L_liking 5 [vr 18, vr 14, vi l2, vi l3] M K := by
  refine oK_intro (lv := [vr 18, vr 14, vi l2, vi l3, vu]) (by decide +kernel) (Nat.le_of_ble_eq_true rfl) rfl ?_
  have h10 : ∀ (g : Nat) (l4 : Int) (M : oM), okp (iter (p_L_liking_L10 f 14) g (l4, M)) K → oJ l m_L_liking (oEf 5 K) 0 0 10 [vr 18, vr 14, vu, vu, vi l4] [] WD M := by
    intro g l4 M H
    have HL := fun hs => iter_J' (Jh := fun s => oJ l m_L_liking (oEf 5 K) 0 0 10 [vr 18, vr 14, vu, vu, vi s.1] [] WD s.2) (G := K) hs g (l4, M) H
    refine HL ?_
    intro K10 s i10 e10 H
    obtain ⟨l4, M⟩ := s
    show oJ l m_L_liking (oEf 5 K) 0 0 10 [vr 18, vr 14, vu, vu, vi l4] [] WD M
    have h67 : ∀ (M : oM), okp (p_L_liking_B67_10 f 14 M) K10 → oJ l m_L_liking (oEf 5 K) 0 0 67 [vr 18, vr 14, vu, vu, vu] [] WD M := by
      intro  M H
      refine oj_ald0 (pc := 67) (by decide +kernel) ?_
      refine oj_bipush (pc := 68) (v := 101) ⟨by decide, by decide⟩ (by decide +kernel) ?_
      refine oj_sipush (pc := 70) (v := 9999) ⟨by decide, by decide⟩ (by decide +kernel) ?_
      refine of_Vi (pc := 73) (as := [_, _]) v_L_61 o_18 rfl rfl (Nat.le_of_ble_eq_true rfl) (by decide +kernel) (by decide) rfl (c_L_firstOf_0 (okp_bind H)) (fun r M H => ?_)
      have H := e10 _ H
      exact oj_iret (pc := 76) (by decide +kernel) rfl rfl (Nat.le_refl _) (Nat.le_refl _) ⟨rfl, H⟩
    have h61 : ∀ (l4 : Int) (M : oM), okp (p_L_liking_B61_10 f 14 l4 M) K10 → oJ l m_L_liking (oEf 5 K) 0 0 61 [vr 18, vr 14, vu, vu, vi l4] [] WD M := by
      intro l4 M H
      refine oj_inc4 (pc := 61) (d := 1) (by decide +kernel) (by decide +kernel) ?_
      have H := okp_lt H
      refine oj_goto (pc := 64) (off := -54) (tgt := 10) (by decide +kernel) (by decide) ?_
      have H := i10 _ H
      exact H
    refine oj_ld4 (pc := 10) (by decide +kernel) ?_
    refine oj_ald0 (pc := 12) (by decide +kernel) ?_
    refine oj_getI' (pc := 13) (ki := 10) f_L_50 s_18_10 rfl (by decide +kernel) ?_
    refine oj_icmp_ge (pc := 16) (off := 51) (tgt := 67) (by decide +kernel) (by decide) H (fun _ H => ?_) (fun _ H => ?_)
    · refine oj_le (lv' := [_, _, vu, vu, vu]) ⟨Or.inr rfl, Or.inr rfl, Or.inr rfl, Or.inr rfl, Or.inl rfl, trivial⟩ ?_
      exact h67  _ H
    · refine oj_ld4 (pc := 19) (by decide +kernel) ?_
      refine oj_bipush (pc := 21) (v := 16) ⟨by decide, by decide⟩ (by decide +kernel) ?_
      refine oj_icmp_ge (pc := 23) (off := 44) (tgt := 67) (by decide +kernel) (by decide) H (fun _ H => ?_) (fun _ H => ?_)
      · refine oj_le (lv' := [_, _, vu, vu, vu]) ⟨Or.inr rfl, Or.inr rfl, Or.inr rfl, Or.inr rfl, Or.inl rfl, trivial⟩ ?_
        exact h67  _ H
      · refine oj_ald0 (pc := 26) (by decide +kernel) ?_
        refine oj_getR' (pc := 27) f_L_18 s_18_3 (by decide +kernel) ?_
        refine oj_ld4 (pc := 30) (by decide +kernel) ?_
        refine oj_iald (pc := 32) (NN := 16) a_21 rfl (by decide +kernel) H (fun H => ?_)
        refine oj_bipush (pc := 33) (v := 115) ⟨by decide, by decide⟩ (by decide +kernel) ?_
        refine oj_icmp_ne (pc := 35) (off := 26) (tgt := 61) (by decide +kernel) (by decide) H (fun _ H => ?_) (fun _ H => ?_)
        · exact h61 _ _ H
        · refine oj_ald0 (pc := 38) (by decide +kernel) ?_
          refine oj_ald0 (pc := 39) (by decide +kernel) ?_
          refine oj_getR' (pc := 40) f_L_24 s_18_5 (by decide +kernel) ?_
          refine oj_ld4 (pc := 43) (by decide +kernel) ?_
          refine oj_iald (pc := 45) (NN := 16) a_23 rfl (by decide +kernel) H (fun H => ?_)
          refine oj_ald0 (pc := 46) (by decide +kernel) ?_
          refine oj_getR' (pc := 47) f_L_27 s_18_6 (by decide +kernel) ?_
          refine oj_ld4 (pc := 50) (by decide +kernel) ?_
          refine oj_iald (pc := 52) (NN := 16) a_24 rfl (by decide +kernel) H (fun H => ?_)
          refine of_Vi (pc := 53) (as := [_, _]) v_L_57 o_18 rfl rfl (Nat.le_of_ble_eq_true rfl) (by decide +kernel) (by decide) rfl (c_L_reckoned_0 (okp_bind H)) (fun r M H => ?_)
          refine oj_if_eq (pc := 56) (off := 5) (tgt := 61) (by decide +kernel) (by decide) H (fun _ H => ?_) (fun _ H => ?_)
          · exact h61 _ _ H
          · refine oj_iconst (pc := 59) (v := 0) ⟨by decide, by decide⟩ (by decide +kernel) ?_
            have H := e10 _ H
            exact oj_iret (pc := 60) (by decide +kernel) rfl rfl (Nat.le_refl _) (Nat.le_refl _) ⟨rfl, H⟩
  refine oj_ald0 (pc := 0) (by decide +kernel) ?_
  refine oj_ald1 (pc := 1) (by decide +kernel) ?_
  refine oj_ld2 (pc := 2) (by decide +kernel) ?_
  refine oj_ld3 (pc := 3) (by decide +kernel) ?_
  refine of_Vv (pc := 4) (as := [_, _, _]) v_L_53 o_18 rfl rfl (Nat.le_of_ble_eq_true rfl) (by decide +kernel) (by decide) rfl (c_L_look_1 (okp_bind H)) (fun M H => ?_)
  refine oj_iconst (pc := 7) (v := 0) ⟨by decide, by decide⟩ (by decide +kernel) ?_
  refine oj_st4 (pc := 8) (by decide +kernel) (by decide +kernel) ?_
  refine oj_le (lv' := [_, _, vu, vu, _]) ⟨Or.inr rfl, Or.inr rfl, Or.inl rfl, Or.inl rfl, Or.inr rfl, trivial⟩ ?_
  exact h10 _ _ _ H
theorem c_C_setOut_0 {l : Launch} {f : Nat} {M : oM} {K : Int × oM → Prop} (H : okp (p_C_setOut f 14 M) K) : oKf l m_C_setOut 6 [vr 41, vr 14] M K := by
  refine oK_intro (lv := [vr 41, vr 14, vu, vu, vu, vu, vu]) (by decide +kernel) (Nat.le_of_ble_eq_true rfl) rfl ?_
  have h39 : ∀ (g : Nat) (l2 l3 l4 l5 : Int) (M : oM), okp (iter (p_C_setOut_L39 f 14 l2) g (l3, l4, l5, M)) K → oJ l m_C_setOut (oEf 6 K) 0 0 39 [vr 41, vr 14, vi l2, vi l3, vi l4, vi l5, vu] [] WD M := by
    intro g l2 l3 l4 l5 M H
    have HL := fun hs => iter_J' (Jh := fun s => oJ l m_C_setOut (oEf 6 K) 0 0 39 [vr 41, vr 14, vi l2, vi s.1, vi s.2.1, vi s.2.2.1, vu] [] WD s.2.2.2) (G := K) hs g (l3, l4, l5, M) H
    refine HL ?_
    intro K39 s i39 e39 H
    obtain ⟨l3, l4, l5, M⟩ := s
    show oJ l m_C_setOut (oEf 6 K) 0 0 39 [vr 41, vr 14, vi l2, vi l3, vi l4, vi l5, vu] [] WD M
    have h87 : ∀ (l3 l4 l5 : Int) (M : oM), okp (p_C_setOut_B87_39 f 14 l2 l3 l4 l5 M) K39 → oJ l m_C_setOut (oEf 6 K) 0 0 87 [vr 41, vr 14, vi l2, vi l3, vi l4, vi l5, vu] [] WD M := by
      intro l3 l4 l5 M H
      refine oj_inc5 (pc := 87) (d := 1) (by decide +kernel) (by decide +kernel) ?_
      have H := okp_lt H
      refine oj_goto (pc := 90) (off := -51) (tgt := 39) (by decide +kernel) (by decide) ?_
      have H := i39 _ H
      exact H
    have h71 : ∀ (l3 l4 l5 s0 : Int) (M : oM), okp (p_C_setOut_B71_39 f 14 l2 l3 l4 l5 s0 M) K39 → oJ l m_C_setOut (oEf 6 K) 0 0 71 [vr 41, vr 14, vi l2, vi l3, vi l4, vi l5, vu] [vi s0] WD M := by
      intro l3 l4 l5 s0 M H
      refine oj_st6 (pc := 71) (by decide +kernel) (by decide +kernel) ?_
      refine oj_ld6 (pc := 73) (by decide +kernel) ?_
      refine oj_ld4 (pc := 75) (by decide +kernel) ?_
      refine oj_icmp_le (pc := 77) (off := 10) (tgt := 87) (by decide +kernel) (by decide) H (fun _ H => ?_) (fun _ H => ?_)
      · refine oj_le (lv' := [_, _, _, _, _, _, vu]) ⟨Or.inr rfl, Or.inr rfl, Or.inr rfl, Or.inr rfl, Or.inr rfl, Or.inr rfl, Or.inl rfl, trivial⟩ ?_
        exact h87 _ _ _ _ H
      · refine oj_ld6 (pc := 80) (by decide +kernel) ?_
        refine oj_st4 (pc := 82) (by decide +kernel) (by decide +kernel) ?_
        refine oj_ld5 (pc := 84) (by decide +kernel) ?_
        refine oj_st3 (pc := 86) (by decide +kernel) (by decide +kernel) ?_
        refine oj_le (lv' := [_, _, _, _, _, _, vu]) ⟨Or.inr rfl, Or.inr rfl, Or.inr rfl, Or.inr rfl, Or.inr rfl, Or.inr rfl, Or.inl rfl, trivial⟩ ?_
        exact h87 _ _ _ _ H
    refine oj_ld5 (pc := 39) (by decide +kernel) ?_
    refine oj_bipush (pc := 41) (v := 10) ⟨by decide, by decide⟩ (by decide +kernel) ?_
    refine oj_icmp_ge (pc := 43) (off := 50) (tgt := 93) (by decide +kernel) (by decide) H (fun _ H => ?_) (fun _ H => ?_)
    · refine oj_ld3 (pc := 93) (by decide +kernel) ?_
      refine oj_if_lt (pc := 94) (off := 17) (tgt := 111) (by decide +kernel) (by decide) H (fun _ H => ?_) (fun _ H => ?_)
      · have H := e39 _ H
        exact oj_vret (pc := 111) (by decide +kernel) rfl (Nat.le_refl _) (Nat.le_refl _) ⟨rfl, H⟩
      · refine oj_ald1 (pc := 97) (by decide +kernel) ?_
        refine oj_ld3 (pc := 98) (by decide +kernel) ?_
        refine oj_ald0 (pc := 99) (by decide +kernel) ?_
        refine oj_getR' (pc := 100) f_C_15 s_41_0 (by decide +kernel) ?_
        refine oj_ld2 (pc := 103) (by decide +kernel) ?_
        refine oj_ld3 (pc := 104) (by decide +kernel) ?_
        refine of_Vi (pc := 105) (as := [_, _]) v_C_110 o_3 rfl rfl (Nat.le_of_ble_eq_true rfl) (by decide +kernel) (by decide) rfl (c_P_way_0 (okp_bind H)) (fun r M H => ?_)
        refine of_Vv (pc := 108) (as := [_, _]) v_C_115 o_14 rfl rfl (Nat.le_of_ble_eq_true rfl) (by decide +kernel) (by decide) rfl (c_D_sendTo_0 (okp_bind H)) (fun M H => ?_)
        have H := e39 _ H
        exact oj_vret (pc := 111) (by decide +kernel) rfl (Nat.le_refl _) (Nat.le_refl _) ⟨rfl, H⟩
    · refine oj_ald1 (pc := 46) (by decide +kernel) ?_
      refine oj_ld2 (pc := 47) (by decide +kernel) ?_
      refine oj_ld5 (pc := 48) (by decide +kernel) ?_
      refine of_Vi (pc := 50) (as := [_, _]) v_C_104 o_14 rfl rfl (Nat.le_of_ble_eq_true rfl) (by decide +kernel) (by decide) rfl (c_D_debtOf_1 (okp_bind H)) (fun r M H => ?_)
      refine oj_if_le (pc := 53) (off := 17) (tgt := 70) (by decide +kernel) (by decide) H (fun _ H => ?_) (fun _ H => ?_)
      · refine oj_iconst (pc := 70) (v := 0) ⟨by decide, by decide⟩ (by decide +kernel) ?_
        exact h71 _ _ _ _ _ H
      · refine oj_ald0 (pc := 56) (by decide +kernel) ?_
        refine oj_getR' (pc := 57) f_C_19 s_41_1 (by decide +kernel) ?_
        refine oj_ald1 (pc := 60) (by decide +kernel) ?_
        refine oj_ld2 (pc := 61) (by decide +kernel) ?_
        refine oj_ld5 (pc := 62) (by decide +kernel) ?_
        refine of_Vi (pc := 64) (as := [_, _, _]) v_C_107 o_18 rfl rfl (Nat.le_of_ble_eq_true rfl) (by decide +kernel) (by decide) rfl (c_L_liking_1 (okp_bind H)) (fun r M H => ?_)
        refine oj_goto (pc := 67) (off := 4) (tgt := 71) (by decide +kernel) (by decide) ?_
        exact h71 _ _ _ _ _ H
  refine oj_ald1 (pc := 0) (by decide +kernel) ?_
  refine oj_getI' (pc := 1) (ki := 10) f_C_77 s_14_10 rfl (by decide +kernel) ?_
  refine oj_if_ne (pc := 4) (off := 21) (tgt := 25) (by decide +kernel) (by decide) H (fun _ H => ?_) (fun _ H => ?_)
  · exact oj_vret (pc := 25) (by decide +kernel) rfl (Nat.le_refl _) (Nat.le_refl _) ⟨rfl, H⟩
  · refine oj_ald1 (pc := 7) (by decide +kernel) ?_
    refine oj_getI' (pc := 8) (ki := 8) f_C_41 s_14_8 rfl (by decide +kernel) ?_
    refine oj_bipush (pc := 11) (v := 6) ⟨by decide, by decide⟩ (by decide +kernel) ?_
    refine oj_icmp_lt (pc := 13) (off := 12) (tgt := 25) (by decide +kernel) (by decide) H (fun _ H => ?_) (fun _ H => ?_)
    · exact oj_vret (pc := 25) (by decide +kernel) rfl (Nat.le_refl _) (Nat.le_refl _) ⟨rfl, H⟩
    · refine oj_ald1 (pc := 16) (by decide +kernel) ?_
      refine oj_getI' (pc := 17) (ki := 8) f_C_41 s_14_8 rfl (by decide +kernel) ?_
      refine oj_bipush (pc := 20) (v := 19) ⟨by decide, by decide⟩ (by decide +kernel) ?_
      refine oj_icmp_le (pc := 22) (off := 4) (tgt := 26) (by decide +kernel) (by decide) H (fun _ H => ?_) (fun _ H => ?_)
      · refine oj_ald1 (pc := 26) (by decide +kernel) ?_
        refine oj_getI' (pc := 27) (ki := 4) f_C_53 s_14_4 rfl (by decide +kernel) ?_
        refine oj_st2 (pc := 30) (by decide +kernel) (by decide +kernel) ?_
        have H := okp_lt H
        refine oj_iconst (pc := 31) (v := -1) ⟨by decide, by decide⟩ (by decide +kernel) ?_
        refine oj_st3 (pc := 32) (by decide +kernel) (by decide +kernel) ?_
        refine oj_iconst (pc := 33) (v := 0) ⟨by decide, by decide⟩ (by decide +kernel) ?_
        refine oj_st4 (pc := 34) (by decide +kernel) (by decide +kernel) ?_
        refine oj_iconst (pc := 36) (v := 0) ⟨by decide, by decide⟩ (by decide +kernel) ?_
        refine oj_st5 (pc := 37) (by decide +kernel) (by decide +kernel) ?_
        exact h39 _ _ _ _ _ _ H
      · exact oj_vret (pc := 25) (by decide +kernel) rfl (Nat.le_refl _) (Nat.le_refl _) ⟨rfl, H⟩
theorem c_C_setOut_1 {l : Launch} {f : Nat} {M : oM} {K : Int × oM → Prop} (H : okp (p_C_setOut f 6 M) K) : oKf l m_C_setOut 6 [vr 41, vr 6] M K := by
  refine oK_intro (lv := [vr 41, vr 6, vu, vu, vu, vu, vu]) (by decide +kernel) (Nat.le_of_ble_eq_true rfl) rfl ?_
  have h39 : ∀ (g : Nat) (l2 l3 l4 l5 : Int) (M : oM), okp (iter (p_C_setOut_L39 f 6 l2) g (l3, l4, l5, M)) K → oJ l m_C_setOut (oEf 6 K) 0 0 39 [vr 41, vr 6, vi l2, vi l3, vi l4, vi l5, vu] [] WD M := by
    intro g l2 l3 l4 l5 M H
    have HL := fun hs => iter_J' (Jh := fun s => oJ l m_C_setOut (oEf 6 K) 0 0 39 [vr 41, vr 6, vi l2, vi s.1, vi s.2.1, vi s.2.2.1, vu] [] WD s.2.2.2) (G := K) hs g (l3, l4, l5, M) H
    refine HL ?_
    intro K39 s i39 e39 H
    obtain ⟨l3, l4, l5, M⟩ := s
    show oJ l m_C_setOut (oEf 6 K) 0 0 39 [vr 41, vr 6, vi l2, vi l3, vi l4, vi l5, vu] [] WD M
    have h87 : ∀ (l3 l4 l5 : Int) (M : oM), okp (p_C_setOut_B87_39 f 6 l2 l3 l4 l5 M) K39 → oJ l m_C_setOut (oEf 6 K) 0 0 87 [vr 41, vr 6, vi l2, vi l3, vi l4, vi l5, vu] [] WD M := by
      intro l3 l4 l5 M H
      refine oj_inc5 (pc := 87) (d := 1) (by decide +kernel) (by decide +kernel) ?_
      have H := okp_lt H
      refine oj_goto (pc := 90) (off := -51) (tgt := 39) (by decide +kernel) (by decide) ?_
      have H := i39 _ H
      exact H
    have h71 : ∀ (l3 l4 l5 s0 : Int) (M : oM), okp (p_C_setOut_B71_39 f 6 l2 l3 l4 l5 s0 M) K39 → oJ l m_C_setOut (oEf 6 K) 0 0 71 [vr 41, vr 6, vi l2, vi l3, vi l4, vi l5, vu] [vi s0] WD M := by
      intro l3 l4 l5 s0 M H
      refine oj_st6 (pc := 71) (by decide +kernel) (by decide +kernel) ?_
      refine oj_ld6 (pc := 73) (by decide +kernel) ?_
      refine oj_ld4 (pc := 75) (by decide +kernel) ?_
      refine oj_icmp_le (pc := 77) (off := 10) (tgt := 87) (by decide +kernel) (by decide) H (fun _ H => ?_) (fun _ H => ?_)
      · refine oj_le (lv' := [_, _, _, _, _, _, vu]) ⟨Or.inr rfl, Or.inr rfl, Or.inr rfl, Or.inr rfl, Or.inr rfl, Or.inr rfl, Or.inl rfl, trivial⟩ ?_
        exact h87 _ _ _ _ H
      · refine oj_ld6 (pc := 80) (by decide +kernel) ?_
        refine oj_st4 (pc := 82) (by decide +kernel) (by decide +kernel) ?_
        refine oj_ld5 (pc := 84) (by decide +kernel) ?_
        refine oj_st3 (pc := 86) (by decide +kernel) (by decide +kernel) ?_
        refine oj_le (lv' := [_, _, _, _, _, _, vu]) ⟨Or.inr rfl, Or.inr rfl, Or.inr rfl, Or.inr rfl, Or.inr rfl, Or.inr rfl, Or.inl rfl, trivial⟩ ?_
        exact h87 _ _ _ _ H
    refine oj_ld5 (pc := 39) (by decide +kernel) ?_
    refine oj_bipush (pc := 41) (v := 10) ⟨by decide, by decide⟩ (by decide +kernel) ?_
    refine oj_icmp_ge (pc := 43) (off := 50) (tgt := 93) (by decide +kernel) (by decide) H (fun _ H => ?_) (fun _ H => ?_)
    · refine oj_ld3 (pc := 93) (by decide +kernel) ?_
      refine oj_if_lt (pc := 94) (off := 17) (tgt := 111) (by decide +kernel) (by decide) H (fun _ H => ?_) (fun _ H => ?_)
      · have H := e39 _ H
        exact oj_vret (pc := 111) (by decide +kernel) rfl (Nat.le_refl _) (Nat.le_refl _) ⟨rfl, H⟩
      · refine oj_ald1 (pc := 97) (by decide +kernel) ?_
        refine oj_ld3 (pc := 98) (by decide +kernel) ?_
        refine oj_ald0 (pc := 99) (by decide +kernel) ?_
        refine oj_getR' (pc := 100) f_C_15 s_41_0 (by decide +kernel) ?_
        refine oj_ld2 (pc := 103) (by decide +kernel) ?_
        refine oj_ld3 (pc := 104) (by decide +kernel) ?_
        refine of_Vi (pc := 105) (as := [_, _]) v_C_110 o_3 rfl rfl (Nat.le_of_ble_eq_true rfl) (by decide +kernel) (by decide) rfl (c_P_way_0 (okp_bind H)) (fun r M H => ?_)
        refine of_Vv (pc := 108) (as := [_, _]) v_C_115 o_6 rfl rfl (Nat.le_of_ble_eq_true rfl) (by decide +kernel) (by decide) rfl (c_D_sendTo_1 (okp_bind H)) (fun M H => ?_)
        have H := e39 _ H
        exact oj_vret (pc := 111) (by decide +kernel) rfl (Nat.le_refl _) (Nat.le_refl _) ⟨rfl, H⟩
    · refine oj_ald1 (pc := 46) (by decide +kernel) ?_
      refine oj_ld2 (pc := 47) (by decide +kernel) ?_
      refine oj_ld5 (pc := 48) (by decide +kernel) ?_
      refine of_Vi (pc := 50) (as := [_, _]) v_C_104 o_6 rfl rfl (Nat.le_of_ble_eq_true rfl) (by decide +kernel) (by decide) rfl (c_D_debtOf_0 (okp_bind H)) (fun r M H => ?_)
      refine oj_if_le (pc := 53) (off := 17) (tgt := 70) (by decide +kernel) (by decide) H (fun _ H => ?_) (fun _ H => ?_)
      · refine oj_iconst (pc := 70) (v := 0) ⟨by decide, by decide⟩ (by decide +kernel) ?_
        exact h71 _ _ _ _ _ H
      · refine oj_ald0 (pc := 56) (by decide +kernel) ?_
        refine oj_getR' (pc := 57) f_C_19 s_41_1 (by decide +kernel) ?_
        refine oj_ald1 (pc := 60) (by decide +kernel) ?_
        refine oj_ld2 (pc := 61) (by decide +kernel) ?_
        refine oj_ld5 (pc := 62) (by decide +kernel) ?_
        refine of_Vi (pc := 64) (as := [_, _, _]) v_C_107 o_18 rfl rfl (Nat.le_of_ble_eq_true rfl) (by decide +kernel) (by decide) rfl (c_L_liking_0 (okp_bind H)) (fun r M H => ?_)
        refine oj_goto (pc := 67) (off := 4) (tgt := 71) (by decide +kernel) (by decide) ?_
        exact h71 _ _ _ _ _ H
  refine oj_ald1 (pc := 0) (by decide +kernel) ?_
  refine oj_getI' (pc := 1) (ki := 10) f_C_77 s_6_10 rfl (by decide +kernel) ?_
  refine oj_if_ne (pc := 4) (off := 21) (tgt := 25) (by decide +kernel) (by decide) H (fun _ H => ?_) (fun _ H => ?_)
  · exact oj_vret (pc := 25) (by decide +kernel) rfl (Nat.le_refl _) (Nat.le_refl _) ⟨rfl, H⟩
  · refine oj_ald1 (pc := 7) (by decide +kernel) ?_
    refine oj_getI' (pc := 8) (ki := 8) f_C_41 s_6_8 rfl (by decide +kernel) ?_
    refine oj_bipush (pc := 11) (v := 6) ⟨by decide, by decide⟩ (by decide +kernel) ?_
    refine oj_icmp_lt (pc := 13) (off := 12) (tgt := 25) (by decide +kernel) (by decide) H (fun _ H => ?_) (fun _ H => ?_)
    · exact oj_vret (pc := 25) (by decide +kernel) rfl (Nat.le_refl _) (Nat.le_refl _) ⟨rfl, H⟩
    · refine oj_ald1 (pc := 16) (by decide +kernel) ?_
      refine oj_getI' (pc := 17) (ki := 8) f_C_41 s_6_8 rfl (by decide +kernel) ?_
      refine oj_bipush (pc := 20) (v := 19) ⟨by decide, by decide⟩ (by decide +kernel) ?_
      refine oj_icmp_le (pc := 22) (off := 4) (tgt := 26) (by decide +kernel) (by decide) H (fun _ H => ?_) (fun _ H => ?_)
      · refine oj_ald1 (pc := 26) (by decide +kernel) ?_
        refine oj_getI' (pc := 27) (ki := 4) f_C_53 s_6_4 rfl (by decide +kernel) ?_
        refine oj_st2 (pc := 30) (by decide +kernel) (by decide +kernel) ?_
        have H := okp_lt H
        refine oj_iconst (pc := 31) (v := -1) ⟨by decide, by decide⟩ (by decide +kernel) ?_
        refine oj_st3 (pc := 32) (by decide +kernel) (by decide +kernel) ?_
        refine oj_iconst (pc := 33) (v := 0) ⟨by decide, by decide⟩ (by decide +kernel) ?_
        refine oj_st4 (pc := 34) (by decide +kernel) (by decide +kernel) ?_
        refine oj_iconst (pc := 36) (v := 0) ⟨by decide, by decide⟩ (by decide +kernel) ?_
        refine oj_st5 (pc := 37) (by decide +kernel) (by decide +kernel) ?_
        exact h39 _ _ _ _ _ _ H
      · exact oj_vret (pc := 25) (by decide +kernel) rfl (Nat.le_refl _) (Nat.le_refl _) ⟨rfl, H⟩
theorem c_D_write_0 {l : Launch} {f : Nat} {l1 : Int} {M : oM} {K : Int × oM → Prop} (H : okp (p_D_write f 14 l1 M) K) : oKf l m_D_write 2 [vr 14, vi l1] M K := by
  refine oK_intro (lv := [vr 14, vi l1]) (by decide +kernel) (Nat.le_of_ble_eq_true rfl) rfl ?_
  have h30 : ∀ (l1 : Int) (M : oM), okp (p_D_write_B30 f 14 l1 M) K → oJ l m_D_write (oEf 2 K) 0 0 30 [vr 14, vi l1] [] WD M := by
    intro l1 M H
    refine oj_ald0 (pc := 30) (by decide +kernel) ?_
    refine oj_getR' (pc := 31) f_D_18 s_14_2 (by decide +kernel) ?_
    refine oj_ald0 (pc := 34) (by decide +kernel) ?_
    refine oj_getI' (pc := 35) (ki := 3) f_D_40 s_14_3 rfl (by decide +kernel) ?_
    refine oj_ld1 (pc := 38) (by decide +kernel) ?_
    refine oj_iast (pc := 39) (NN := 40) a_17 rfl (by decide +kernel) H (fun H => ?_)
    have H := okp_lt H
    refine oj_ald0 (pc := 40) (by decide +kernel) ?_
    refine oj_dup (pc := 41) (by decide +kernel) ?_
    refine oj_getI' (pc := 42) (ki := 3) f_D_40 s_14_3 rfl (by decide +kernel) ?_
    refine oj_iconst (pc := 45) (v := 1) ⟨by decide, by decide⟩ (by decide +kernel) ?_
    refine oj_iadd (pc := 46) (by decide +kernel) ?_
    refine oj_putI' (pc := 47) (ki := 3) f_D_40 s_14_3 rfl (by decide +kernel) ?_
    have H := okp_lt H
    exact oj_vret (pc := 50) (by decide +kernel) rfl (Nat.le_refl _) (Nat.le_refl _) ⟨rfl, H⟩
  refine oj_ald0 (pc := 0) (by decide +kernel) ?_
  refine oj_getI' (pc := 1) (ki := 3) f_D_40 s_14_3 rfl (by decide +kernel) ?_
  refine oj_bipush (pc := 4) (v := 40) ⟨by decide, by decide⟩ (by decide +kernel) ?_
  refine oj_icmp_lt (pc := 6) (off := 24) (tgt := 30) (by decide +kernel) (by decide) H (fun _ H => ?_) (fun _ H => ?_)
  · exact h30 _ _ H
  · refine oj_ald0 (pc := 9) (by decide +kernel) ?_
    refine oj_getR' (pc := 10) f_D_18 s_14_2 (by decide +kernel) ?_
    refine oj_iconst (pc := 13) (v := 1) ⟨by decide, by decide⟩ (by decide +kernel) ?_
    refine oj_ald0 (pc := 14) (by decide +kernel) ?_
    refine oj_getR' (pc := 15) f_D_18 s_14_2 (by decide +kernel) ?_
    refine oj_iconst (pc := 18) (v := 0) ⟨by decide, by decide⟩ (by decide +kernel) ?_
    refine oj_bipush (pc := 19) (v := 39) ⟨by decide, by decide⟩ (by decide +kernel) ?_
    refine oj_copy (pc := 21) (n0 := 40) (n1 := 40) l_D_34 acn.1 acn.2.1 acn.2.2 a_17 a_17 rfl rfl (Nat.le_of_ble_eq_true rfl) (Nat.le_of_ble_eq_true rfl) (by decide +kernel) H (fun H => ?_)
    have H := okp_lt H
    refine oj_ald0 (pc := 24) (by decide +kernel) ?_
    refine oj_bipush (pc := 25) (v := 39) ⟨by decide, by decide⟩ (by decide +kernel) ?_
    refine oj_putI' (pc := 27) (ki := 3) f_D_40 s_14_3 rfl (by decide +kernel) ?_
    have H := okp_lt H
    exact h30 _ _ H
theorem c_D_write_1 {l : Launch} {f : Nat} {l1 : Int} {M : oM} {K : Int × oM → Prop} (H : okp (p_D_write f 6 l1 M) K) : oKf l m_D_write 2 [vr 6, vi l1] M K := by
  refine oK_intro (lv := [vr 6, vi l1]) (by decide +kernel) (Nat.le_of_ble_eq_true rfl) rfl ?_
  have h30 : ∀ (l1 : Int) (M : oM), okp (p_D_write_B30 f 6 l1 M) K → oJ l m_D_write (oEf 2 K) 0 0 30 [vr 6, vi l1] [] WD M := by
    intro l1 M H
    refine oj_ald0 (pc := 30) (by decide +kernel) ?_
    refine oj_getR' (pc := 31) f_D_18 s_6_2 (by decide +kernel) ?_
    refine oj_ald0 (pc := 34) (by decide +kernel) ?_
    refine oj_getI' (pc := 35) (ki := 3) f_D_40 s_6_3 rfl (by decide +kernel) ?_
    refine oj_ld1 (pc := 38) (by decide +kernel) ?_
    refine oj_iast (pc := 39) (NN := 40) a_9 rfl (by decide +kernel) H (fun H => ?_)
    have H := okp_lt H
    refine oj_ald0 (pc := 40) (by decide +kernel) ?_
    refine oj_dup (pc := 41) (by decide +kernel) ?_
    refine oj_getI' (pc := 42) (ki := 3) f_D_40 s_6_3 rfl (by decide +kernel) ?_
    refine oj_iconst (pc := 45) (v := 1) ⟨by decide, by decide⟩ (by decide +kernel) ?_
    refine oj_iadd (pc := 46) (by decide +kernel) ?_
    refine oj_putI' (pc := 47) (ki := 3) f_D_40 s_6_3 rfl (by decide +kernel) ?_
    have H := okp_lt H
    exact oj_vret (pc := 50) (by decide +kernel) rfl (Nat.le_refl _) (Nat.le_refl _) ⟨rfl, H⟩
  refine oj_ald0 (pc := 0) (by decide +kernel) ?_
  refine oj_getI' (pc := 1) (ki := 3) f_D_40 s_6_3 rfl (by decide +kernel) ?_
  refine oj_bipush (pc := 4) (v := 40) ⟨by decide, by decide⟩ (by decide +kernel) ?_
  refine oj_icmp_lt (pc := 6) (off := 24) (tgt := 30) (by decide +kernel) (by decide) H (fun _ H => ?_) (fun _ H => ?_)
  · exact h30 _ _ H
  · refine oj_ald0 (pc := 9) (by decide +kernel) ?_
    refine oj_getR' (pc := 10) f_D_18 s_6_2 (by decide +kernel) ?_
    refine oj_iconst (pc := 13) (v := 1) ⟨by decide, by decide⟩ (by decide +kernel) ?_
    refine oj_ald0 (pc := 14) (by decide +kernel) ?_
    refine oj_getR' (pc := 15) f_D_18 s_6_2 (by decide +kernel) ?_
    refine oj_iconst (pc := 18) (v := 0) ⟨by decide, by decide⟩ (by decide +kernel) ?_
    refine oj_bipush (pc := 19) (v := 39) ⟨by decide, by decide⟩ (by decide +kernel) ?_
    refine oj_copy (pc := 21) (n0 := 40) (n1 := 40) l_D_34 acn.1 acn.2.1 acn.2.2 a_9 a_9 rfl rfl (Nat.le_of_ble_eq_true rfl) (Nat.le_of_ble_eq_true rfl) (by decide +kernel) H (fun H => ?_)
    have H := okp_lt H
    refine oj_ald0 (pc := 24) (by decide +kernel) ?_
    refine oj_bipush (pc := 25) (v := 39) ⟨by decide, by decide⟩ (by decide +kernel) ?_
    refine oj_putI' (pc := 27) (ki := 3) f_D_40 s_6_3 rfl (by decide +kernel) ?_
    have H := okp_lt H
    exact h30 _ _ H
theorem c_D_pay_0 {l : Launch} {f : Nat} {l1 l2 : Int} {M : oM} {K : Int × oM → Prop} (H : okp (p_D_pay f 14 l1 l2 M) K) : oKf l m_D_pay 4 [vr 14, vi l1, vi l2] M K := by
  refine oK_intro (lv := [vr 14, vi l1, vi l2]) (by decide +kernel) (Nat.le_of_ble_eq_true rfl) rfl ?_
  have h24 : ∀ (l2 : Int) (M : oM), okp (p_D_pay_B24 f 14 l2 M) K → oJ l m_D_pay (oEf 4 K) 0 0 24 [vr 14, vu, vi l2] [] WD M := by
    intro l2 M H
    refine oj_ald0 (pc := 24) (by decide +kernel) ?_
    refine oj_ld2 (pc := 25) (by decide +kernel) ?_
    refine of_Vv (pc := 26) (as := [_]) v_D_60 o_14 rfl rfl (Nat.le_of_ble_eq_true rfl) (by decide +kernel) (by decide) rfl (c_D_giveTo_1 (okp_bind H)) (fun M H => ?_)
    refine oj_ald0 (pc := 29) (by decide +kernel) ?_
    refine oj_ld2 (pc := 30) (by decide +kernel) ?_
    refine of_Vv (pc := 31) (as := [_]) v_D_64 o_14 rfl rfl (Nat.le_of_ble_eq_true rfl) (by decide +kernel) (by decide) rfl (c_D_write_0 (okp_bind H)) (fun M H => ?_)
    exact oj_vret (pc := 34) (by decide +kernel) rfl (Nat.le_refl _) (Nat.le_refl _) ⟨rfl, H⟩
  refine oj_ald0 (pc := 0) (by decide +kernel) ?_
  refine oj_ld1 (pc := 1) (by decide +kernel) ?_
  refine oj_ld2 (pc := 2) (by decide +kernel) ?_
  refine of_Vi (pc := 3) (as := [_, _]) v_D_56 o_14 rfl rfl (Nat.le_of_ble_eq_true rfl) (by decide +kernel) (by decide) rfl (c_D_debtOf_1 (okp_bind H)) (fun r M H => ?_)
  refine oj_if_le (pc := 6) (off := 18) (tgt := 24) (by decide +kernel) (by decide) H (fun _ H => ?_) (fun _ H => ?_)
  · refine oj_le (lv' := [_, vu, _]) ⟨Or.inr rfl, Or.inl rfl, Or.inr rfl, trivial⟩ ?_
    exact h24 _ _ H
  · refine oj_ald0 (pc := 9) (by decide +kernel) ?_
    refine oj_getR' (pc := 10) f_D_9 s_14_0 (by decide +kernel) ?_
    refine oj_ld1 (pc := 13) (by decide +kernel) ?_
    refine oj_bipush (pc := 14) (v := 10) ⟨by decide, by decide⟩ (by decide +kernel) ?_
    refine oj_imul (pc := 16) (by decide +kernel) ?_
    refine oj_ld2 (pc := 17) (by decide +kernel) ?_
    refine oj_iadd (pc := 18) (by decide +kernel) ?_
    refine oj_dup2 (pc := 19) (by decide +kernel) ?_
    refine oj_iald (pc := 20) (NN := 100) a_15 rfl (by decide +kernel) H (fun H => ?_)
    refine oj_iconst (pc := 21) (v := 1) ⟨by decide, by decide⟩ (by decide +kernel) ?_
    refine oj_isub (pc := 22) (by decide +kernel) ?_
    refine oj_iast (pc := 23) (NN := 100) a_15 rfl (by decide +kernel) H (fun H => ?_)
    have H := okp_lt H
    refine oj_le (lv' := [_, vu, _]) ⟨Or.inr rfl, Or.inl rfl, Or.inr rfl, trivial⟩ ?_
    exact h24 _ _ H
theorem c_D_pay_1 {l : Launch} {f : Nat} {l1 l2 : Int} {M : oM} {K : Int × oM → Prop} (H : okp (p_D_pay f 6 l1 l2 M) K) : oKf l m_D_pay 4 [vr 6, vi l1, vi l2] M K := by
  refine oK_intro (lv := [vr 6, vi l1, vi l2]) (by decide +kernel) (Nat.le_of_ble_eq_true rfl) rfl ?_
  have h24 : ∀ (l2 : Int) (M : oM), okp (p_D_pay_B24 f 6 l2 M) K → oJ l m_D_pay (oEf 4 K) 0 0 24 [vr 6, vu, vi l2] [] WD M := by
    intro l2 M H
    refine oj_ald0 (pc := 24) (by decide +kernel) ?_
    refine oj_ld2 (pc := 25) (by decide +kernel) ?_
    refine of_Vv (pc := 26) (as := [_]) v_D_60 o_6 rfl rfl (Nat.le_of_ble_eq_true rfl) (by decide +kernel) (by decide) rfl (c_D_giveTo_0 (okp_bind H)) (fun M H => ?_)
    refine oj_ald0 (pc := 29) (by decide +kernel) ?_
    refine oj_ld2 (pc := 30) (by decide +kernel) ?_
    refine of_Vv (pc := 31) (as := [_]) v_D_64 o_6 rfl rfl (Nat.le_of_ble_eq_true rfl) (by decide +kernel) (by decide) rfl (c_D_write_1 (okp_bind H)) (fun M H => ?_)
    exact oj_vret (pc := 34) (by decide +kernel) rfl (Nat.le_refl _) (Nat.le_refl _) ⟨rfl, H⟩
  refine oj_ald0 (pc := 0) (by decide +kernel) ?_
  refine oj_ld1 (pc := 1) (by decide +kernel) ?_
  refine oj_ld2 (pc := 2) (by decide +kernel) ?_
  refine of_Vi (pc := 3) (as := [_, _]) v_D_56 o_6 rfl rfl (Nat.le_of_ble_eq_true rfl) (by decide +kernel) (by decide) rfl (c_D_debtOf_0 (okp_bind H)) (fun r M H => ?_)
  refine oj_if_le (pc := 6) (off := 18) (tgt := 24) (by decide +kernel) (by decide) H (fun _ H => ?_) (fun _ H => ?_)
  · refine oj_le (lv' := [_, vu, _]) ⟨Or.inr rfl, Or.inl rfl, Or.inr rfl, trivial⟩ ?_
    exact h24 _ _ H
  · refine oj_ald0 (pc := 9) (by decide +kernel) ?_
    refine oj_getR' (pc := 10) f_D_9 s_6_0 (by decide +kernel) ?_
    refine oj_ld1 (pc := 13) (by decide +kernel) ?_
    refine oj_bipush (pc := 14) (v := 10) ⟨by decide, by decide⟩ (by decide +kernel) ?_
    refine oj_imul (pc := 16) (by decide +kernel) ?_
    refine oj_ld2 (pc := 17) (by decide +kernel) ?_
    refine oj_iadd (pc := 18) (by decide +kernel) ?_
    refine oj_dup2 (pc := 19) (by decide +kernel) ?_
    refine oj_iald (pc := 20) (NN := 100) a_7 rfl (by decide +kernel) H (fun H => ?_)
    refine oj_iconst (pc := 21) (v := 1) ⟨by decide, by decide⟩ (by decide +kernel) ?_
    refine oj_isub (pc := 22) (by decide +kernel) ?_
    refine oj_iast (pc := 23) (NN := 100) a_7 rfl (by decide +kernel) H (fun H => ?_)
    have H := okp_lt H
    refine oj_le (lv' := [_, vu, _]) ⟨Or.inr rfl, Or.inl rfl, Or.inr rfl, trivial⟩ ?_
    exact h24 _ _ H
theorem c_C_travel_0 {l : Launch} {f : Nat} {M : oM} {K : Int × oM → Prop} (H : okp (p_C_travel f 14 M) K) : oKf l m_C_travel 5 [vr 41, vr 14] M K := by
  refine oK_intro (lv := [vr 41, vr 14]) (by decide +kernel) (Nat.le_of_ble_eq_true rfl) rfl ?_
  refine oj_ald1 (pc := 0) (by decide +kernel) ?_
  refine oj_dup (pc := 1) (by decide +kernel) ?_
  refine oj_getI' (pc := 2) (ki := 7) f_C_47 s_14_7 rfl (by decide +kernel) ?_
  refine oj_iconst (pc := 5) (v := 1) ⟨by decide, by decide⟩ (by decide +kernel) ?_
  refine oj_isub (pc := 6) (by decide +kernel) ?_
  refine oj_putI' (pc := 7) (ki := 7) f_C_47 s_14_7 rfl (by decide +kernel) ?_
  have H := okp_lt H
  refine oj_ald1 (pc := 10) (by decide +kernel) ?_
  refine oj_getI' (pc := 11) (ki := 7) f_C_47 s_14_7 rfl (by decide +kernel) ?_
  refine oj_if_ne (pc := 14) (off := 33) (tgt := 47) (by decide +kernel) (by decide) H (fun _ H => ?_) (fun _ H => ?_)
  · exact oj_vret (pc := 47) (by decide +kernel) rfl (Nat.le_refl _) (Nat.le_refl _) ⟨rfl, H⟩
  · refine oj_ald0 (pc := 17) (by decide +kernel) ?_
    refine oj_ald1 (pc := 18) (by decide +kernel) ?_
    refine oj_getI' (pc := 19) (ki := 6) f_C_94 s_14_6 rfl (by decide +kernel) ?_
    refine oj_putI' (pc := 22) (ki := 5) f_C_9 s_41_5 rfl (by decide +kernel) ?_
    have H := okp_lt H
    refine oj_ald1 (pc := 25) (by decide +kernel) ?_
    refine oj_ald1 (pc := 26) (by decide +kernel) ?_
    refine oj_getI' (pc := 27) (ki := 5) f_C_97 s_14_5 rfl (by decide +kernel) ?_
    refine oj_ald1 (pc := 30) (by decide +kernel) ?_
    refine oj_getI' (pc := 31) (ki := 6) f_C_94 s_14_6 rfl (by decide +kernel) ?_
    refine of_Vv (pc := 34) (as := [_, _]) v_C_100 o_14 rfl rfl (Nat.le_of_ble_eq_true rfl) (by decide +kernel) (by decide) rfl (c_D_pay_0 (okp_bind H)) (fun M H => ?_)
    refine oj_ald0 (pc := 37) (by decide +kernel) ?_
    refine oj_dup (pc := 38) (by decide +kernel) ?_
    refine oj_getI' (pc := 39) (ki := 2) f_C_23 s_41_2 rfl (by decide +kernel) ?_
    refine oj_iconst (pc := 42) (v := 1) ⟨by decide, by decide⟩ (by decide +kernel) ?_
    refine oj_iadd (pc := 43) (by decide +kernel) ?_
    refine oj_putI' (pc := 44) (ki := 2) f_C_23 s_41_2 rfl (by decide +kernel) ?_
    have H := okp_lt H
    exact oj_vret (pc := 47) (by decide +kernel) rfl (Nat.le_refl _) (Nat.le_refl _) ⟨rfl, H⟩
theorem c_C_travel_1 {l : Launch} {f : Nat} {M : oM} {K : Int × oM → Prop} (H : okp (p_C_travel f 6 M) K) : oKf l m_C_travel 5 [vr 41, vr 6] M K := by
  refine oK_intro (lv := [vr 41, vr 6]) (by decide +kernel) (Nat.le_of_ble_eq_true rfl) rfl ?_
  refine oj_ald1 (pc := 0) (by decide +kernel) ?_
  refine oj_dup (pc := 1) (by decide +kernel) ?_
  refine oj_getI' (pc := 2) (ki := 7) f_C_47 s_6_7 rfl (by decide +kernel) ?_
  refine oj_iconst (pc := 5) (v := 1) ⟨by decide, by decide⟩ (by decide +kernel) ?_
  refine oj_isub (pc := 6) (by decide +kernel) ?_
  refine oj_putI' (pc := 7) (ki := 7) f_C_47 s_6_7 rfl (by decide +kernel) ?_
  have H := okp_lt H
  refine oj_ald1 (pc := 10) (by decide +kernel) ?_
  refine oj_getI' (pc := 11) (ki := 7) f_C_47 s_6_7 rfl (by decide +kernel) ?_
  refine oj_if_ne (pc := 14) (off := 33) (tgt := 47) (by decide +kernel) (by decide) H (fun _ H => ?_) (fun _ H => ?_)
  · exact oj_vret (pc := 47) (by decide +kernel) rfl (Nat.le_refl _) (Nat.le_refl _) ⟨rfl, H⟩
  · refine oj_ald0 (pc := 17) (by decide +kernel) ?_
    refine oj_ald1 (pc := 18) (by decide +kernel) ?_
    refine oj_getI' (pc := 19) (ki := 6) f_C_94 s_6_6 rfl (by decide +kernel) ?_
    refine oj_putI' (pc := 22) (ki := 5) f_C_9 s_41_5 rfl (by decide +kernel) ?_
    have H := okp_lt H
    refine oj_ald1 (pc := 25) (by decide +kernel) ?_
    refine oj_ald1 (pc := 26) (by decide +kernel) ?_
    refine oj_getI' (pc := 27) (ki := 5) f_C_97 s_6_5 rfl (by decide +kernel) ?_
    refine oj_ald1 (pc := 30) (by decide +kernel) ?_
    refine oj_getI' (pc := 31) (ki := 6) f_C_94 s_6_6 rfl (by decide +kernel) ?_
    refine of_Vv (pc := 34) (as := [_, _]) v_C_100 o_6 rfl rfl (Nat.le_of_ble_eq_true rfl) (by decide +kernel) (by decide) rfl (c_D_pay_1 (okp_bind H)) (fun M H => ?_)
    refine oj_ald0 (pc := 37) (by decide +kernel) ?_
    refine oj_dup (pc := 38) (by decide +kernel) ?_
    refine oj_getI' (pc := 39) (ki := 2) f_C_23 s_41_2 rfl (by decide +kernel) ?_
    refine oj_iconst (pc := 42) (v := 1) ⟨by decide, by decide⟩ (by decide +kernel) ?_
    refine oj_iadd (pc := 43) (by decide +kernel) ?_
    refine oj_putI' (pc := 44) (ki := 2) f_C_23 s_41_2 rfl (by decide +kernel) ?_
    have H := okp_lt H
    exact oj_vret (pc := 47) (by decide +kernel) rfl (Nat.le_refl _) (Nat.le_refl _) ⟨rfl, H⟩
theorem c_C_tick_0 {l : Launch} {f : Nat} {M : oM} {K : Int × oM → Prop} (H : okp (p_C_tick f 14 M) K) : oKf l m_C_tick 7 [vr 41, vr 14] M K := by
  refine oK_intro (lv := [vr 41, vr 14]) (by decide +kernel) (Nat.le_of_ble_eq_true rfl) rfl ?_
  have h80 : ∀ (M : oM), okp (p_C_tick_B80 f 14 M) K → oJ l m_C_tick (oEf 7 K) 0 0 80 [vr 41, vr 14] [] WD M := by
    intro  M H
    refine oj_ald1 (pc := 80) (by decide +kernel) ?_
    refine oj_dup (pc := 81) (by decide +kernel) ?_
    refine oj_getI' (pc := 82) (ki := 8) f_C_41 s_14_8 rfl (by decide +kernel) ?_
    refine oj_iconst (pc := 85) (v := 1) ⟨by decide, by decide⟩ (by decide +kernel) ?_
    refine oj_iadd (pc := 86) (by decide +kernel) ?_
    refine oj_putI' (pc := 87) (ki := 8) f_C_41 s_14_8 rfl (by decide +kernel) ?_
    have H := okp_lt H
    refine oj_ald1 (pc := 90) (by decide +kernel) ?_
    refine oj_getI' (pc := 91) (ki := 8) f_C_41 s_14_8 rfl (by decide +kernel) ?_
    refine oj_bipush (pc := 94) (v := 23) ⟨by decide, by decide⟩ (by decide +kernel) ?_
    refine oj_icmp_le (pc := 96) (off := 18) (tgt := 114) (by decide +kernel) (by decide) H (fun _ H => ?_) (fun _ H => ?_)
    · exact oj_vret (pc := 114) (by decide +kernel) rfl (Nat.le_refl _) (Nat.le_refl _) ⟨rfl, H⟩
    · refine oj_ald1 (pc := 99) (by decide +kernel) ?_
      refine oj_iconst (pc := 100) (v := 0) ⟨by decide, by decide⟩ (by decide +kernel) ?_
      refine oj_putI' (pc := 101) (ki := 8) f_C_41 s_14_8 rfl (by decide +kernel) ?_
      have H := okp_lt H
      refine oj_ald1 (pc := 104) (by decide +kernel) ?_
      refine oj_dup (pc := 105) (by decide +kernel) ?_
      refine oj_getI' (pc := 106) (ki := 9) f_C_36 s_14_9 rfl (by decide +kernel) ?_
      refine oj_iconst (pc := 109) (v := 1) ⟨by decide, by decide⟩ (by decide +kernel) ?_
      refine oj_iadd (pc := 110) (by decide +kernel) ?_
      refine oj_putI' (pc := 111) (ki := 9) f_C_36 s_14_9 rfl (by decide +kernel) ?_
      have H := okp_lt H
      exact oj_vret (pc := 114) (by decide +kernel) rfl (Nat.le_refl _) (Nat.le_refl _) ⟨rfl, H⟩
  have h37 : ∀ (M : oM), okp (p_C_tick_B37 f 14 M) K → oJ l m_C_tick (oEf 7 K) 0 0 37 [vr 41, vr 14] [] WD M := by
    intro  M H
    refine oj_ald1 (pc := 37) (by decide +kernel) ?_
    refine oj_getI' (pc := 38) (ki := 7) f_C_47 s_14_7 rfl (by decide +kernel) ?_
    refine oj_if_le (pc := 41) (off := 11) (tgt := 52) (by decide +kernel) (by decide) H (fun _ H => ?_) (fun _ H => ?_)
    · refine oj_ald1 (pc := 52) (by decide +kernel) ?_
      refine oj_getI' (pc := 53) (ki := 4) f_C_53 s_14_4 rfl (by decide +kernel) ?_
      refine of_Si (pc := 56) (as := [_]) v_C_56 rfl rfl (Nat.le_of_ble_eq_true rfl) (by decide +kernel) (by decide) rfl (c_O_isOne_0 (okp_bind H)) (fun r M H => ?_)
      refine oj_if_eq (pc := 59) (off := 21) (tgt := 80) (by decide +kernel) (by decide) H (fun _ H => ?_) (fun _ H => ?_)
      · exact h80  _ H
      · refine oj_ald1 (pc := 62) (by decide +kernel) ?_
        refine oj_getR' (pc := 63) f_C_60 s_14_1 (by decide +kernel) ?_
        refine oj_ald1 (pc := 66) (by decide +kernel) ?_
        refine oj_getI' (pc := 67) (ki := 4) f_C_53 s_14_4 rfl (by decide +kernel) ?_
        refine oj_dup2 (pc := 70) (by decide +kernel) ?_
        refine oj_iald (pc := 71) (NN := 10) a_16 rfl (by decide +kernel) H (fun H => ?_)
        refine oj_iconst (pc := 72) (v := 1) ⟨by decide, by decide⟩ (by decide +kernel) ?_
        refine oj_iadd (pc := 73) (by decide +kernel) ?_
        refine oj_iast (pc := 74) (NN := 10) a_16 rfl (by decide +kernel) H (fun H => ?_)
        have H := okp_lt H
        refine oj_ald0 (pc := 75) (by decide +kernel) ?_
        refine oj_ald1 (pc := 76) (by decide +kernel) ?_
        refine of_Vv (pc := 77) (as := [_]) v_C_64 o_41 rfl rfl (Nat.le_of_ble_eq_true rfl) (by decide +kernel) (by decide) rfl (c_C_setOut_0 (okp_bind H)) (fun M H => ?_)
        exact h80  _ H
    · refine oj_ald0 (pc := 44) (by decide +kernel) ?_
      refine oj_ald1 (pc := 45) (by decide +kernel) ?_
      refine of_Vv (pc := 46) (as := [_]) v_C_50 o_41 rfl rfl (Nat.le_of_ble_eq_true rfl) (by decide +kernel) (by decide) rfl (c_C_travel_0 (okp_bind H)) (fun M H => ?_)
      refine oj_goto (pc := 49) (off := 31) (tgt := 80) (by decide +kernel) (by decide) ?_
      exact h80  _ H
  have h25 : ∀ (M : oM), okp (p_C_tick_B25 f 14 M) K → oJ l m_C_tick (oEf 7 K) 0 0 25 [vr 41, vr 14] [] WD M := by
    intro  M H
    refine oj_ald1 (pc := 25) (by decide +kernel) ?_
    refine oj_getI' (pc := 26) (ki := 8) f_C_41 s_14_8 rfl (by decide +kernel) ?_
    refine oj_if_ne (pc := 29) (off := 8) (tgt := 37) (by decide +kernel) (by decide) H (fun _ H => ?_) (fun _ H => ?_)
    · exact h37  _ H
    · refine oj_ald0 (pc := 32) (by decide +kernel) ?_
      refine oj_ald1 (pc := 33) (by decide +kernel) ?_
      refine of_Vv (pc := 34) (as := [_]) v_C_44 o_41 rfl rfl (Nat.le_of_ble_eq_true rfl) (by decide +kernel) (by decide) rfl (c_C_beginDay_0 (okp_bind H)) (fun M H => ?_)
      exact h37  _ H
  refine oj_ald0 (pc := 0) (by decide +kernel) ?_
  refine oj_iconst (pc := 1) (v := -1) ⟨by decide, by decide⟩ (by decide +kernel) ?_
  refine oj_putI' (pc := 2) (ki := 5) f_C_9 s_41_5 rfl (by decide +kernel) ?_
  have H := okp_lt H
  refine oj_ald1 (pc := 5) (by decide +kernel) ?_
  refine oj_getI' (pc := 6) (ki := 9) f_C_36 s_14_9 rfl (by decide +kernel) ?_
  refine oj_sipush (pc := 9) (v := 9999) ⟨by decide, by decide⟩ (by decide +kernel) ?_
  refine oj_icmp_lt (pc := 12) (off := 13) (tgt := 25) (by decide +kernel) (by decide) H (fun _ H => ?_) (fun _ H => ?_)
  · exact h25  _ H
  · refine oj_ald1 (pc := 15) (by decide +kernel) ?_
    refine oj_getI' (pc := 16) (ki := 8) f_C_41 s_14_8 rfl (by decide +kernel) ?_
    refine oj_bipush (pc := 19) (v := 23) ⟨by decide, by decide⟩ (by decide +kernel) ?_
    refine oj_icmp_lt (pc := 21) (off := 4) (tgt := 25) (by decide +kernel) (by decide) H (fun _ H => ?_) (fun _ H => ?_)
    · exact h25  _ H
    · exact oj_vret (pc := 24) (by decide +kernel) rfl (Nat.le_refl _) (Nat.le_refl _) ⟨rfl, H⟩
theorem c_C_tick_1 {l : Launch} {f : Nat} {M : oM} {K : Int × oM → Prop} (H : okp (p_C_tick f 6 M) K) : oKf l m_C_tick 7 [vr 41, vr 6] M K := by
  refine oK_intro (lv := [vr 41, vr 6]) (by decide +kernel) (Nat.le_of_ble_eq_true rfl) rfl ?_
  have h80 : ∀ (M : oM), okp (p_C_tick_B80 f 6 M) K → oJ l m_C_tick (oEf 7 K) 0 0 80 [vr 41, vr 6] [] WD M := by
    intro  M H
    refine oj_ald1 (pc := 80) (by decide +kernel) ?_
    refine oj_dup (pc := 81) (by decide +kernel) ?_
    refine oj_getI' (pc := 82) (ki := 8) f_C_41 s_6_8 rfl (by decide +kernel) ?_
    refine oj_iconst (pc := 85) (v := 1) ⟨by decide, by decide⟩ (by decide +kernel) ?_
    refine oj_iadd (pc := 86) (by decide +kernel) ?_
    refine oj_putI' (pc := 87) (ki := 8) f_C_41 s_6_8 rfl (by decide +kernel) ?_
    have H := okp_lt H
    refine oj_ald1 (pc := 90) (by decide +kernel) ?_
    refine oj_getI' (pc := 91) (ki := 8) f_C_41 s_6_8 rfl (by decide +kernel) ?_
    refine oj_bipush (pc := 94) (v := 23) ⟨by decide, by decide⟩ (by decide +kernel) ?_
    refine oj_icmp_le (pc := 96) (off := 18) (tgt := 114) (by decide +kernel) (by decide) H (fun _ H => ?_) (fun _ H => ?_)
    · exact oj_vret (pc := 114) (by decide +kernel) rfl (Nat.le_refl _) (Nat.le_refl _) ⟨rfl, H⟩
    · refine oj_ald1 (pc := 99) (by decide +kernel) ?_
      refine oj_iconst (pc := 100) (v := 0) ⟨by decide, by decide⟩ (by decide +kernel) ?_
      refine oj_putI' (pc := 101) (ki := 8) f_C_41 s_6_8 rfl (by decide +kernel) ?_
      have H := okp_lt H
      refine oj_ald1 (pc := 104) (by decide +kernel) ?_
      refine oj_dup (pc := 105) (by decide +kernel) ?_
      refine oj_getI' (pc := 106) (ki := 9) f_C_36 s_6_9 rfl (by decide +kernel) ?_
      refine oj_iconst (pc := 109) (v := 1) ⟨by decide, by decide⟩ (by decide +kernel) ?_
      refine oj_iadd (pc := 110) (by decide +kernel) ?_
      refine oj_putI' (pc := 111) (ki := 9) f_C_36 s_6_9 rfl (by decide +kernel) ?_
      have H := okp_lt H
      exact oj_vret (pc := 114) (by decide +kernel) rfl (Nat.le_refl _) (Nat.le_refl _) ⟨rfl, H⟩
  have h37 : ∀ (M : oM), okp (p_C_tick_B37 f 6 M) K → oJ l m_C_tick (oEf 7 K) 0 0 37 [vr 41, vr 6] [] WD M := by
    intro  M H
    refine oj_ald1 (pc := 37) (by decide +kernel) ?_
    refine oj_getI' (pc := 38) (ki := 7) f_C_47 s_6_7 rfl (by decide +kernel) ?_
    refine oj_if_le (pc := 41) (off := 11) (tgt := 52) (by decide +kernel) (by decide) H (fun _ H => ?_) (fun _ H => ?_)
    · refine oj_ald1 (pc := 52) (by decide +kernel) ?_
      refine oj_getI' (pc := 53) (ki := 4) f_C_53 s_6_4 rfl (by decide +kernel) ?_
      refine of_Si (pc := 56) (as := [_]) v_C_56 rfl rfl (Nat.le_of_ble_eq_true rfl) (by decide +kernel) (by decide) rfl (c_O_isOne_0 (okp_bind H)) (fun r M H => ?_)
      refine oj_if_eq (pc := 59) (off := 21) (tgt := 80) (by decide +kernel) (by decide) H (fun _ H => ?_) (fun _ H => ?_)
      · exact h80  _ H
      · refine oj_ald1 (pc := 62) (by decide +kernel) ?_
        refine oj_getR' (pc := 63) f_C_60 s_6_1 (by decide +kernel) ?_
        refine oj_ald1 (pc := 66) (by decide +kernel) ?_
        refine oj_getI' (pc := 67) (ki := 4) f_C_53 s_6_4 rfl (by decide +kernel) ?_
        refine oj_dup2 (pc := 70) (by decide +kernel) ?_
        refine oj_iald (pc := 71) (NN := 10) a_8 rfl (by decide +kernel) H (fun H => ?_)
        refine oj_iconst (pc := 72) (v := 1) ⟨by decide, by decide⟩ (by decide +kernel) ?_
        refine oj_iadd (pc := 73) (by decide +kernel) ?_
        refine oj_iast (pc := 74) (NN := 10) a_8 rfl (by decide +kernel) H (fun H => ?_)
        have H := okp_lt H
        refine oj_ald0 (pc := 75) (by decide +kernel) ?_
        refine oj_ald1 (pc := 76) (by decide +kernel) ?_
        refine of_Vv (pc := 77) (as := [_]) v_C_64 o_41 rfl rfl (Nat.le_of_ble_eq_true rfl) (by decide +kernel) (by decide) rfl (c_C_setOut_1 (okp_bind H)) (fun M H => ?_)
        exact h80  _ H
    · refine oj_ald0 (pc := 44) (by decide +kernel) ?_
      refine oj_ald1 (pc := 45) (by decide +kernel) ?_
      refine of_Vv (pc := 46) (as := [_]) v_C_50 o_41 rfl rfl (Nat.le_of_ble_eq_true rfl) (by decide +kernel) (by decide) rfl (c_C_travel_1 (okp_bind H)) (fun M H => ?_)
      refine oj_goto (pc := 49) (off := 31) (tgt := 80) (by decide +kernel) (by decide) ?_
      exact h80  _ H
  have h25 : ∀ (M : oM), okp (p_C_tick_B25 f 6 M) K → oJ l m_C_tick (oEf 7 K) 0 0 25 [vr 41, vr 6] [] WD M := by
    intro  M H
    refine oj_ald1 (pc := 25) (by decide +kernel) ?_
    refine oj_getI' (pc := 26) (ki := 8) f_C_41 s_6_8 rfl (by decide +kernel) ?_
    refine oj_if_ne (pc := 29) (off := 8) (tgt := 37) (by decide +kernel) (by decide) H (fun _ H => ?_) (fun _ H => ?_)
    · exact h37  _ H
    · refine oj_ald0 (pc := 32) (by decide +kernel) ?_
      refine oj_ald1 (pc := 33) (by decide +kernel) ?_
      refine of_Vv (pc := 34) (as := [_]) v_C_44 o_41 rfl rfl (Nat.le_of_ble_eq_true rfl) (by decide +kernel) (by decide) rfl (c_C_beginDay_1 (okp_bind H)) (fun M H => ?_)
      exact h37  _ H
  refine oj_ald0 (pc := 0) (by decide +kernel) ?_
  refine oj_iconst (pc := 1) (v := -1) ⟨by decide, by decide⟩ (by decide +kernel) ?_
  refine oj_putI' (pc := 2) (ki := 5) f_C_9 s_41_5 rfl (by decide +kernel) ?_
  have H := okp_lt H
  refine oj_ald1 (pc := 5) (by decide +kernel) ?_
  refine oj_getI' (pc := 6) (ki := 9) f_C_36 s_6_9 rfl (by decide +kernel) ?_
  refine oj_sipush (pc := 9) (v := 9999) ⟨by decide, by decide⟩ (by decide +kernel) ?_
  refine oj_icmp_lt (pc := 12) (off := 13) (tgt := 25) (by decide +kernel) (by decide) H (fun _ H => ?_) (fun _ H => ?_)
  · exact h25  _ H
  · refine oj_ald1 (pc := 15) (by decide +kernel) ?_
    refine oj_getI' (pc := 16) (ki := 8) f_C_41 s_6_8 rfl (by decide +kernel) ?_
    refine oj_bipush (pc := 19) (v := 23) ⟨by decide, by decide⟩ (by decide +kernel) ?_
    refine oj_icmp_lt (pc := 21) (off := 4) (tgt := 25) (by decide +kernel) (by decide) H (fun _ H => ?_) (fun _ H => ?_)
    · exact h25  _ H
    · exact oj_vret (pc := 24) (by decide +kernel) rfl (Nat.le_refl _) (Nat.le_refl _) ⟨rfl, H⟩
