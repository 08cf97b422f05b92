/-! walks (by program) -/
theorem c_C_pass_0 {l : Launch} {f : Nat} {l2 : Int} {M : oM} {K : Int × oM → Prop} (H : okp (p_C_pass f 6 l2 M) K) : oKf l m_C_pass 8 [vr 41, vr 6, vi l2] M K := by
  refine oK_intro (lv := [vr 41, vr 6, vi l2, vu]) (by decide +kernel) (Nat.le_of_ble_eq_true rfl) rfl ?_
  have h17 : ∀ (g : Nat) (l2 l3 : Int) (M : oM), okp (iter (p_C_pass_L17 f 6 l2) g (l3, M)) K → oJ l m_C_pass (oEf 8 K) 0 0 17 [vr 41, vr 6, vi l2, vi l3] [] WD M := by
    intro g l2 l3 M H
    have HL := fun hs => iter_J' (Jh := fun s => oJ l m_C_pass (oEf 8 K) 0 0 17 [vr 41, vr 6, vi l2, vi s.1] [] WD s.2) (G := K) hs g (l3, M) H
    refine HL ?_
    intro K17 s i17 e17 H
    obtain ⟨l3, M⟩ := s
    show oJ l m_C_pass (oEf 8 K) 0 0 17 [vr 41, vr 6, vi l2, vi l3] [] WD M
    refine oj_ld3 (pc := 17) (by decide +kernel) ?_
    refine oj_ld2 (pc := 18) (by decide +kernel) ?_
    refine oj_icmp_ge (pc := 19) (off := 14) (tgt := 33) (by decide +kernel) (by decide) H (fun _ H => ?_) (fun _ H => ?_)
    · have H := e17 _ H
      exact oj_vret (pc := 33) (by decide +kernel) rfl (Nat.le_refl _) (Nat.le_refl _) ⟨rfl, H⟩
    · refine oj_ald0 (pc := 22) (by decide +kernel) ?_
      refine oj_ald1 (pc := 23) (by decide +kernel) ?_
      refine of_Vv (pc := 24) (as := [_]) v_C_32 o_41 rfl rfl (Nat.le_of_ble_eq_true rfl) (by decide +kernel) (by decide) rfl (c_C_tick_1 (okp_bind H)) (fun M H => ?_)
      refine oj_inc3 (pc := 27) (d := 1) (by decide +kernel) (by decide +kernel) ?_
      have H := okp_lt H
      refine oj_goto (pc := 30) (off := -13) (tgt := 17) (by decide +kernel) (by decide) ?_
      have H := i17 _ H
      exact H
  refine oj_ald0 (pc := 0) (by decide +kernel) ?_
  refine oj_iconst (pc := 1) (v := 0) ⟨by decide, by decide⟩ (by decide +kernel) ?_
  refine oj_putI' (pc := 2) (ki := 2) f_C_23 s_41_2 rfl (by decide +kernel) ?_
  have H := okp_lt H
  refine oj_ald0 (pc := 5) (by decide +kernel) ?_
  refine oj_iconst (pc := 6) (v := 0) ⟨by decide, by decide⟩ (by decide +kernel) ?_
  refine oj_putI' (pc := 7) (ki := 3) f_C_26 s_41_3 rfl (by decide +kernel) ?_
  have H := okp_lt H
  refine oj_ald0 (pc := 10) (by decide +kernel) ?_
  refine oj_iconst (pc := 11) (v := 0) ⟨by decide, by decide⟩ (by decide +kernel) ?_
  refine oj_putI' (pc := 12) (ki := 4) f_C_29 s_41_4 rfl (by decide +kernel) ?_
  have H := okp_lt H
  refine oj_iconst (pc := 15) (v := 0) ⟨by decide, by decide⟩ (by decide +kernel) ?_
  refine oj_st3 (pc := 16) (by decide +kernel) (by decide +kernel) ?_
  exact h17 _ _ _ _ H
theorem c_C_pass_1 {l : Launch} {f : Nat} {l2 : Int} {M : oM} {K : Int × oM → Prop} (H : okp (p_C_pass f 14 l2 M) K) : oKf l m_C_pass 8 [vr 41, vr 14, vi l2] M K := by
  refine oK_intro (lv := [vr 41, vr 14, vi l2, vu]) (by decide +kernel) (Nat.le_of_ble_eq_true rfl) rfl ?_
  have h17 : ∀ (g : Nat) (l2 l3 : Int) (M : oM), okp (iter (p_C_pass_L17 f 14 l2) g (l3, M)) K → oJ l m_C_pass (oEf 8 K) 0 0 17 [vr 41, vr 14, vi l2, vi l3] [] WD M := by
    intro g l2 l3 M H
    have HL := fun hs => iter_J' (Jh := fun s => oJ l m_C_pass (oEf 8 K) 0 0 17 [vr 41, vr 14, vi l2, vi s.1] [] WD s.2) (G := K) hs g (l3, M) H
    refine HL ?_
    intro K17 s i17 e17 H
    obtain ⟨l3, M⟩ := s
    show oJ l m_C_pass (oEf 8 K) 0 0 17 [vr 41, vr 14, vi l2, vi l3] [] WD M
    refine oj_ld3 (pc := 17) (by decide +kernel) ?_
    refine oj_ld2 (pc := 18) (by decide +kernel) ?_
    refine oj_icmp_ge (pc := 19) (off := 14) (tgt := 33) (by decide +kernel) (by decide) H (fun _ H => ?_) (fun _ H => ?_)
    · have H := e17 _ H
      exact oj_vret (pc := 33) (by decide +kernel) rfl (Nat.le_refl _) (Nat.le_refl _) ⟨rfl, H⟩
    · refine oj_ald0 (pc := 22) (by decide +kernel) ?_
      refine oj_ald1 (pc := 23) (by decide +kernel) ?_
      refine of_Vv (pc := 24) (as := [_]) v_C_32 o_41 rfl rfl (Nat.le_of_ble_eq_true rfl) (by decide +kernel) (by decide) rfl (c_C_tick_0 (okp_bind H)) (fun M H => ?_)
      refine oj_inc3 (pc := 27) (d := 1) (by decide +kernel) (by decide +kernel) ?_
      have H := okp_lt H
      refine oj_goto (pc := 30) (off := -13) (tgt := 17) (by decide +kernel) (by decide) ?_
      have H := i17 _ H
      exact H
  refine oj_ald0 (pc := 0) (by decide +kernel) ?_
  refine oj_iconst (pc := 1) (v := 0) ⟨by decide, by decide⟩ (by decide +kernel) ?_
  refine oj_putI' (pc := 2) (ki := 2) f_C_23 s_41_2 rfl (by decide +kernel) ?_
  have H := okp_lt H
  refine oj_ald0 (pc := 5) (by decide +kernel) ?_
  refine oj_iconst (pc := 6) (v := 0) ⟨by decide, by decide⟩ (by decide +kernel) ?_
  refine oj_putI' (pc := 7) (ki := 3) f_C_26 s_41_3 rfl (by decide +kernel) ?_
  have H := okp_lt H
  refine oj_ald0 (pc := 10) (by decide +kernel) ?_
  refine oj_iconst (pc := 11) (v := 0) ⟨by decide, by decide⟩ (by decide +kernel) ?_
  refine oj_putI' (pc := 12) (ki := 4) f_C_29 s_41_4 rfl (by decide +kernel) ?_
  have H := okp_lt H
  refine oj_iconst (pc := 15) (v := 0) ⟨by decide, by decide⟩ (by decide +kernel) ?_
  refine oj_st3 (pc := 16) (by decide +kernel) (by decide +kernel) ?_
  exact h17 _ _ _ _ H
theorem c_O_hours_0 {l : Launch} {f : Nat} {l1 : Int} {M : oM} {K : Int × oM → Prop} (H : okp (p_O_hours f l1 M) K) : oKf l m_O_hours 9 [vr 0, vi l1] M K := by
  refine oK_intro (lv := [vr 0, vi l1]) (by decide +kernel) (Nat.le_of_ble_eq_true rfl) rfl ?_
  refine oj_ld1 (pc := 0) (by decide +kernel) ?_
  refine of_Si (pc := 1) (as := [_]) v_O_154 rfl rfl (Nat.le_of_ble_eq_true rfl) (by decide +kernel) (by decide) rfl (c_O_areHours_0 (okp_bind H)) (fun r M H => ?_)
  refine oj_if_ne (pc := 4) (off := 5) (tgt := 9) (by decide +kernel) (by decide) H (fun _ H => ?_) (fun _ H => ?_)
  · refine oj_ald0 (pc := 9) (by decide +kernel) ?_
    refine oj_getR' (pc := 10) f_O_80 s_0_10 (by decide +kernel) ?_
    refine oj_ald0 (pc := 13) (by decide +kernel) ?_
    refine oj_getR' (pc := 14) f_O_26 s_0_2 (by decide +kernel) ?_
    refine oj_ld1 (pc := 17) (by decide +kernel) ?_
    refine of_Vv (pc := 18) (as := [_, _]) v_O_157 o_41 rfl rfl (Nat.le_of_ble_eq_true rfl) (by decide +kernel) (by decide) rfl (c_C_pass_0 (okp_bind H)) (fun M H => ?_)
    refine oj_ald0 (pc := 21) (by decide +kernel) ?_
    refine oj_getR' (pc := 22) f_O_80 s_0_10 (by decide +kernel) ?_
    refine oj_getI' (pc := 25) (ki := 2) f_O_161 s_41_2 rfl (by decide +kernel) ?_
    exact oj_iret (pc := 28) (by decide +kernel) rfl rfl (Nat.le_refl _) (Nat.le_refl _) ⟨rfl, H⟩
  · refine oj_iconst (pc := 7) (v := -1) ⟨by decide, by decide⟩ (by decide +kernel) ?_
    exact oj_iret (pc := 8) (by decide +kernel) rfl rfl (Nat.le_refl _) (Nat.le_refl _) ⟨rfl, H⟩
theorem c_D_takeFrom_0 {l : Launch} {f : Nat} {M : oM} {K : Int × oM → Prop} (H : okp (p_D_takeFrom f 14 6 M) K) : oKf l m_D_takeFrom 2 [vr 14, vr 6] M K := by
  refine oK_intro (lv := [vr 14, vr 6]) (by decide +kernel) (Nat.le_of_ble_eq_true rfl) rfl ?_
  refine oj_ald1 (pc := 0) (by decide +kernel) ?_
  refine oj_getR' (pc := 1) f_D_9 s_6_0 (by decide +kernel) ?_
  refine oj_iconst (pc := 4) (v := 0) ⟨by decide, by decide⟩ (by decide +kernel) ?_
  refine oj_ald0 (pc := 5) (by decide +kernel) ?_
  refine oj_getR' (pc := 6) f_D_9 s_14_0 (by decide +kernel) ?_
  refine oj_iconst (pc := 9) (v := 0) ⟨by decide, by decide⟩ (by decide +kernel) ?_
  refine oj_bipush (pc := 10) (v := 100) ⟨by decide, by decide⟩ (by decide +kernel) ?_
  refine oj_copy (pc := 12) (n0 := 100) (n1 := 100) l_D_34 acn.1 acn.2.1 acn.2.2 a_7 a_15 rfl rfl (Nat.le_of_ble_eq_true rfl) (Nat.le_of_ble_eq_true rfl) (by decide +kernel) H (fun H => ?_)
  have H := okp_lt H
  refine oj_ald1 (pc := 15) (by decide +kernel) ?_
  refine oj_getR' (pc := 16) f_D_15 s_6_1 (by decide +kernel) ?_
  refine oj_iconst (pc := 19) (v := 0) ⟨by decide, by decide⟩ (by decide +kernel) ?_
  refine oj_ald0 (pc := 20) (by decide +kernel) ?_
  refine oj_getR' (pc := 21) f_D_15 s_14_1 (by decide +kernel) ?_
  refine oj_iconst (pc := 24) (v := 0) ⟨by decide, by decide⟩ (by decide +kernel) ?_
  refine oj_bipush (pc := 25) (v := 10) ⟨by decide, by decide⟩ (by decide +kernel) ?_
  refine oj_copy (pc := 27) (n0 := 10) (n1 := 10) l_D_34 acn.1 acn.2.1 acn.2.2 a_8 a_16 rfl rfl (Nat.le_of_ble_eq_true rfl) (Nat.le_of_ble_eq_true rfl) (by decide +kernel) H (fun H => ?_)
  have H := okp_lt H
  refine oj_ald1 (pc := 30) (by decide +kernel) ?_
  refine oj_getR' (pc := 31) f_D_18 s_6_2 (by decide +kernel) ?_
  refine oj_iconst (pc := 34) (v := 0) ⟨by decide, by decide⟩ (by decide +kernel) ?_
  refine oj_ald0 (pc := 35) (by decide +kernel) ?_
  refine oj_getR' (pc := 36) f_D_18 s_14_2 (by decide +kernel) ?_
  refine oj_iconst (pc := 39) (v := 0) ⟨by decide, by decide⟩ (by decide +kernel) ?_
  refine oj_bipush (pc := 40) (v := 40) ⟨by decide, by decide⟩ (by decide +kernel) ?_
  refine oj_copy (pc := 42) (n0 := 40) (n1 := 40) l_D_34 acn.1 acn.2.1 acn.2.2 a_9 a_17 rfl rfl (Nat.le_of_ble_eq_true rfl) (Nat.le_of_ble_eq_true rfl) (by decide +kernel) H (fun H => ?_)
  have H := okp_lt H
  refine oj_ald0 (pc := 45) (by decide +kernel) ?_
  refine oj_ald1 (pc := 46) (by decide +kernel) ?_
  refine oj_getI' (pc := 47) (ki := 3) f_D_40 s_6_3 rfl (by decide +kernel) ?_
  refine oj_putI' (pc := 50) (ki := 3) f_D_40 s_14_3 rfl (by decide +kernel) ?_
  have H := okp_lt H
  refine oj_ald0 (pc := 53) (by decide +kernel) ?_
  refine oj_ald1 (pc := 54) (by decide +kernel) ?_
  refine oj_getI' (pc := 55) (ki := 4) f_D_21 s_6_4 rfl (by decide +kernel) ?_
  refine oj_putI' (pc := 58) (ki := 4) f_D_21 s_14_4 rfl (by decide +kernel) ?_
  have H := okp_lt H
  refine oj_ald0 (pc := 61) (by decide +kernel) ?_
  refine oj_ald1 (pc := 62) (by decide +kernel) ?_
  refine oj_getI' (pc := 63) (ki := 5) f_D_25 s_6_5 rfl (by decide +kernel) ?_
  refine oj_putI' (pc := 66) (ki := 5) f_D_25 s_14_5 rfl (by decide +kernel) ?_
  have H := okp_lt H
  refine oj_ald0 (pc := 69) (by decide +kernel) ?_
  refine oj_ald1 (pc := 70) (by decide +kernel) ?_
  refine oj_getI' (pc := 71) (ki := 6) f_D_28 s_6_6 rfl (by decide +kernel) ?_
  refine oj_putI' (pc := 74) (ki := 6) f_D_28 s_14_6 rfl (by decide +kernel) ?_
  have H := okp_lt H
  refine oj_ald0 (pc := 77) (by decide +kernel) ?_
  refine oj_ald1 (pc := 78) (by decide +kernel) ?_
  refine oj_getI' (pc := 79) (ki := 7) f_D_43 s_6_7 rfl (by decide +kernel) ?_
  refine oj_putI' (pc := 82) (ki := 7) f_D_43 s_14_7 rfl (by decide +kernel) ?_
  have H := okp_lt H
  refine oj_ald0 (pc := 85) (by decide +kernel) ?_
  refine oj_ald1 (pc := 86) (by decide +kernel) ?_
  refine oj_getI' (pc := 87) (ki := 8) f_D_46 s_6_8 rfl (by decide +kernel) ?_
  refine oj_putI' (pc := 90) (ki := 8) f_D_46 s_14_8 rfl (by decide +kernel) ?_
  have H := okp_lt H
  refine oj_ald0 (pc := 93) (by decide +kernel) ?_
  refine oj_ald1 (pc := 94) (by decide +kernel) ?_
  refine oj_getI' (pc := 95) (ki := 9) f_D_49 s_6_9 rfl (by decide +kernel) ?_
  refine oj_putI' (pc := 98) (ki := 9) f_D_49 s_14_9 rfl (by decide +kernel) ?_
  have H := okp_lt H
  refine oj_ald0 (pc := 101) (by decide +kernel) ?_
  refine oj_ald1 (pc := 102) (by decide +kernel) ?_
  refine oj_getI' (pc := 103) (ki := 10) f_D_52 s_6_10 rfl (by decide +kernel) ?_
  refine oj_putZ' (pc := 106) (ki := 10) f_D_52 s_14_10 rfl (by decide +kernel) H (fun H => ?_)
  have H := okp_lt H
  refine oj_ald0 (pc := 109) (by decide +kernel) ?_
  refine oj_ald1 (pc := 110) (by decide +kernel) ?_
  refine oj_getI' (pc := 111) (ki := 11) f_D_31 s_6_11 rfl (by decide +kernel) ?_
  refine oj_putI' (pc := 114) (ki := 11) f_D_31 s_14_11 rfl (by decide +kernel) ?_
  have H := okp_lt H
  exact oj_vret (pc := 117) (by decide +kernel) rfl (Nat.le_refl _) (Nat.le_refl _) ⟨rfl, H⟩
theorem c_D_takeFrom_1 {l : Launch} {f : Nat} {M : oM} {K : Int × oM → Prop} (H : okp (p_D_takeFrom f 10 6 M) K) : oKf l m_D_takeFrom 2 [vr 10, vr 6] M K := by
  refine oK_intro (lv := [vr 10, vr 6]) (by decide +kernel) (Nat.le_of_ble_eq_true rfl) rfl ?_
  refine oj_ald1 (pc := 0) (by decide +kernel) ?_
  refine oj_getR' (pc := 1) f_D_9 s_6_0 (by decide +kernel) ?_
  refine oj_iconst (pc := 4) (v := 0) ⟨by decide, by decide⟩ (by decide +kernel) ?_
  refine oj_ald0 (pc := 5) (by decide +kernel) ?_
  refine oj_getR' (pc := 6) f_D_9 s_10_0 (by decide +kernel) ?_
  refine oj_iconst (pc := 9) (v := 0) ⟨by decide, by decide⟩ (by decide +kernel) ?_
  refine oj_bipush (pc := 10) (v := 100) ⟨by decide, by decide⟩ (by decide +kernel) ?_
  refine oj_copy (pc := 12) (n0 := 100) (n1 := 100) l_D_34 acn.1 acn.2.1 acn.2.2 a_7 a_11 rfl rfl (Nat.le_of_ble_eq_true rfl) (Nat.le_of_ble_eq_true rfl) (by decide +kernel) H (fun H => ?_)
  have H := okp_lt H
  refine oj_ald1 (pc := 15) (by decide +kernel) ?_
  refine oj_getR' (pc := 16) f_D_15 s_6_1 (by decide +kernel) ?_
  refine oj_iconst (pc := 19) (v := 0) ⟨by decide, by decide⟩ (by decide +kernel) ?_
  refine oj_ald0 (pc := 20) (by decide +kernel) ?_
  refine oj_getR' (pc := 21) f_D_15 s_10_1 (by decide +kernel) ?_
  refine oj_iconst (pc := 24) (v := 0) ⟨by decide, by decide⟩ (by decide +kernel) ?_
  refine oj_bipush (pc := 25) (v := 10) ⟨by decide, by decide⟩ (by decide +kernel) ?_
  refine oj_copy (pc := 27) (n0 := 10) (n1 := 10) l_D_34 acn.1 acn.2.1 acn.2.2 a_8 a_12 rfl rfl (Nat.le_of_ble_eq_true rfl) (Nat.le_of_ble_eq_true rfl) (by decide +kernel) H (fun H => ?_)
  have H := okp_lt H
  refine oj_ald1 (pc := 30) (by decide +kernel) ?_
  refine oj_getR' (pc := 31) f_D_18 s_6_2 (by decide +kernel) ?_
  refine oj_iconst (pc := 34) (v := 0) ⟨by decide, by decide⟩ (by decide +kernel) ?_
  refine oj_ald0 (pc := 35) (by decide +kernel) ?_
  refine oj_getR' (pc := 36) f_D_18 s_10_2 (by decide +kernel) ?_
  refine oj_iconst (pc := 39) (v := 0) ⟨by decide, by decide⟩ (by decide +kernel) ?_
  refine oj_bipush (pc := 40) (v := 40) ⟨by decide, by decide⟩ (by decide +kernel) ?_
  refine oj_copy (pc := 42) (n0 := 40) (n1 := 40) l_D_34 acn.1 acn.2.1 acn.2.2 a_9 a_13 rfl rfl (Nat.le_of_ble_eq_true rfl) (Nat.le_of_ble_eq_true rfl) (by decide +kernel) H (fun H => ?_)
  have H := okp_lt H
  refine oj_ald0 (pc := 45) (by decide +kernel) ?_
  refine oj_ald1 (pc := 46) (by decide +kernel) ?_
  refine oj_getI' (pc := 47) (ki := 3) f_D_40 s_6_3 rfl (by decide +kernel) ?_
  refine oj_putI' (pc := 50) (ki := 3) f_D_40 s_10_3 rfl (by decide +kernel) ?_
  have H := okp_lt H
  refine oj_ald0 (pc := 53) (by decide +kernel) ?_
  refine oj_ald1 (pc := 54) (by decide +kernel) ?_
  refine oj_getI' (pc := 55) (ki := 4) f_D_21 s_6_4 rfl (by decide +kernel) ?_
  refine oj_putI' (pc := 58) (ki := 4) f_D_21 s_10_4 rfl (by decide +kernel) ?_
  have H := okp_lt H
  refine oj_ald0 (pc := 61) (by decide +kernel) ?_
  refine oj_ald1 (pc := 62) (by decide +kernel) ?_
  refine oj_getI' (pc := 63) (ki := 5) f_D_25 s_6_5 rfl (by decide +kernel) ?_
  refine oj_putI' (pc := 66) (ki := 5) f_D_25 s_10_5 rfl (by decide +kernel) ?_
  have H := okp_lt H
  refine oj_ald0 (pc := 69) (by decide +kernel) ?_
  refine oj_ald1 (pc := 70) (by decide +kernel) ?_
  refine oj_getI' (pc := 71) (ki := 6) f_D_28 s_6_6 rfl (by decide +kernel) ?_
  refine oj_putI' (pc := 74) (ki := 6) f_D_28 s_10_6 rfl (by decide +kernel) ?_
  have H := okp_lt H
  refine oj_ald0 (pc := 77) (by decide +kernel) ?_
  refine oj_ald1 (pc := 78) (by decide +kernel) ?_
  refine oj_getI' (pc := 79) (ki := 7) f_D_43 s_6_7 rfl (by decide +kernel) ?_
  refine oj_putI' (pc := 82) (ki := 7) f_D_43 s_10_7 rfl (by decide +kernel) ?_
  have H := okp_lt H
  refine oj_ald0 (pc := 85) (by decide +kernel) ?_
  refine oj_ald1 (pc := 86) (by decide +kernel) ?_
  refine oj_getI' (pc := 87) (ki := 8) f_D_46 s_6_8 rfl (by decide +kernel) ?_
  refine oj_putI' (pc := 90) (ki := 8) f_D_46 s_10_8 rfl (by decide +kernel) ?_
  have H := okp_lt H
  refine oj_ald0 (pc := 93) (by decide +kernel) ?_
  refine oj_ald1 (pc := 94) (by decide +kernel) ?_
  refine oj_getI' (pc := 95) (ki := 9) f_D_49 s_6_9 rfl (by decide +kernel) ?_
  refine oj_putI' (pc := 98) (ki := 9) f_D_49 s_10_9 rfl (by decide +kernel) ?_
  have H := okp_lt H
  refine oj_ald0 (pc := 101) (by decide +kernel) ?_
  refine oj_ald1 (pc := 102) (by decide +kernel) ?_
  refine oj_getI' (pc := 103) (ki := 10) f_D_52 s_6_10 rfl (by decide +kernel) ?_
  refine oj_putZ' (pc := 106) (ki := 10) f_D_52 s_10_10 rfl (by decide +kernel) H (fun H => ?_)
  have H := okp_lt H
  refine oj_ald0 (pc := 109) (by decide +kernel) ?_
  refine oj_ald1 (pc := 110) (by decide +kernel) ?_
  refine oj_getI' (pc := 111) (ki := 11) f_D_31 s_6_11 rfl (by decide +kernel) ?_
  refine oj_putI' (pc := 114) (ki := 11) f_D_31 s_10_11 rfl (by decide +kernel) ?_
  have H := okp_lt H
  exact oj_vret (pc := 117) (by decide +kernel) rfl (Nat.le_refl _) (Nat.le_refl _) ⟨rfl, H⟩
theorem c_D_takeFrom_2 {l : Launch} {f : Nat} {M : oM} {K : Int × oM → Prop} (H : okp (p_D_takeFrom f 6 10 M) K) : oKf l m_D_takeFrom 2 [vr 6, vr 10] M K := by
  refine oK_intro (lv := [vr 6, vr 10]) (by decide +kernel) (Nat.le_of_ble_eq_true rfl) rfl ?_
  refine oj_ald1 (pc := 0) (by decide +kernel) ?_
  refine oj_getR' (pc := 1) f_D_9 s_10_0 (by decide +kernel) ?_
  refine oj_iconst (pc := 4) (v := 0) ⟨by decide, by decide⟩ (by decide +kernel) ?_
  refine oj_ald0 (pc := 5) (by decide +kernel) ?_
  refine oj_getR' (pc := 6) f_D_9 s_6_0 (by decide +kernel) ?_
  refine oj_iconst (pc := 9) (v := 0) ⟨by decide, by decide⟩ (by decide +kernel) ?_
  refine oj_bipush (pc := 10) (v := 100) ⟨by decide, by decide⟩ (by decide +kernel) ?_
  refine oj_copy (pc := 12) (n0 := 100) (n1 := 100) l_D_34 acn.1 acn.2.1 acn.2.2 a_11 a_7 rfl rfl (Nat.le_of_ble_eq_true rfl) (Nat.le_of_ble_eq_true rfl) (by decide +kernel) H (fun H => ?_)
  have H := okp_lt H
  refine oj_ald1 (pc := 15) (by decide +kernel) ?_
  refine oj_getR' (pc := 16) f_D_15 s_10_1 (by decide +kernel) ?_
  refine oj_iconst (pc := 19) (v := 0) ⟨by decide, by decide⟩ (by decide +kernel) ?_
  refine oj_ald0 (pc := 20) (by decide +kernel) ?_
  refine oj_getR' (pc := 21) f_D_15 s_6_1 (by decide +kernel) ?_
  refine oj_iconst (pc := 24) (v := 0) ⟨by decide, by decide⟩ (by decide +kernel) ?_
  refine oj_bipush (pc := 25) (v := 10) ⟨by decide, by decide⟩ (by decide +kernel) ?_
  refine oj_copy (pc := 27) (n0 := 10) (n1 := 10) l_D_34 acn.1 acn.2.1 acn.2.2 a_12 a_8 rfl rfl (Nat.le_of_ble_eq_true rfl) (Nat.le_of_ble_eq_true rfl) (by decide +kernel) H (fun H => ?_)
  have H := okp_lt H
  refine oj_ald1 (pc := 30) (by decide +kernel) ?_
  refine oj_getR' (pc := 31) f_D_18 s_10_2 (by decide +kernel) ?_
  refine oj_iconst (pc := 34) (v := 0) ⟨by decide, by decide⟩ (by decide +kernel) ?_
  refine oj_ald0 (pc := 35) (by decide +kernel) ?_
  refine oj_getR' (pc := 36) f_D_18 s_6_2 (by decide +kernel) ?_
  refine oj_iconst (pc := 39) (v := 0) ⟨by decide, by decide⟩ (by decide +kernel) ?_
  refine oj_bipush (pc := 40) (v := 40) ⟨by decide, by decide⟩ (by decide +kernel) ?_
  refine oj_copy (pc := 42) (n0 := 40) (n1 := 40) l_D_34 acn.1 acn.2.1 acn.2.2 a_13 a_9 rfl rfl (Nat.le_of_ble_eq_true rfl) (Nat.le_of_ble_eq_true rfl) (by decide +kernel) H (fun H => ?_)
  have H := okp_lt H
  refine oj_ald0 (pc := 45) (by decide +kernel) ?_
  refine oj_ald1 (pc := 46) (by decide +kernel) ?_
  refine oj_getI' (pc := 47) (ki := 3) f_D_40 s_10_3 rfl (by decide +kernel) ?_
  refine oj_putI' (pc := 50) (ki := 3) f_D_40 s_6_3 rfl (by decide +kernel) ?_
  have H := okp_lt H
  refine oj_ald0 (pc := 53) (by decide +kernel) ?_
  refine oj_ald1 (pc := 54) (by decide +kernel) ?_
  refine oj_getI' (pc := 55) (ki := 4) f_D_21 s_10_4 rfl (by decide +kernel) ?_
  refine oj_putI' (pc := 58) (ki := 4) f_D_21 s_6_4 rfl (by decide +kernel) ?_
  have H := okp_lt H
  refine oj_ald0 (pc := 61) (by decide +kernel) ?_
  refine oj_ald1 (pc := 62) (by decide +kernel) ?_
  refine oj_getI' (pc := 63) (ki := 5) f_D_25 s_10_5 rfl (by decide +kernel) ?_
  refine oj_putI' (pc := 66) (ki := 5) f_D_25 s_6_5 rfl (by decide +kernel) ?_
  have H := okp_lt H
  refine oj_ald0 (pc := 69) (by decide +kernel) ?_
  refine oj_ald1 (pc := 70) (by decide +kernel) ?_
  refine oj_getI' (pc := 71) (ki := 6) f_D_28 s_10_6 rfl (by decide +kernel) ?_
  refine oj_putI' (pc := 74) (ki := 6) f_D_28 s_6_6 rfl (by decide +kernel) ?_
  have H := okp_lt H
  refine oj_ald0 (pc := 77) (by decide +kernel) ?_
  refine oj_ald1 (pc := 78) (by decide +kernel) ?_
  refine oj_getI' (pc := 79) (ki := 7) f_D_43 s_10_7 rfl (by decide +kernel) ?_
  refine oj_putI' (pc := 82) (ki := 7) f_D_43 s_6_7 rfl (by decide +kernel) ?_
  have H := okp_lt H
  refine oj_ald0 (pc := 85) (by decide +kernel) ?_
  refine oj_ald1 (pc := 86) (by decide +kernel) ?_
  refine oj_getI' (pc := 87) (ki := 8) f_D_46 s_10_8 rfl (by decide +kernel) ?_
  refine oj_putI' (pc := 90) (ki := 8) f_D_46 s_6_8 rfl (by decide +kernel) ?_
  have H := okp_lt H
  refine oj_ald0 (pc := 93) (by decide +kernel) ?_
  refine oj_ald1 (pc := 94) (by decide +kernel) ?_
  refine oj_getI' (pc := 95) (ki := 9) f_D_49 s_10_9 rfl (by decide +kernel) ?_
  refine oj_putI' (pc := 98) (ki := 9) f_D_49 s_6_9 rfl (by decide +kernel) ?_
  have H := okp_lt H
  refine oj_ald0 (pc := 101) (by decide +kernel) ?_
  refine oj_ald1 (pc := 102) (by decide +kernel) ?_
  refine oj_getI' (pc := 103) (ki := 10) f_D_52 s_10_10 rfl (by decide +kernel) ?_
  refine oj_putZ' (pc := 106) (ki := 10) f_D_52 s_6_10 rfl (by decide +kernel) H (fun H => ?_)
  have H := okp_lt H
  refine oj_ald0 (pc := 109) (by decide +kernel) ?_
  refine oj_ald1 (pc := 110) (by decide +kernel) ?_
  refine oj_getI' (pc := 111) (ki := 11) f_D_31 s_10_11 rfl (by decide +kernel) ?_
  refine oj_putI' (pc := 114) (ki := 11) f_D_31 s_6_11 rfl (by decide +kernel) ?_
  have H := okp_lt H
  exact oj_vret (pc := 117) (by decide +kernel) rfl (Nat.le_refl _) (Nat.le_refl _) ⟨rfl, H⟩
theorem c_O_tried_0 {l : Launch} {f : Nat} {l1 l2 : Int} {M : oM} {K : Int × oM → Prop} (H : okp (p_O_tried f l1 l2 M) K) : oKf l m_O_tried 9 [vr 0, vi l1, vi l2] M K := by
  refine oK_intro (lv := [vr 0, vi l1, vi l2, vu]) (by decide +kernel) (Nat.le_of_ble_eq_true rfl) rfl ?_
  have h34 : ∀ (l1 l2 : Int) (M : oM), okp (p_O_tried_B34 f l1 l2 M) K → oJ l m_O_tried (oEf 9 K) 0 0 34 [vr 0, vi l1, vi l2, vu] [] WD M := by
    intro l1 l2 M H
    refine oj_ald0 (pc := 34) (by decide +kernel) ?_
    refine oj_getR' (pc := 35) f_O_33 s_0_4 (by decide +kernel) ?_
    refine oj_ald0 (pc := 38) (by decide +kernel) ?_
    refine oj_getR' (pc := 39) f_O_26 s_0_2 (by decide +kernel) ?_
    refine of_Vv (pc := 42) (as := [_]) v_O_165 o_14 rfl rfl (Nat.le_of_ble_eq_true rfl) (by decide +kernel) (by decide) rfl (c_D_takeFrom_0 (okp_bind H)) (fun M H => ?_)
    refine oj_ald0 (pc := 45) (by decide +kernel) ?_
    refine oj_getR' (pc := 46) f_O_80 s_0_10 (by decide +kernel) ?_
    refine oj_ald0 (pc := 49) (by decide +kernel) ?_
    refine oj_getR' (pc := 50) f_O_33 s_0_4 (by decide +kernel) ?_
    refine oj_ld1 (pc := 53) (by decide +kernel) ?_
    refine of_Vv (pc := 54) (as := [_, _]) v_O_157 o_41 rfl rfl (Nat.le_of_ble_eq_true rfl) (by decide +kernel) (by decide) rfl (c_C_pass_1 (okp_bind H)) (fun M H => ?_)
    refine oj_ld2 (pc := 57) (by decide +kernel) ?_
    refine oj_case (c := _ = 0) H (fun c0 H => ?_) (fun c0 H => ?_)
    · refine oj_tin (pc := 58) (dflt := 101) (lo := 0) (hi := 5) (offs := #[38, 46, 54, 77, 85, 93]) (len := 38) (off := 38) (tgt := 96) 0 c0 (by decide +kernel) ⟨by decide, by decide⟩ (by decide +kernel) (by decide) ?_
      refine oj_ald0 (pc := 96) (by decide +kernel) ?_
      refine oj_getR' (pc := 97) f_O_80 s_0_10 (by decide +kernel) ?_
      refine oj_getI' (pc := 100) (ki := 2) f_O_161 s_41_2 rfl (by decide +kernel) ?_
      exact oj_iret (pc := 103) (by decide +kernel) rfl rfl (Nat.le_refl _) (Nat.le_refl _) ⟨rfl, H⟩
    refine oj_case (c := _ = 1) H (fun c1 H => ?_) (fun c1 H => ?_)
    · refine oj_tin (pc := 58) (dflt := 101) (lo := 0) (hi := 5) (offs := #[38, 46, 54, 77, 85, 93]) (len := 38) (off := 46) (tgt := 104) 1 c1 (by decide +kernel) ⟨by decide, by decide⟩ (by decide +kernel) (by decide) ?_
      refine oj_ald0 (pc := 104) (by decide +kernel) ?_
      refine oj_getR' (pc := 105) f_O_33 s_0_4 (by decide +kernel) ?_
      refine of_Vi (pc := 108) (as := []) v_O_151 o_14 rfl rfl (Nat.le_of_ble_eq_true rfl) (by decide +kernel) (by decide) rfl (c_D_owedInAll_1 (okp_bind H)) (fun r M H => ?_)
      exact oj_iret (pc := 111) (by decide +kernel) rfl rfl (Nat.le_refl _) (Nat.le_refl _) ⟨rfl, H⟩
    refine oj_case (c := _ = 2) H (fun c2 H => ?_) (fun c2 H => ?_)
    · refine oj_tin (pc := 58) (dflt := 101) (lo := 0) (hi := 5) (offs := #[38, 46, 54, 77, 85, 93]) (len := 38) (off := 54) (tgt := 112) 2 c2 (by decide +kernel) ⟨by decide, by decide⟩ (by decide +kernel) (by decide) ?_
      refine oj_ald0 (pc := 112) (by decide +kernel) ?_
      refine oj_getR' (pc := 113) f_O_33 s_0_4 (by decide +kernel) ?_
      refine oj_getI' (pc := 116) (ki := 4) f_O_168 s_14_4 rfl (by decide +kernel) ?_
      refine oj_if_ge (pc := 119) (off := 8) (tgt := 127) (by decide +kernel) (by decide) H (fun _ H => ?_) (fun _ H => ?_)
      · refine oj_ald0 (pc := 127) (by decide +kernel) ?_
        refine oj_getR' (pc := 128) f_O_33 s_0_4 (by decide +kernel) ?_
        refine oj_getI' (pc := 131) (ki := 4) f_O_168 s_14_4 rfl (by decide +kernel) ?_
        exact oj_iret (pc := 134) (by decide +kernel) rfl rfl (Nat.le_refl _) (Nat.le_refl _) ⟨rfl, H⟩
      · refine oj_bipush (pc := 122) (v := -2) ⟨by decide, by decide⟩ (by decide +kernel) ?_
        refine oj_goto (pc := 124) (off := 10) (tgt := 134) (by decide +kernel) (by decide) ?_
        exact oj_iret (pc := 134) (by decide +kernel) rfl rfl (Nat.le_refl _) (Nat.le_refl _) ⟨rfl, H⟩
    refine oj_case (c := _ = 3) H (fun c3 H => ?_) (fun c3 H => ?_)
    · refine oj_tin (pc := 58) (dflt := 101) (lo := 0) (hi := 5) (offs := #[38, 46, 54, 77, 85, 93]) (len := 38) (off := 77) (tgt := 135) 3 c3 (by decide +kernel) ⟨by decide, by decide⟩ (by decide +kernel) (by decide) ?_
      refine oj_ald0 (pc := 135) (by decide +kernel) ?_
      refine oj_getR' (pc := 136) f_O_80 s_0_10 (by decide +kernel) ?_
      refine oj_getI' (pc := 139) (ki := 3) f_O_171 s_41_3 rfl (by decide +kernel) ?_
      exact oj_iret (pc := 142) (by decide +kernel) rfl rfl (Nat.le_refl _) (Nat.le_refl _) ⟨rfl, H⟩
    refine oj_case (c := _ = 4) H (fun c4 H => ?_) (fun c4 H => ?_)
    · refine oj_tin (pc := 58) (dflt := 101) (lo := 0) (hi := 5) (offs := #[38, 46, 54, 77, 85, 93]) (len := 38) (off := 85) (tgt := 143) 4 c4 (by decide +kernel) ⟨by decide, by decide⟩ (by decide +kernel) (by decide) ?_
      refine oj_ald0 (pc := 143) (by decide +kernel) ?_
      refine oj_getR' (pc := 144) f_O_80 s_0_10 (by decide +kernel) ?_
      refine oj_getI' (pc := 147) (ki := 4) f_O_174 s_41_4 rfl (by decide +kernel) ?_
      exact oj_iret (pc := 150) (by decide +kernel) rfl rfl (Nat.le_refl _) (Nat.le_refl _) ⟨rfl, H⟩
    refine oj_case (c := _ = 5) H (fun c5 H => ?_) (fun c5 H => ?_)
    · refine oj_tin (pc := 58) (dflt := 101) (lo := 0) (hi := 5) (offs := #[38, 46, 54, 77, 85, 93]) (len := 38) (off := 93) (tgt := 151) 5 c5 (by decide +kernel) ⟨by decide, by decide⟩ (by decide +kernel) (by decide) ?_
      refine oj_ald0 (pc := 151) (by decide +kernel) ?_
      refine oj_getR' (pc := 152) f_O_33 s_0_4 (by decide +kernel) ?_
      refine oj_getI' (pc := 155) (ki := 8) f_O_177 s_14_8 rfl (by decide +kernel) ?_
      exact oj_iret (pc := 158) (by decide +kernel) rfl rfl (Nat.le_refl _) (Nat.le_refl _) ⟨rfl, H⟩
    refine oj_tout (pc := 58) (dflt := 101) (lo := 0) (hi := 5) (offs := #[38, 46, 54, 77, 85, 93]) (len := 38) (tgt := 159) (by decide +kernel) (by omega) (by decide) ?_
    refine oj_ald0 (pc := 159) (by decide +kernel) ?_
    refine oj_getR' (pc := 160) f_O_33 s_0_4 (by decide +kernel) ?_
    refine oj_getR' (pc := 163) f_O_180 s_14_1 (by decide +kernel) ?_
    refine oj_ld2 (pc := 166) (by decide +kernel) ?_
    refine oj_bipush (pc := 167) (v := 10) ⟨by decide, by decide⟩ (by decide +kernel) ?_
    refine oj_isub (pc := 169) (by decide +kernel) ?_
    refine oj_iald (pc := 170) (NN := 10) a_16 rfl (by decide +kernel) H (fun H => ?_)
    refine oj_ald0 (pc := 171) (by decide +kernel) ?_
    refine oj_getR' (pc := 172) f_O_26 s_0_2 (by decide +kernel) ?_
    refine oj_getR' (pc := 175) f_O_180 s_6_1 (by decide +kernel) ?_
    refine oj_ld2 (pc := 178) (by decide +kernel) ?_
    refine oj_bipush (pc := 179) (v := 10) ⟨by decide, by decide⟩ (by decide +kernel) ?_
    refine oj_isub (pc := 181) (by decide +kernel) ?_
    refine oj_iald (pc := 182) (NN := 10) a_8 rfl (by decide +kernel) H (fun H => ?_)
    refine oj_isub (pc := 183) (by decide +kernel) ?_
    exact oj_iret (pc := 184) (by decide +kernel) rfl rfl (Nat.le_refl _) (Nat.le_refl _) ⟨rfl, H⟩
  have h28 : ∀ (l1 l2 l3 : Int) (M : oM), okp (p_O_tried_B28 f l1 l2 l3 M) K → oJ l m_O_tried (oEf 9 K) 0 0 28 [vr 0, vi l1, vi l2, vi l3] [] WD M := by
    intro l1 l2 l3 M H
    refine oj_ld3 (pc := 28) (by decide +kernel) ?_
    refine oj_if_ne (pc := 29) (off := 5) (tgt := 34) (by decide +kernel) (by decide) H (fun _ H => ?_) (fun _ H => ?_)
    · refine oj_le (lv' := [_, _, _, vu]) ⟨Or.inr rfl, Or.inr rfl, Or.inr rfl, Or.inl rfl, trivial⟩ ?_
      exact h34 _ _ _ H
    · refine oj_iconst (pc := 32) (v := -1) ⟨by decide, by decide⟩ (by decide +kernel) ?_
      exact oj_iret (pc := 33) (by decide +kernel) rfl rfl (Nat.le_refl _) (Nat.le_refl _) ⟨rfl, H⟩
  refine oj_ald0 (pc := 0) (by decide +kernel) ?_
  refine oj_getR' (pc := 1) f_O_19 s_0_1 (by decide +kernel) ?_
  refine oj_ld2 (pc := 4) (by decide +kernel) ?_
  refine oj_bipush (pc := 5) (v := 10) ⟨by decide, by decide⟩ (by decide +kernel) ?_
  refine oj_isub (pc := 7) (by decide +kernel) ?_
  refine of_Vi (pc := 8) (as := [_]) v_O_114 o_3 rfl rfl (Nat.le_of_ble_eq_true rfl) (by decide +kernel) (by decide) rfl (c_P_has_0 (okp_bind H)) (fun r M H => ?_)
  refine oj_st3 (pc := 11) (by decide +kernel) (by decide +kernel) ?_
  refine oj_ld1 (pc := 12) (by decide +kernel) ?_
  refine of_Si (pc := 13) (as := [_]) v_O_154 rfl rfl (Nat.le_of_ble_eq_true rfl) (by decide +kernel) (by decide) rfl (c_O_areHours_0 (okp_bind H)) (fun r M H => ?_)
  refine oj_if_eq (pc := 16) (off := 16) (tgt := 32) (by decide +kernel) (by decide) H (fun _ H => ?_) (fun _ H => ?_)
  · refine oj_iconst (pc := 32) (v := -1) ⟨by decide, by decide⟩ (by decide +kernel) ?_
    exact oj_iret (pc := 33) (by decide +kernel) rfl rfl (Nat.le_refl _) (Nat.le_refl _) ⟨rfl, H⟩
  · refine oj_ld2 (pc := 19) (by decide +kernel) ?_
    refine oj_if_lt (pc := 20) (off := 8) (tgt := 28) (by decide +kernel) (by decide) H (fun _ H => ?_) (fun _ H => ?_)
    · exact h28 _ _ _ _ H
    · refine oj_ld2 (pc := 23) (by decide +kernel) ?_
      refine oj_iconst (pc := 24) (v := 5) ⟨by decide, by decide⟩ (by decide +kernel) ?_
      refine oj_icmp_le (pc := 25) (off := 9) (tgt := 34) (by decide +kernel) (by decide) H (fun _ H => ?_) (fun _ H => ?_)
      · refine oj_le (lv' := [_, _, _, vu]) ⟨Or.inr rfl, Or.inr rfl, Or.inr rfl, Or.inl rfl, trivial⟩ ?_
        exact h34 _ _ _ H
      · exact h28 _ _ _ _ H
theorem c_D_owedTo_0 {l : Launch} {f : Nat} {l1 : Int} {M : oM} {K : Int × oM → Prop} (H : okp (p_D_owedTo f l1 M) K) : oKf l m_D_owedTo 2 [vr 6, vi l1] M K := by
  refine oK_intro (lv := [vr 6, vi l1, vu, vu]) (by decide +kernel) (Nat.le_of_ble_eq_true rfl) rfl ?_
  have h4 : ∀ (g : Nat) (l1 l2 l3 : Int) (M : oM), okp (iter (p_D_owedTo_L4 f l1) g (l2, l3, M)) K → oJ l m_D_owedTo (oEf 2 K) 0 0 4 [vr 6, vi l1, vi l2, vi l3] [] WD M := by
    intro g l1 l2 l3 M H
    have HL := fun hs => iter_J' (Jh := fun s => oJ l m_D_owedTo (oEf 2 K) 0 0 4 [vr 6, vi l1, vi s.1, vi s.2.1] [] WD s.2.2) (G := K) hs g (l2, l3, M) H
    refine HL ?_
    intro K4 s i4 e4 H
    obtain ⟨l2, l3, M⟩ := s
    show oJ l m_D_owedTo (oEf 2 K) 0 0 4 [vr 6, vi l1, vi l2, vi l3] [] WD M
    refine oj_ld3 (pc := 4) (by decide +kernel) ?_
    refine oj_bipush (pc := 5) (v := 10) ⟨by decide, by decide⟩ (by decide +kernel) ?_
    refine oj_icmp_ge (pc := 7) (off := 23) (tgt := 30) (by decide +kernel) (by decide) H (fun _ H => ?_) (fun _ H => ?_)
    · refine oj_ld2 (pc := 30) (by decide +kernel) ?_
      have H := e4 _ H
      exact oj_iret (pc := 31) (by decide +kernel) rfl rfl (Nat.le_refl _) (Nat.le_refl _) ⟨rfl, H⟩
    · refine oj_ld2 (pc := 10) (by decide +kernel) ?_
      refine oj_ald0 (pc := 11) (by decide +kernel) ?_
      refine oj_getR' (pc := 12) f_D_9 s_6_0 (by decide +kernel) ?_
      refine oj_ld3 (pc := 15) (by decide +kernel) ?_
      refine oj_bipush (pc := 16) (v := 10) ⟨by decide, by decide⟩ (by decide +kernel) ?_
      refine oj_imul (pc := 18) (by decide +kernel) ?_
      refine oj_ld1 (pc := 19) (by decide +kernel) ?_
      refine oj_iadd (pc := 20) (by decide +kernel) ?_
      refine oj_iald (pc := 21) (NN := 100) a_7 rfl (by decide +kernel) H (fun H => ?_)
      refine oj_iadd (pc := 22) (by decide +kernel) ?_
      refine oj_st2 (pc := 23) (by decide +kernel) (by decide +kernel) ?_
      have H := okp_lt H
      refine oj_inc3 (pc := 24) (d := 1) (by decide +kernel) (by decide +kernel) ?_
      have H := okp_lt H
      refine oj_goto (pc := 27) (off := -23) (tgt := 4) (by decide +kernel) (by decide) ?_
      have H := i4 _ H
      exact H
  refine oj_iconst (pc := 0) (v := 0) ⟨by decide, by decide⟩ (by decide +kernel) ?_
  refine oj_st2 (pc := 1) (by decide +kernel) (by decide +kernel) ?_
  refine oj_iconst (pc := 2) (v := 0) ⟨by decide, by decide⟩ (by decide +kernel) ?_
  refine oj_st3 (pc := 3) (by decide +kernel) (by decide +kernel) ?_
  exact h4 _ _ _ _ _ H
theorem c_O_personIs_0 {l : Launch} {f : Nat} {l1 l2 : Int} {M : oM} {K : Int × oM → Prop} (H : okp (p_O_personIs f l1 l2 M) K) : oKf l m_O_personIs 4 [vr 0, vi l1, vi l2] M K := by
  refine oK_intro (lv := [vr 0, vi l1, vi l2]) (by decide +kernel) (Nat.le_of_ble_eq_true rfl) rfl ?_
  refine oj_ald0 (pc := 0) (by decide +kernel) ?_
  refine oj_getR' (pc := 1) f_O_19 s_0_1 (by decide +kernel) ?_
  refine oj_ld1 (pc := 4) (by decide +kernel) ?_
  refine of_Vi (pc := 5) (as := [_]) v_O_114 o_3 rfl rfl (Nat.le_of_ble_eq_true rfl) (by decide +kernel) (by decide) rfl (c_P_has_0 (okp_bind H)) (fun r M H => ?_)
  refine oj_if_ne (pc := 8) (off := 5) (tgt := 13) (by decide +kernel) (by decide) H (fun _ H => ?_) (fun _ H => ?_)
  · refine oj_ld2 (pc := 13) (by decide +kernel) ?_
    refine oj_case (c := _ = 0) H (fun c0 H => ?_) (fun c0 H => ?_)
    · refine oj_tin (pc := 14) (dflt := 95) (lo := 0) (hi := 5) (offs := #[38, 48, 58, 67, 76, 86]) (len := 38) (off := 38) (tgt := 52) 0 c0 (by decide +kernel) ⟨by decide, by decide⟩ (by decide +kernel) (by decide) ?_
      refine oj_ald0 (pc := 52) (by decide +kernel) ?_
      refine oj_getR' (pc := 53) f_O_19 s_0_1 (by decide +kernel) ?_
      refine oj_getR' (pc := 56) f_O_183 s_3_0 (by decide +kernel) ?_
      refine oj_ld1 (pc := 59) (by decide +kernel) ?_
      refine oj_iald (pc := 60) (NN := 10) a_4 rfl (by decide +kernel) H (fun H => ?_)
      exact oj_iret (pc := 61) (by decide +kernel) rfl rfl (Nat.le_refl _) (Nat.le_refl _) ⟨rfl, H⟩
    refine oj_case (c := _ = 1) H (fun c1 H => ?_) (fun c1 H => ?_)
    · refine oj_tin (pc := 14) (dflt := 95) (lo := 0) (hi := 5) (offs := #[38, 48, 58, 67, 76, 86]) (len := 38) (off := 48) (tgt := 62) 1 c1 (by decide +kernel) ⟨by decide, by decide⟩ (by decide +kernel) (by decide) ?_
      refine oj_ald0 (pc := 62) (by decide +kernel) ?_
      refine oj_getR' (pc := 63) f_O_19 s_0_1 (by decide +kernel) ?_
      refine oj_getR' (pc := 66) f_O_186 s_3_1 (by decide +kernel) ?_
      refine oj_ld1 (pc := 69) (by decide +kernel) ?_
      refine oj_iald (pc := 70) (NN := 10) a_5 rfl (by decide +kernel) H (fun H => ?_)
      exact oj_iret (pc := 71) (by decide +kernel) rfl rfl (Nat.le_refl _) (Nat.le_refl _) ⟨rfl, H⟩
    refine oj_case (c := _ = 2) H (fun c2 H => ?_) (fun c2 H => ?_)
    · refine oj_tin (pc := 14) (dflt := 95) (lo := 0) (hi := 5) (offs := #[38, 48, 58, 67, 76, 86]) (len := 38) (off := 58) (tgt := 72) 2 c2 (by decide +kernel) ⟨by decide, by decide⟩ (by decide +kernel) (by decide) ?_
      refine oj_ald0 (pc := 72) (by decide +kernel) ?_
      refine oj_getR' (pc := 73) f_O_26 s_0_2 (by decide +kernel) ?_
      refine oj_ld1 (pc := 76) (by decide +kernel) ?_
      refine of_Vi (pc := 77) (as := [_]) v_O_189 o_6 rfl rfl (Nat.le_of_ble_eq_true rfl) (by decide +kernel) (by decide) rfl (c_D_owedBy_0 (okp_bind H)) (fun r M H => ?_)
      exact oj_iret (pc := 80) (by decide +kernel) rfl rfl (Nat.le_refl _) (Nat.le_refl _) ⟨rfl, H⟩
    refine oj_case (c := _ = 3) H (fun c3 H => ?_) (fun c3 H => ?_)
    · refine oj_tin (pc := 14) (dflt := 95) (lo := 0) (hi := 5) (offs := #[38, 48, 58, 67, 76, 86]) (len := 38) (off := 67) (tgt := 81) 3 c3 (by decide +kernel) ⟨by decide, by decide⟩ (by decide +kernel) (by decide) ?_
      refine oj_ald0 (pc := 81) (by decide +kernel) ?_
      refine oj_getR' (pc := 82) f_O_26 s_0_2 (by decide +kernel) ?_
      refine oj_ld1 (pc := 85) (by decide +kernel) ?_
      refine of_Vi (pc := 86) (as := [_]) v_O_193 o_6 rfl rfl (Nat.le_of_ble_eq_true rfl) (by decide +kernel) (by decide) rfl (c_D_owedTo_0 (okp_bind H)) (fun r M H => ?_)
      exact oj_iret (pc := 89) (by decide +kernel) rfl rfl (Nat.le_refl _) (Nat.le_refl _) ⟨rfl, H⟩
    refine oj_case (c := _ = 4) H (fun c4 H => ?_) (fun c4 H => ?_)
    · refine oj_tin (pc := 14) (dflt := 95) (lo := 0) (hi := 5) (offs := #[38, 48, 58, 67, 76, 86]) (len := 38) (off := 76) (tgt := 90) 4 c4 (by decide +kernel) ⟨by decide, by decide⟩ (by decide +kernel) (by decide) ?_
      refine oj_ald0 (pc := 90) (by decide +kernel) ?_
      refine oj_getR' (pc := 91) f_O_26 s_0_2 (by decide +kernel) ?_
      refine oj_getR' (pc := 94) f_O_180 s_6_1 (by decide +kernel) ?_
      refine oj_ld1 (pc := 97) (by decide +kernel) ?_
      refine oj_iald (pc := 98) (NN := 10) a_8 rfl (by decide +kernel) H (fun H => ?_)
      exact oj_iret (pc := 99) (by decide +kernel) rfl rfl (Nat.le_refl _) (Nat.le_refl _) ⟨rfl, H⟩
    refine oj_case (c := _ = 5) H (fun c5 H => ?_) (fun c5 H => ?_)
    · refine oj_tin (pc := 14) (dflt := 95) (lo := 0) (hi := 5) (offs := #[38, 48, 58, 67, 76, 86]) (len := 38) (off := 86) (tgt := 100) 5 c5 (by decide +kernel) ⟨by decide, by decide⟩ (by decide +kernel) (by decide) ?_
      refine oj_ald0 (pc := 100) (by decide +kernel) ?_
      refine oj_getR' (pc := 101) f_O_26 s_0_2 (by decide +kernel) ?_
      refine oj_ld1 (pc := 104) (by decide +kernel) ?_
      refine of_Vi (pc := 105) (as := [_]) v_O_196 o_6 rfl rfl (Nat.le_of_ble_eq_true rfl) (by decide +kernel) (by decide) rfl (c_D_timesChalked_0 (okp_bind H)) (fun r M H => ?_)
      exact oj_iret (pc := 108) (by decide +kernel) rfl rfl (Nat.le_refl _) (Nat.le_refl _) ⟨rfl, H⟩
    refine oj_tout (pc := 14) (dflt := 95) (lo := 0) (hi := 5) (offs := #[38, 48, 58, 67, 76, 86]) (len := 38) (tgt := 109) (by decide +kernel) (by omega) (by decide) ?_
    refine oj_iconst (pc := 109) (v := -1) ⟨by decide, by decide⟩ (by decide +kernel) ?_
    exact oj_iret (pc := 110) (by decide +kernel) rfl rfl (Nat.le_refl _) (Nat.le_refl _) ⟨rfl, H⟩
  · refine oj_iconst (pc := 11) (v := -1) ⟨by decide, by decide⟩ (by decide +kernel) ?_
    exact oj_iret (pc := 12) (by decide +kernel) rfl rfl (Nat.le_refl _) (Nat.le_refl _) ⟨rfl, H⟩
theorem c_O_owes_0 {l : Launch} {f : Nat} {l1 l2 : Int} {M : oM} {K : Int × oM → Prop} (H : okp (p_O_owes f l1 l2 M) K) : oKf l m_O_owes 5 [vr 0, vi l1, vi l2] M K := by
  refine oK_intro (lv := [vr 0, vi l1, vi l2]) (by decide +kernel) (Nat.le_of_ble_eq_true rfl) rfl ?_
  refine oj_ald0 (pc := 0) (by decide +kernel) ?_
  refine oj_getR' (pc := 1) f_O_19 s_0_1 (by decide +kernel) ?_
  refine oj_ld1 (pc := 4) (by decide +kernel) ?_
  refine oj_ld2 (pc := 5) (by decide +kernel) ?_
  refine of_Vi (pc := 6) (as := [_, _]) v_O_106 o_3 rfl rfl (Nat.le_of_ble_eq_true rfl) (by decide +kernel) (by decide) rfl (c_P_hasBoth_0 (okp_bind H)) (fun r M H => ?_)
  refine oj_if_eq (pc := 9) (off := 15) (tgt := 24) (by decide +kernel) (by decide) H (fun _ H => ?_) (fun _ H => ?_)
  · refine oj_iconst (pc := 24) (v := -1) ⟨by decide, by decide⟩ (by decide +kernel) ?_
    exact oj_iret (pc := 25) (by decide +kernel) rfl rfl (Nat.le_refl _) (Nat.le_refl _) ⟨rfl, H⟩
  · refine oj_ald0 (pc := 12) (by decide +kernel) ?_
    refine oj_getR' (pc := 13) f_O_26 s_0_2 (by decide +kernel) ?_
    refine oj_ld1 (pc := 16) (by decide +kernel) ?_
    refine oj_ld2 (pc := 17) (by decide +kernel) ?_
    refine of_Vi (pc := 18) (as := [_, _]) v_O_199 o_6 rfl rfl (Nat.le_of_ble_eq_true rfl) (by decide +kernel) (by decide) rfl (c_D_debtOf_0 (okp_bind H)) (fun r M H => ?_)
    refine oj_goto (pc := 21) (off := 4) (tgt := 25) (by decide +kernel) (by decide) ?_
    exact oj_iret (pc := 25) (by decide +kernel) rfl rfl (Nat.le_refl _) (Nat.le_refl _) ⟨rfl, H⟩
theorem c_O_likes_0 {l : Launch} {f : Nat} {l1 l2 : Int} {M : oM} {K : Int × oM → Prop} (H : okp (p_O_likes f l1 l2 M) K) : oKf l m_O_likes 6 [vr 0, vi l1, vi l2] M K := by
  refine oK_intro (lv := [vr 0, vi l1, vi l2]) (by decide +kernel) (Nat.le_of_ble_eq_true rfl) rfl ?_
  refine oj_ald0 (pc := 0) (by decide +kernel) ?_
  refine oj_getR' (pc := 1) f_O_19 s_0_1 (by decide +kernel) ?_
  refine oj_ld1 (pc := 4) (by decide +kernel) ?_
  refine oj_ld2 (pc := 5) (by decide +kernel) ?_
  refine of_Vi (pc := 6) (as := [_, _]) v_O_106 o_3 rfl rfl (Nat.le_of_ble_eq_true rfl) (by decide +kernel) (by decide) rfl (c_P_hasBoth_0 (okp_bind H)) (fun r M H => ?_)
  refine oj_if_eq (pc := 9) (off := 19) (tgt := 28) (by decide +kernel) (by decide) H (fun _ H => ?_) (fun _ H => ?_)
  · refine oj_iconst (pc := 28) (v := -1) ⟨by decide, by decide⟩ (by decide +kernel) ?_
    exact oj_iret (pc := 29) (by decide +kernel) rfl rfl (Nat.le_refl _) (Nat.le_refl _) ⟨rfl, H⟩
  · refine oj_ald0 (pc := 12) (by decide +kernel) ?_
    refine oj_getR' (pc := 13) f_O_41 s_0_5 (by decide +kernel) ?_
    refine oj_ald0 (pc := 16) (by decide +kernel) ?_
    refine oj_getR' (pc := 17) f_O_26 s_0_2 (by decide +kernel) ?_
    refine oj_ld1 (pc := 20) (by decide +kernel) ?_
    refine oj_ld2 (pc := 21) (by decide +kernel) ?_
    refine of_Vi (pc := 22) (as := [_, _, _]) v_O_203 o_18 rfl rfl (Nat.le_of_ble_eq_true rfl) (by decide +kernel) (by decide) rfl (c_L_liking_0 (okp_bind H)) (fun r M H => ?_)
    refine oj_goto (pc := 25) (off := 4) (tgt := 29) (by decide +kernel) (by decide) ?_
    exact oj_iret (pc := 29) (by decide +kernel) rfl rfl (Nat.le_refl _) (Nat.le_refl _) ⟨rfl, H⟩
theorem c_RR_repeat_0 {l : Launch} {f : Nat} {l1 l2 : Int} {M : oM} {K : Int × oM → Prop} (H : okp (p_RR_repeat f l1 l2 M) K) : oKf l m_RR_repeat 2 [vr 39, vi l1, vi l2] M K := by
  refine oK_intro (lv := [vr 39, vi l1, vi l2, vu, vu, vu]) (by decide +kernel) (Nat.le_of_ble_eq_true rfl) rfl ?_
  have h33 : ∀ (g : Nat) (l3 l4 l5 : Int) (M : oM), okp (iter (p_RR_repeat_L33 f l3 l4) g (l5, M)) K → oJ l m_RR_repeat (oEf 2 K) 0 0 33 [vr 39, vu, vu, vi l3, vi l4, vi l5] [] WD M := by
    intro g l3 l4 l5 M H
    have HL := fun hs => iter_J' (Jh := fun s => oJ l m_RR_repeat (oEf 2 K) 0 0 33 [vr 39, vu, vu, vi l3, vi l4, vi s.1] [] WD s.2) (G := K) hs g (l5, M) H
    refine HL ?_
    intro K33 s i33 e33 H
    obtain ⟨l5, M⟩ := s
    show oJ l m_RR_repeat (oEf 2 K) 0 0 33 [vr 39, vu, vu, vi l3, vi l4, vi l5] [] WD M
    refine oj_ld5 (pc := 33) (by decide +kernel) ?_
    refine oj_ld4 (pc := 35) (by decide +kernel) ?_
    refine oj_icmp_ge (pc := 37) (off := 25) (tgt := 62) (by decide +kernel) (by decide) H (fun _ H => ?_) (fun _ H => ?_)
    · refine oj_ald0 (pc := 62) (by decide +kernel) ?_
      refine oj_ld4 (pc := 63) (by decide +kernel) ?_
      refine oj_putI' (pc := 65) (ki := 2) f_RR_19 s_39_2 rfl (by decide +kernel) ?_
      have H := okp_lt H
      refine oj_iconst (pc := 68) (v := 1) ⟨by decide, by decide⟩ (by decide +kernel) ?_
      have H := e33 _ H
      exact oj_iret (pc := 69) (by decide +kernel) rfl rfl (Nat.le_refl _) (Nat.le_refl _) ⟨rfl, H⟩
    · refine oj_ald0 (pc := 40) (by decide +kernel) ?_
      refine oj_getR' (pc := 41) f_RR_9 s_39_1 (by decide +kernel) ?_
      refine oj_ld5 (pc := 44) (by decide +kernel) ?_
      refine oj_ald0 (pc := 46) (by decide +kernel) ?_
      refine oj_getR' (pc := 47) f_RR_9 s_39_1 (by decide +kernel) ?_
      refine oj_ld5 (pc := 50) (by decide +kernel) ?_
      refine oj_ld3 (pc := 52) (by decide +kernel) ?_
      refine oj_isub (pc := 53) (by decide +kernel) ?_
      refine oj_iald (pc := 54) (NN := 60) a_40 rfl (by decide +kernel) H (fun H => ?_)
      refine oj_iast (pc := 55) (NN := 60) a_40 rfl (by decide +kernel) H (fun H => ?_)
      have H := okp_lt H
      refine oj_inc5 (pc := 56) (d := 1) (by decide +kernel) (by decide +kernel) ?_
      have H := okp_lt H
      refine oj_goto (pc := 59) (off := -26) (tgt := 33) (by decide +kernel) (by decide) ?_
      have H := i33 _ H
      exact H
  refine oj_ald0 (pc := 0) (by decide +kernel) ?_
  refine oj_getI' (pc := 1) (ki := 2) f_RR_19 s_39_2 rfl (by decide +kernel) ?_
  refine oj_ld1 (pc := 4) (by decide +kernel) ?_
  refine oj_isub (pc := 5) (by decide +kernel) ?_
  refine oj_st3 (pc := 6) (by decide +kernel) (by decide +kernel) ?_
  have H := okp_lt H
  refine oj_ld1 (pc := 7) (by decide +kernel) ?_
  refine oj_ld3 (pc := 8) (by decide +kernel) ?_
  refine oj_ld2 (pc := 9) (by decide +kernel) ?_
  refine oj_imul (pc := 10) (by decide +kernel) ?_
  refine oj_iadd (pc := 11) (by decide +kernel) ?_
  refine oj_st4 (pc := 12) (by decide +kernel) (by decide +kernel) ?_
  have H := okp_lt H
  refine oj_ld4 (pc := 14) (by decide +kernel) ?_
  refine oj_bipush (pc := 16) (v := 60) ⟨by decide, by decide⟩ (by decide +kernel) ?_
  refine oj_icmp_gt (pc := 18) (off := 7) (tgt := 25) (by decide +kernel) (by decide) H (fun _ H => ?_) (fun _ H => ?_)
  · refine oj_iconst (pc := 25) (v := 0) ⟨by decide, by decide⟩ (by decide +kernel) ?_
    exact oj_iret (pc := 26) (by decide +kernel) rfl rfl (Nat.le_refl _) (Nat.le_refl _) ⟨rfl, H⟩
  · refine oj_ld3 (pc := 21) (by decide +kernel) ?_
    refine oj_if_ge (pc := 22) (off := 5) (tgt := 27) (by decide +kernel) (by decide) H (fun _ H => ?_) (fun _ H => ?_)
    · refine oj_ald0 (pc := 27) (by decide +kernel) ?_
      refine oj_getI' (pc := 28) (ki := 2) f_RR_19 s_39_2 rfl (by decide +kernel) ?_
      refine oj_st5 (pc := 31) (by decide +kernel) (by decide +kernel) ?_
      have H := okp_lt H
      refine oj_le (lv' := [_, vu, vu, _, _, _]) ⟨Or.inr rfl, Or.inl rfl, Or.inl rfl, Or.inr rfl, Or.inr rfl, Or.inr rfl, trivial⟩ ?_
      exact h33 _ _ _ _ _ H
    · refine oj_iconst (pc := 25) (v := 0) ⟨by decide, by decide⟩ (by decide +kernel) ?_
      exact oj_iret (pc := 26) (by decide +kernel) rfl rfl (Nat.le_refl _) (Nat.le_refl _) ⟨rfl, H⟩
theorem c_RR_readPaying_0 {l : Launch} {f d0 : Nat} {rec : Int → oM → Option (Int × oM)} {l1 : Int} {M : oM} {K : Int × oM → Prop} (hrec : ∀ (a1 : Int) (M : oM) (K : Int × oM → Prop), okp (rec a1 M) K → oKf l m_RR_readPayings d0 [vr 39, vi a1] M K) (hb : 3 ≤ d0) (H : okp (p_RR_readPaying_F f rec l1 M) K) : oKf l m_RR_readPaying (d0 + 1) [vr 39, vi l1] M K := by
  refine oK_intro (lv := [vr 39, vi l1, vu, vu, vu, vu]) (by decide +kernel) (Nat.le_of_ble_eq_true rfl) rfl ?_
  have h177 : ∀ (l2 l3 l4 : Int) (M : oM), okp (p_RR_readPaying_B177 f rec l2 l3 l4 M) K → oJ l m_RR_readPaying (oEf (d0 + 1) K) 0 0 177 [vr 39, vu, vi l2, vi l3, vi l4, vu] [] WD M := by
    intro l2 l3 l4 M H
    refine oj_ald0 (pc := 177) (by decide +kernel) ?_
    refine oj_getR' (pc := 178) f_RR_15 s_39_0 (by decide +kernel) ?_
    refine of_Vv (pc := 181) (as := []) v_RR_46 o_1 rfl rfl (Nat.le_of_ble_eq_true rfl) (by decide +kernel) (by omega) rfl (c_T_step_0 (okp_bind H)) (fun M H => ?_)
    refine oj_ald0 (pc := 184) (by decide +kernel) ?_
    refine oj_ld3 (pc := 185) (by decide +kernel) ?_
    refine oj_ld4 (pc := 186) (by decide +kernel) ?_
    refine of_Vi (pc := 188) (as := [_, _]) v_RR_56 o_39 rfl rfl (Nat.le_of_ble_eq_true rfl) (by decide +kernel) (by omega) rfl (c_RR_repeat_0 (okp_bind H)) (fun r M H => ?_)
    refine oj_if_eq (pc := 191) (off := 7) (tgt := 198) (by decide +kernel) (by decide) H (fun _ H => ?_) (fun _ H => ?_)
    · refine oj_ald0 (pc := 198) (by decide +kernel) ?_
      refine oj_getR' (pc := 199) f_RR_15 s_39_0 (by decide +kernel) ?_
      refine oj_bipush (pc := 202) (v := 6) ⟨by decide, by decide⟩ (by decide +kernel) ?_
      refine oj_ld2 (pc := 204) (by decide +kernel) ?_
      refine of_Vi (pc := 205) (as := [_, _]) v_RR_52 o_1 rfl rfl (Nat.le_of_ble_eq_true rfl) (by decide +kernel) (by omega) rfl (c_T_faultAt_0 (okp_bind H)) (fun r M H => ?_)
      exact oj_iret (pc := 208) (by decide +kernel) rfl rfl (Nat.le_refl _) (Nat.le_refl _) ⟨rfl, H⟩
    · refine oj_iconst (pc := 194) (v := 0) ⟨by decide, by decide⟩ (by decide +kernel) ?_
      refine oj_goto (pc := 195) (off := 13) (tgt := 208) (by decide +kernel) (by decide) ?_
      exact oj_iret (pc := 208) (by decide +kernel) rfl rfl (Nat.le_refl _) (Nat.le_refl _) ⟨rfl, H⟩
  have h59 : ∀ (l1 l2 l3 l4 : Int) (M : oM), okp (p_RR_readPaying_B59 f rec l1 l2 l3 l4 M) K → oJ l m_RR_readPaying (oEf (d0 + 1) K) 0 0 59 [vr 39, vi l1, vi l2, vi l3, vi l4, vu] [] WD M := by
    intro l1 l2 l3 l4 M H
    refine oj_ald0 (pc := 59) (by decide +kernel) ?_
    refine oj_getR' (pc := 60) f_RR_15 s_39_0 (by decide +kernel) ?_
    refine of_Vi (pc := 63) (as := []) v_RR_36 o_1 rfl rfl (Nat.le_of_ble_eq_true rfl) (by decide +kernel) (by omega) rfl (c_T_next_0 (okp_bind H)) (fun r M H => ?_)
    refine oj_bipush (pc := 66) (v := 40) ⟨by decide, by decide⟩ (by decide +kernel) ?_
    refine oj_icmp_ne (pc := 68) (off := 44) (tgt := 112) (by decide +kernel) (by decide) H (fun _ H => ?_) (fun _ H => ?_)
    · refine oj_ald0 (pc := 112) (by decide +kernel) ?_
      refine oj_getR' (pc := 113) f_RR_15 s_39_0 (by decide +kernel) ?_
      refine of_Vi (pc := 116) (as := []) v_RR_49 o_1 rfl rfl (Nat.le_of_ble_eq_true rfl) (by decide +kernel) (by omega) rfl (c_T_nextOne_0 (okp_bind H)) (fun r M H => ?_)
      refine oj_if_ge (pc := 119) (off := 12) (tgt := 131) (by decide +kernel) (by decide) H (fun _ H => ?_) (fun _ H => ?_)
      · refine oj_ald0 (pc := 131) (by decide +kernel) ?_
        refine oj_getI' (pc := 132) (ki := 2) f_RR_19 s_39_2 rfl (by decide +kernel) ?_
        refine oj_bipush (pc := 135) (v := 60) ⟨by decide, by decide⟩ (by decide +kernel) ?_
        refine oj_icmp_lt (pc := 137) (off := 14) (tgt := 151) (by decide +kernel) (by decide) H (fun _ H => ?_) (fun _ H => ?_)
        · refine oj_ald0 (pc := 151) (by decide +kernel) ?_
          refine oj_getR' (pc := 152) f_RR_9 s_39_1 (by decide +kernel) ?_
          refine oj_ald0 (pc := 155) (by decide +kernel) ?_
          refine oj_getI' (pc := 156) (ki := 2) f_RR_19 s_39_2 rfl (by decide +kernel) ?_
          refine oj_ald0 (pc := 159) (by decide +kernel) ?_
          refine oj_getR' (pc := 160) f_RR_15 s_39_0 (by decide +kernel) ?_
          refine of_Vi (pc := 163) (as := []) v_RR_49 o_1 rfl rfl (Nat.le_of_ble_eq_true rfl) (by decide +kernel) (by omega) rfl (c_T_nextOne_0 (okp_bind H)) (fun r M H => ?_)
          refine oj_iast (pc := 166) (NN := 60) a_40 rfl (by decide +kernel) H (fun H => ?_)
          have H := okp_lt H
          refine oj_ald0 (pc := 167) (by decide +kernel) ?_
          refine oj_dup (pc := 168) (by decide +kernel) ?_
          refine oj_getI' (pc := 169) (ki := 2) f_RR_19 s_39_2 rfl (by decide +kernel) ?_
          refine oj_iconst (pc := 172) (v := 1) ⟨by decide, by decide⟩ (by decide +kernel) ?_
          refine oj_iadd (pc := 173) (by decide +kernel) ?_
          refine oj_putI' (pc := 174) (ki := 2) f_RR_19 s_39_2 rfl (by decide +kernel) ?_
          have H := okp_lt H
          refine oj_le (lv' := [_, vu, _, _, _, vu]) ⟨Or.inr rfl, Or.inl rfl, Or.inr rfl, Or.inr rfl, Or.inr rfl, Or.inr rfl, trivial⟩ ?_
          exact h177 _ _ _ _ H
        · refine oj_ald0 (pc := 140) (by decide +kernel) ?_
          refine oj_getR' (pc := 141) f_RR_15 s_39_0 (by decide +kernel) ?_
          refine oj_bipush (pc := 144) (v := 6) ⟨by decide, by decide⟩ (by decide +kernel) ?_
          refine oj_ld2 (pc := 146) (by decide +kernel) ?_
          refine of_Vi (pc := 147) (as := [_, _]) v_RR_52 o_1 rfl rfl (Nat.le_of_ble_eq_true rfl) (by decide +kernel) (by omega) rfl (c_T_faultAt_0 (okp_bind H)) (fun r M H => ?_)
          exact oj_iret (pc := 150) (by decide +kernel) rfl rfl (Nat.le_refl _) (Nat.le_refl _) ⟨rfl, H⟩
      · refine oj_ald0 (pc := 122) (by decide +kernel) ?_
        refine oj_getR' (pc := 123) f_RR_15 s_39_0 (by decide +kernel) ?_
        refine oj_iconst (pc := 126) (v := 1) ⟨by decide, by decide⟩ (by decide +kernel) ?_
        refine of_Vi (pc := 127) (as := [_]) v_RR_40 o_1 rfl rfl (Nat.le_of_ble_eq_true rfl) (by decide +kernel) (by omega) rfl (c_T_fault_0 (okp_bind H)) (fun r M H => ?_)
        exact oj_iret (pc := 130) (by decide +kernel) rfl rfl (Nat.le_refl _) (Nat.le_refl _) ⟨rfl, H⟩
    · refine oj_ld1 (pc := 71) (by decide +kernel) ?_
      refine oj_iconst (pc := 72) (v := 2) ⟨by decide, by decide⟩ (by decide +kernel) ?_
      refine oj_icmp_lt (pc := 73) (off := 12) (tgt := 85) (by decide +kernel) (by decide) H (fun _ H => ?_) (fun _ H => ?_)
      · refine oj_ald0 (pc := 85) (by decide +kernel) ?_
        refine oj_getR' (pc := 86) f_RR_15 s_39_0 (by decide +kernel) ?_
        refine of_Vv (pc := 89) (as := []) v_RR_46 o_1 rfl rfl (Nat.le_of_ble_eq_true rfl) (by decide +kernel) (by omega) rfl (c_T_step_0 (okp_bind H)) (fun M H => ?_)
        refine oj_ald0 (pc := 92) (by decide +kernel) ?_
        refine oj_ld1 (pc := 93) (by decide +kernel) ?_
        refine oj_iconst (pc := 94) (v := 1) ⟨by decide, by decide⟩ (by decide +kernel) ?_
        refine oj_iadd (pc := 95) (by decide +kernel) ?_
        refine of_Vi (pc := 96) (as := [_]) v_RR_23 o_39 rfl rfl (Nat.le_of_ble_eq_true rfl) (by decide +kernel) (by omega) rfl (hrec _ _ _ (okp_bind H)) (fun r M H => ?_)
        refine oj_st5 (pc := 99) (by decide +kernel) (by decide +kernel) ?_
        refine oj_ld5 (pc := 101) (by decide +kernel) ?_
        refine oj_if_eq (pc := 103) (off := 6) (tgt := 109) (by decide +kernel) (by decide) H (fun _ H => ?_) (fun _ H => ?_)
        · refine oj_goto (pc := 109) (off := 68) (tgt := 177) (by decide +kernel) (by decide) ?_
          refine oj_le (lv' := [_, vu, _, _, _, vu]) ⟨Or.inr rfl, Or.inl rfl, Or.inr rfl, Or.inr rfl, Or.inr rfl, Or.inl rfl, trivial⟩ ?_
          exact h177 _ _ _ _ H
        · refine oj_ld5 (pc := 106) (by decide +kernel) ?_
          exact oj_iret (pc := 108) (by decide +kernel) rfl rfl (Nat.le_refl _) (Nat.le_refl _) ⟨rfl, H⟩
      · refine oj_ald0 (pc := 76) (by decide +kernel) ?_
        refine oj_getR' (pc := 77) f_RR_15 s_39_0 (by decide +kernel) ?_
        refine oj_iconst (pc := 80) (v := 5) ⟨by decide, by decide⟩ (by decide +kernel) ?_
        refine of_Vi (pc := 81) (as := [_]) v_RR_40 o_1 rfl rfl (Nat.le_of_ble_eq_true rfl) (by decide +kernel) (by omega) rfl (c_T_fault_0 (okp_bind H)) (fun r M H => ?_)
        exact oj_iret (pc := 84) (by decide +kernel) rfl rfl (Nat.le_refl _) (Nat.le_refl _) ⟨rfl, H⟩
  refine oj_ald0 (pc := 0) (by decide +kernel) ?_
  refine oj_getR' (pc := 1) f_RR_15 s_39_0 (by decide +kernel) ?_
  refine of_Vi (pc := 4) (as := []) v_RR_43 o_1 rfl rfl (Nat.le_of_ble_eq_true rfl) (by decide +kernel) (by omega) rfl (c_T_place_0 (okp_bind H)) (fun r M H => ?_)
  refine oj_st2 (pc := 7) (by decide +kernel) (by decide +kernel) ?_
  refine oj_ald0 (pc := 8) (by decide +kernel) ?_
  refine oj_getI' (pc := 9) (ki := 2) f_RR_19 s_39_2 rfl (by decide +kernel) ?_
  refine oj_st3 (pc := 12) (by decide +kernel) (by decide +kernel) ?_
  have H := okp_lt H
  refine oj_iconst (pc := 13) (v := 1) ⟨by decide, by decide⟩ (by decide +kernel) ?_
  refine oj_st4 (pc := 14) (by decide +kernel) (by decide +kernel) ?_
  refine oj_ald0 (pc := 16) (by decide +kernel) ?_
  refine oj_getR' (pc := 17) f_RR_15 s_39_0 (by decide +kernel) ?_
  refine of_Vi (pc := 20) (as := []) v_RR_36 o_1 rfl rfl (Nat.le_of_ble_eq_true rfl) (by decide +kernel) (by omega) rfl (c_T_next_0 (okp_bind H)) (fun r M H => ?_)
  refine oj_bipush (pc := 23) (v := 50) ⟨by decide, by decide⟩ (by decide +kernel) ?_
  refine oj_icmp_lt (pc := 25) (off := 34) (tgt := 59) (by decide +kernel) (by decide) H (fun _ H => ?_) (fun _ H => ?_)
  · exact h59 _ _ _ _ _ H
  · refine oj_ald0 (pc := 28) (by decide +kernel) ?_
    refine oj_getR' (pc := 29) f_RR_15 s_39_0 (by decide +kernel) ?_
    refine of_Vi (pc := 32) (as := []) v_RR_36 o_1 rfl rfl (Nat.le_of_ble_eq_true rfl) (by decide +kernel) (by omega) rfl (c_T_next_0 (okp_bind H)) (fun r M H => ?_)
    refine oj_bipush (pc := 35) (v := 57) ⟨by decide, by decide⟩ (by decide +kernel) ?_
    refine oj_icmp_gt (pc := 37) (off := 22) (tgt := 59) (by decide +kernel) (by decide) H (fun _ H => ?_) (fun _ H => ?_)
    · exact h59 _ _ _ _ _ H
    · refine oj_ald0 (pc := 40) (by decide +kernel) ?_
      refine oj_getR' (pc := 41) f_RR_15 s_39_0 (by decide +kernel) ?_
      refine of_Vi (pc := 44) (as := []) v_RR_36 o_1 rfl rfl (Nat.le_of_ble_eq_true rfl) (by decide +kernel) (by omega) rfl (c_T_next_0 (okp_bind H)) (fun r M H => ?_)
      refine oj_bipush (pc := 47) (v := 48) ⟨by decide, by decide⟩ (by decide +kernel) ?_
      refine oj_isub (pc := 49) (by decide +kernel) ?_
      refine oj_st4 (pc := 50) (by decide +kernel) (by decide +kernel) ?_
      have H := okp_lt H
      refine oj_ald0 (pc := 52) (by decide +kernel) ?_
      refine oj_getR' (pc := 53) f_RR_15 s_39_0 (by decide +kernel) ?_
      refine of_Vv (pc := 56) (as := []) v_RR_46 o_1 rfl rfl (Nat.le_of_ble_eq_true rfl) (by decide +kernel) (by omega) rfl (c_T_step_0 (okp_bind H)) (fun M H => ?_)
      exact h59 _ _ _ _ _ H
theorem c_RR_readPayings_F_0 {l : Launch} {f d0 : Nat} {rec : Int → oM → Option (Int × oM)} {l1 : Int} {M : oM} {K : Int × oM → Prop} (hrec : ∀ (a1 : Int) (M : oM) (K : Int × oM → Prop), okp (rec a1 M) K → oKf l m_RR_readPayings d0 [vr 39, vi a1] M K) (hb : 3 ≤ d0) (H : okp (p_RR_readPayings_F f rec l1 M) K) : oKf l m_RR_readPayings (d0 + 2) [vr 39, vi l1] M K := by
  refine oK_intro (lv := [vr 39, vi l1, vu, vu]) (by decide +kernel) (Nat.le_of_ble_eq_true rfl) rfl ?_
  have h2 : ∀ (g : Nat) (l1 l2 : Int) (M : oM), okp (iter (p_RR_readPayings_L2 f rec l1) g (l2, M)) K → oJ l m_RR_readPayings (oEf (d0 + 2) K) 0 0 2 [vr 39, vi l1, vi l2, vu] [] WD M := by
    intro g l1 l2 M H
    have HL := fun hs => iter_J' (Jh := fun s => oJ l m_RR_readPayings (oEf (d0 + 2) K) 0 0 2 [vr 39, vi l1, vi s.1, vu] [] WD s.2) (G := K) hs g (l2, M) H
    refine HL ?_
    intro K2 s i2 e2 H
    obtain ⟨l2, M⟩ := s
    show oJ l m_RR_readPayings (oEf (d0 + 2) K) 0 0 2 [vr 39, vi l1, vi l2, vu] [] WD M
    have h51 : ∀ (l2 : Int) (M : oM), okp (p_RR_readPayings_B51_2 f rec l1 l2 M) K2 → oJ l m_RR_readPayings (oEf (d0 + 2) K) 0 0 51 [vr 39, vi l1, vi l2, vu] [] WD M := by
      intro l2 M H
      refine oj_inc2 (pc := 51) (d := 1) (by decide +kernel) (by decide +kernel) ?_
      have H := okp_lt H
      refine oj_goto (pc := 54) (off := -52) (tgt := 2) (by decide +kernel) (by decide) ?_
      have H := i2 _ H
      exact H
    refine oj_ld2 (pc := 2) (by decide +kernel) ?_
    refine oj_bipush (pc := 3) (v := 60) ⟨by decide, by decide⟩ (by decide +kernel) ?_
    refine oj_icmp_ge (pc := 5) (off := 52) (tgt := 57) (by decide +kernel) (by decide) H (fun _ H => ?_) (fun _ H => ?_)
    · refine oj_ald0 (pc := 57) (by decide +kernel) ?_
      refine oj_getR' (pc := 58) f_RR_15 s_39_0 (by decide +kernel) ?_
      refine oj_iconst (pc := 61) (v := 1) ⟨by decide, by decide⟩ (by decide +kernel) ?_
      refine of_Vi (pc := 62) (as := [_]) v_RR_40 o_1 rfl rfl (Nat.le_of_ble_eq_true rfl) (by decide +kernel) (by omega) rfl (c_T_fault_0 (okp_bind H)) (fun r M H => ?_)
      have H := e2 _ H
      exact oj_iret (pc := 65) (by decide +kernel) rfl rfl (Nat.le_refl _) (Nat.le_refl _) ⟨rfl, H⟩
    · refine oj_ald0 (pc := 8) (by decide +kernel) ?_
      refine oj_ld1 (pc := 9) (by decide +kernel) ?_
      refine of_Vi (pc := 10) (as := [_]) v_RR_27 o_39 rfl rfl (Nat.le_of_ble_eq_true rfl) (by decide +kernel) (by omega) rfl (c_RR_readPaying_0 hrec hb (okp_bind H)) (fun r M H => ?_)
      refine oj_st3 (pc := 13) (by decide +kernel) (by decide +kernel) ?_
      refine oj_ld3 (pc := 14) (by decide +kernel) ?_
      refine oj_if_eq (pc := 15) (off := 5) (tgt := 20) (by decide +kernel) (by decide) H (fun _ H => ?_) (fun _ H => ?_)
      · refine oj_ld1 (pc := 20) (by decide +kernel) ?_
        refine oj_if_ne (pc := 21) (off := 16) (tgt := 37) (by decide +kernel) (by decide) H (fun _ H => ?_) (fun _ H => ?_)
        · refine oj_ald0 (pc := 37) (by decide +kernel) ?_
          refine oj_getR' (pc := 38) f_RR_15 s_39_0 (by decide +kernel) ?_
          refine of_Vi (pc := 41) (as := []) v_RR_36 o_1 rfl rfl (Nat.le_of_ble_eq_true rfl) (by decide +kernel) (by omega) rfl (c_T_next_0 (okp_bind H)) (fun r M H => ?_)
          refine oj_bipush (pc := 44) (v := 41) ⟨by decide, by decide⟩ (by decide +kernel) ?_
          refine oj_icmp_ne (pc := 46) (off := 5) (tgt := 51) (by decide +kernel) (by decide) H (fun _ H => ?_) (fun _ H => ?_)
          · refine oj_le (lv' := [_, _, _, vu]) ⟨Or.inr rfl, Or.inr rfl, Or.inr rfl, Or.inl rfl, trivial⟩ ?_
            exact h51 _ _ H
          · refine oj_iconst (pc := 49) (v := 0) ⟨by decide, by decide⟩ (by decide +kernel) ?_
            have H := e2 _ H
            exact oj_iret (pc := 50) (by decide +kernel) rfl rfl (Nat.le_refl _) (Nat.le_refl _) ⟨rfl, H⟩
        · refine oj_ald0 (pc := 24) (by decide +kernel) ?_
          refine oj_getR' (pc := 25) f_RR_15 s_39_0 (by decide +kernel) ?_
          refine of_Vi (pc := 28) (as := []) v_RR_30 o_1 rfl rfl (Nat.le_of_ble_eq_true rfl) (by decide +kernel) (by omega) rfl (c_T_ended_0 (okp_bind H)) (fun r M H => ?_)
          refine oj_if_eq (pc := 31) (off := 20) (tgt := 51) (by decide +kernel) (by decide) H (fun _ H => ?_) (fun _ H => ?_)
          · refine oj_le (lv' := [_, _, _, vu]) ⟨Or.inr rfl, Or.inr rfl, Or.inr rfl, Or.inl rfl, trivial⟩ ?_
            exact h51 _ _ H
          · refine oj_goto (pc := 34) (off := 15) (tgt := 49) (by decide +kernel) (by decide) ?_
            refine oj_iconst (pc := 49) (v := 0) ⟨by decide, by decide⟩ (by decide +kernel) ?_
            have H := e2 _ H
            exact oj_iret (pc := 50) (by decide +kernel) rfl rfl (Nat.le_refl _) (Nat.le_refl _) ⟨rfl, H⟩
      · refine oj_ld3 (pc := 18) (by decide +kernel) ?_
        have H := e2 _ H
        exact oj_iret (pc := 19) (by decide +kernel) rfl rfl (Nat.le_refl _) (Nat.le_refl _) ⟨rfl, H⟩
  refine oj_iconst (pc := 0) (v := 0) ⟨by decide, by decide⟩ (by decide +kernel) ?_
  refine oj_st2 (pc := 1) (by decide +kernel) (by decide +kernel) ?_
  exact h2 _ _ _ _ H
theorem c_RR_readPayings_0 {l : Launch} {f : Nat} : ∀ (n : Nat) {l1 : Int} {M : oM} {K : Int × oM → Prop}, okp (p_RR_readPayings f n l1 M) K → oKf l m_RR_readPayings (3 + 2 * n) [vr 39, vi l1] M K := by
  intro n
  induction n with
  | zero => intro l1 M K H; exact (show False from H).elim
  | succ n ih =>
    intro l1 M K H
    rw [show 3 + 2 * (n + 1) = (3 + 2 * n) + 2 from by omega]
    exact c_RR_readPayings_F_0 (rec := p_RR_readPayings f n) (fun _ M K H => ih H) (by omega) H
theorem c_RR_read_0 {l : Launch} {f : Nat} {M : oM} {K : Int × oM → Prop} (H : okp (p_RR_read f M) K) : oKf l m_RR_read 14 [vr 39] M K := by
  refine oK_intro (lv := [vr 39]) (by decide +kernel) (Nat.le_of_ble_eq_true rfl) rfl ?_
  refine oj_ald0 (pc := 0) (by decide +kernel) ?_
  refine oj_iconst (pc := 1) (v := 0) ⟨by decide, by decide⟩ (by decide +kernel) ?_
  refine oj_putI' (pc := 2) (ki := 2) f_RR_19 s_39_2 rfl (by decide +kernel) ?_
  have H := okp_lt H
  refine oj_ald0 (pc := 5) (by decide +kernel) ?_
  refine oj_iconst (pc := 6) (v := 0) ⟨by decide, by decide⟩ (by decide +kernel) ?_
  refine of_Vi (pc := 7) (as := [_]) v_RR_23 o_39 rfl rfl (Nat.le_of_ble_eq_true rfl) (by decide +kernel) (by decide) rfl (c_RR_readPayings_0 5 (okp_bind H)) (fun r M H => ?_)
  exact oj_iret (pc := 10) (by decide +kernel) rfl rfl (Nat.le_refl _) (Nat.le_refl _) ⟨rfl, H⟩
theorem c_O_readRoute_0 {l : Launch} {f : Nat} {M : oM} {K : Int × oM → Prop} (H : okp (p_O_readRoute f M) K) : oKf l m_O_readRoute 15 [vr 0] M K := by
  refine oK_intro (lv := [vr 0, vu]) (by decide +kernel) (Nat.le_of_ble_eq_true rfl) rfl ?_
  refine oj_ald0 (pc := 0) (by decide +kernel) ?_
  refine oj_getR' (pc := 1) f_O_71 s_0_9 (by decide +kernel) ?_
  refine of_Vi (pc := 4) (as := []) v_O_329 o_39 rfl rfl (Nat.le_of_ble_eq_true rfl) (by decide +kernel) (by decide) rfl (c_RR_read_0 (okp_bind H)) (fun r M H => ?_)
  refine oj_st1 (pc := 7) (by decide +kernel) (by decide +kernel) ?_
  refine oj_ald0 (pc := 8) (by decide +kernel) ?_
  refine oj_getR' (pc := 9) f_O_12 s_0_0 (by decide +kernel) ?_
  refine of_Vv (pc := 12) (as := []) v_O_135 o_1 rfl rfl (Nat.le_of_ble_eq_true rfl) (by decide +kernel) (by decide) rfl (c_T_clear_0 (okp_bind H)) (fun M H => ?_)
  refine oj_ld1 (pc := 15) (by decide +kernel) ?_
  refine oj_if_eq (pc := 16) (off := 5) (tgt := 21) (by decide +kernel) (by decide) H (fun _ H => ?_) (fun _ H => ?_)
  · refine oj_ald0 (pc := 21) (by decide +kernel) ?_
    refine oj_getR' (pc := 22) f_O_26 s_0_2 (by decide +kernel) ?_
    refine oj_getI' (pc := 25) (ki := 4) f_O_168 s_6_4 rfl (by decide +kernel) ?_
    refine oj_if_ge (pc := 28) (off := 8) (tgt := 36) (by decide +kernel) (by decide) H (fun _ H => ?_) (fun _ H => ?_)
    · refine oj_iconst (pc := 36) (v := 0) ⟨by decide, by decide⟩ (by decide +kernel) ?_
      exact oj_iret (pc := 37) (by decide +kernel) rfl rfl (Nat.le_refl _) (Nat.le_refl _) ⟨rfl, H⟩
    · refine oj_bipush (pc := 31) (v := -2) ⟨by decide, by decide⟩ (by decide +kernel) ?_
      refine oj_goto (pc := 33) (off := 4) (tgt := 37) (by decide +kernel) (by decide) ?_
      exact oj_iret (pc := 37) (by decide +kernel) rfl rfl (Nat.le_refl _) (Nat.le_refl _) ⟨rfl, H⟩
  · refine oj_ld1 (pc := 19) (by decide +kernel) ?_
    exact oj_iret (pc := 20) (by decide +kernel) rfl rfl (Nat.le_refl _) (Nat.le_refl _) ⟨rfl, H⟩
theorem c_P_hoursOf_0 {l : Launch} {f : Nat} {l2 l3 : Int} {M : oM} {K : Int × oM → Prop} (H : okp (p_P_hoursOf f l2 l3 M) K) : oKf l m_P_hoursOf 4 [vr 3, vr 40, vi l2, vi l3] M K := by
  refine oK_intro (lv := [vr 3, vr 40, vi l2, vi l3, vu, vu, vu]) (by decide +kernel) (Nat.le_of_ble_eq_true rfl) rfl ?_
  have h9 : ∀ (g : Nat) (l2 l4 l5 l6 : Int) (M : oM), okp (iter (p_P_hoursOf_L9 f l2) g (l4, l5, l6, M)) K → oJ l m_P_hoursOf (oEf 4 K) 0 0 9 [vr 3, vr 40, vi l2, vu, vi l4, vi l5, vi l6] [] WD M := by
    intro g l2 l4 l5 l6 M H
    have HL := fun hs => iter_J' (Jh := fun s => oJ l m_P_hoursOf (oEf 4 K) 0 0 9 [vr 3, vr 40, vi l2, vu, vi s.1, vi s.2.1, vi s.2.2.1] [] WD s.2.2.2) (G := K) hs g (l4, l5, l6, M) H
    refine HL ?_
    intro K9 s i9 e9 H
    obtain ⟨l4, l5, l6, M⟩ := s
    show oJ l m_P_hoursOf (oEf 4 K) 0 0 9 [vr 3, vr 40, vi l2, vu, vi l4, vi l5, vi l6] [] WD M
    refine oj_ld6 (pc := 9) (by decide +kernel) ?_
    refine oj_ld2 (pc := 11) (by decide +kernel) ?_
    refine oj_icmp_ge (pc := 12) (off := 37) (tgt := 49) (by decide +kernel) (by decide) H (fun _ H => ?_) (fun _ H => ?_)
    · refine oj_ld4 (pc := 49) (by decide +kernel) ?_
      have H := e9 _ H
      exact oj_iret (pc := 51) (by decide +kernel) rfl rfl (Nat.le_refl _) (Nat.le_refl _) ⟨rfl, H⟩
    · refine oj_ld6 (pc := 15) (by decide +kernel) ?_
      refine oj_ald1 (pc := 17) (by decide +kernel) ?_
      refine oj_alen (pc := 18) (NN := 60) a_40 rfl (by decide) (by decide +kernel) ?_
      refine oj_icmp_ge (pc := 19) (off := 30) (tgt := 49) (by decide +kernel) (by decide) H (fun _ H => ?_) (fun _ H => ?_)
      · refine oj_ld4 (pc := 49) (by decide +kernel) ?_
        have H := e9 _ H
        exact oj_iret (pc := 51) (by decide +kernel) rfl rfl (Nat.le_refl _) (Nat.le_refl _) ⟨rfl, H⟩
      · refine oj_ld4 (pc := 22) (by decide +kernel) ?_
        refine oj_ald0 (pc := 24) (by decide +kernel) ?_
        refine oj_ld5 (pc := 25) (by decide +kernel) ?_
        refine oj_ald1 (pc := 27) (by decide +kernel) ?_
        refine oj_ld6 (pc := 28) (by decide +kernel) ?_
        refine oj_iald (pc := 30) (NN := 60) a_40 rfl (by decide +kernel) H (fun H => ?_)
        refine of_Vi (pc := 31) (as := [_, _]) v_P_39 o_3 rfl rfl (Nat.le_of_ble_eq_true rfl) (by decide +kernel) (by decide) rfl (c_P_way_0 (okp_bind H)) (fun r M H => ?_)
        refine oj_iadd (pc := 34) (by decide +kernel) ?_
        refine oj_st4 (pc := 35) (by decide +kernel) (by decide +kernel) ?_
        have H := okp_lt H
        refine oj_ald1 (pc := 37) (by decide +kernel) ?_
        refine oj_ld6 (pc := 38) (by decide +kernel) ?_
        refine oj_iald (pc := 40) (NN := 60) a_40 rfl (by decide +kernel) H (fun H => ?_)
        refine oj_st5 (pc := 41) (by decide +kernel) (by decide +kernel) ?_
        have H := okp_lt H
        refine oj_inc6 (pc := 43) (d := 1) (by decide +kernel) (by decide +kernel) ?_
        have H := okp_lt H
        refine oj_goto (pc := 46) (off := -37) (tgt := 9) (by decide +kernel) (by decide) ?_
        have H := i9 _ H
        exact H
  refine oj_iconst (pc := 0) (v := 0) ⟨by decide, by decide⟩ (by decide +kernel) ?_
  refine oj_st4 (pc := 1) (by decide +kernel) (by decide +kernel) ?_
  refine oj_ld3 (pc := 3) (by decide +kernel) ?_
  refine oj_st5 (pc := 4) (by decide +kernel) (by decide +kernel) ?_
  refine oj_iconst (pc := 6) (v := 0) ⟨by decide, by decide⟩ (by decide +kernel) ?_
  refine oj_st6 (pc := 7) (by decide +kernel) (by decide +kernel) ?_
  refine oj_le (lv' := [_, _, _, vu, _, _, _]) ⟨Or.inr rfl, Or.inr rfl, Or.inr rfl, Or.inl rfl, Or.inr rfl, Or.inr rfl, Or.inr rfl, trivial⟩ ?_
  exact h9 _ _ _ _ _ _ H
theorem c_RR_walkedBy_0 {l : Launch} {f : Nat} {M : oM} {K : Int × oM → Prop} (H : okp (p_RR_walkedBy f 14 M) K) : oKf l m_RR_walkedBy 5 [vr 39, vr 14] M K := by
  refine oK_intro (lv := [vr 39, vr 14, vu]) (by decide +kernel) (Nat.le_of_ble_eq_true rfl) rfl ?_
  have h2 : ∀ (g : Nat) (l2 : Int) (M : oM), okp (iter (p_RR_walkedBy_L2 f 14) g (l2, M)) K → oJ l m_RR_walkedBy (oEf 5 K) 0 0 2 [vr 39, vr 14, vi l2] [] WD M := by
    intro g l2 M H
    have HL := fun hs => iter_J' (Jh := fun s => oJ l m_RR_walkedBy (oEf 5 K) 0 0 2 [vr 39, vr 14, vi s.1] [] WD s.2) (G := K) hs g (l2, M) H
    refine HL ?_
    intro K2 s i2 e2 H
    obtain ⟨l2, M⟩ := s
    show oJ l m_RR_walkedBy (oEf 5 K) 0 0 2 [vr 39, vr 14, vi l2] [] WD M
    refine oj_ld2 (pc := 2) (by decide +kernel) ?_
    refine oj_ald0 (pc := 3) (by decide +kernel) ?_
    refine oj_getI' (pc := 4) (ki := 2) f_RR_19 s_39_2 rfl (by decide +kernel) ?_
    refine oj_icmp_ge (pc := 7) (off := 48) (tgt := 55) (by decide +kernel) (by decide) H (fun _ H => ?_) (fun _ H => ?_)
    · refine oj_ald0 (pc := 55) (by decide +kernel) ?_
      refine oj_getI' (pc := 56) (ki := 2) f_RR_19 s_39_2 rfl (by decide +kernel) ?_
      have H := e2 _ H
      exact oj_iret (pc := 59) (by decide +kernel) rfl rfl (Nat.le_refl _) (Nat.le_refl _) ⟨rfl, H⟩
    · refine oj_ld2 (pc := 10) (by decide +kernel) ?_
      refine oj_bipush (pc := 11) (v := 60) ⟨by decide, by decide⟩ (by decide +kernel) ?_
      refine oj_icmp_ge (pc := 13) (off := 42) (tgt := 55) (by decide +kernel) (by decide) H (fun _ H => ?_) (fun _ H => ?_)
      · refine oj_ald0 (pc := 55) (by decide +kernel) ?_
        refine oj_getI' (pc := 56) (ki := 2) f_RR_19 s_39_2 rfl (by decide +kernel) ?_
        have H := e2 _ H
        exact oj_iret (pc := 59) (by decide +kernel) rfl rfl (Nat.le_refl _) (Nat.le_refl _) ⟨rfl, H⟩
      · refine oj_ald1 (pc := 16) (by decide +kernel) ?_
        refine oj_ald1 (pc := 17) (by decide +kernel) ?_
        refine oj_getI' (pc := 18) (ki := 4) f_RR_60 s_14_4 rfl (by decide +kernel) ?_
        refine oj_ald0 (pc := 21) (by decide +kernel) ?_
        refine oj_getR' (pc := 22) f_RR_9 s_39_1 (by decide +kernel) ?_
        refine oj_ld2 (pc := 25) (by decide +kernel) ?_
        refine oj_iald (pc := 26) (NN := 60) a_40 rfl (by decide +kernel) H (fun H => ?_)
        refine of_Vi (pc := 27) (as := [_, _]) v_RR_65 o_14 rfl rfl (Nat.le_of_ble_eq_true rfl) (by decide +kernel) (by decide) rfl (c_D_debtOf_1 (okp_bind H)) (fun r M H => ?_)
        refine oj_if_ne (pc := 30) (off := 5) (tgt := 35) (by decide +kernel) (by decide) H (fun _ H => ?_) (fun _ H => ?_)
        · refine oj_ald1 (pc := 35) (by decide +kernel) ?_
          refine oj_ald1 (pc := 36) (by decide +kernel) ?_
          refine oj_getI' (pc := 37) (ki := 4) f_RR_60 s_14_4 rfl (by decide +kernel) ?_
          refine oj_ald0 (pc := 40) (by decide +kernel) ?_
          refine oj_getR' (pc := 41) f_RR_9 s_39_1 (by decide +kernel) ?_
          refine oj_ld2 (pc := 44) (by decide +kernel) ?_
          refine oj_iald (pc := 45) (NN := 60) a_40 rfl (by decide +kernel) H (fun H => ?_)
          refine of_Vv (pc := 46) (as := [_, _]) v_RR_68 o_14 rfl rfl (Nat.le_of_ble_eq_true rfl) (by decide +kernel) (by decide) rfl (c_D_pay_0 (okp_bind H)) (fun M H => ?_)
          refine oj_inc2 (pc := 49) (d := 1) (by decide +kernel) (by decide +kernel) ?_
          have H := okp_lt H
          refine oj_goto (pc := 52) (off := -50) (tgt := 2) (by decide +kernel) (by decide) ?_
          have H := i2 _ H
          exact H
        · refine oj_ld2 (pc := 33) (by decide +kernel) ?_
          have H := e2 _ H
          exact oj_iret (pc := 34) (by decide +kernel) rfl rfl (Nat.le_refl _) (Nat.le_refl _) ⟨rfl, H⟩
  refine oj_iconst (pc := 0) (v := 0) ⟨by decide, by decide⟩ (by decide +kernel) ?_
  refine oj_st2 (pc := 1) (by decide +kernel) (by decide +kernel) ?_
  exact h2 _ _ _ H
theorem c_RR_walkedBy_1 {l : Launch} {f : Nat} {M : oM} {K : Int × oM → Prop} (H : okp (p_RR_walkedBy f 6 M) K) : oKf l m_RR_walkedBy 5 [vr 39, vr 6] M K := by
  refine oK_intro (lv := [vr 39, vr 6, vu]) (by decide +kernel) (Nat.le_of_ble_eq_true rfl) rfl ?_
  have h2 : ∀ (g : Nat) (l2 : Int) (M : oM), okp (iter (p_RR_walkedBy_L2 f 6) g (l2, M)) K → oJ l m_RR_walkedBy (oEf 5 K) 0 0 2 [vr 39, vr 6, vi l2] [] WD M := by
    intro g l2 M H
    have HL := fun hs => iter_J' (Jh := fun s => oJ l m_RR_walkedBy (oEf 5 K) 0 0 2 [vr 39, vr 6, vi s.1] [] WD s.2) (G := K) hs g (l2, M) H
    refine HL ?_
    intro K2 s i2 e2 H
    obtain ⟨l2, M⟩ := s
    show oJ l m_RR_walkedBy (oEf 5 K) 0 0 2 [vr 39, vr 6, vi l2] [] WD M
    refine oj_ld2 (pc := 2) (by decide +kernel) ?_
    refine oj_ald0 (pc := 3) (by decide +kernel) ?_
    refine oj_getI' (pc := 4) (ki := 2) f_RR_19 s_39_2 rfl (by decide +kernel) ?_
    refine oj_icmp_ge (pc := 7) (off := 48) (tgt := 55) (by decide +kernel) (by decide) H (fun _ H => ?_) (fun _ H => ?_)
    · refine oj_ald0 (pc := 55) (by decide +kernel) ?_
      refine oj_getI' (pc := 56) (ki := 2) f_RR_19 s_39_2 rfl (by decide +kernel) ?_
      have H := e2 _ H
      exact oj_iret (pc := 59) (by decide +kernel) rfl rfl (Nat.le_refl _) (Nat.le_refl _) ⟨rfl, H⟩
    · refine oj_ld2 (pc := 10) (by decide +kernel) ?_
      refine oj_bipush (pc := 11) (v := 60) ⟨by decide, by decide⟩ (by decide +kernel) ?_
      refine oj_icmp_ge (pc := 13) (off := 42) (tgt := 55) (by decide +kernel) (by decide) H (fun _ H => ?_) (fun _ H => ?_)
      · refine oj_ald0 (pc := 55) (by decide +kernel) ?_
        refine oj_getI' (pc := 56) (ki := 2) f_RR_19 s_39_2 rfl (by decide +kernel) ?_
        have H := e2 _ H
        exact oj_iret (pc := 59) (by decide +kernel) rfl rfl (Nat.le_refl _) (Nat.le_refl _) ⟨rfl, H⟩
      · refine oj_ald1 (pc := 16) (by decide +kernel) ?_
        refine oj_ald1 (pc := 17) (by decide +kernel) ?_
        refine oj_getI' (pc := 18) (ki := 4) f_RR_60 s_6_4 rfl (by decide +kernel) ?_
        refine oj_ald0 (pc := 21) (by decide +kernel) ?_
        refine oj_getR' (pc := 22) f_RR_9 s_39_1 (by decide +kernel) ?_
        refine oj_ld2 (pc := 25) (by decide +kernel) ?_
        refine oj_iald (pc := 26) (NN := 60) a_40 rfl (by decide +kernel) H (fun H => ?_)
        refine of_Vi (pc := 27) (as := [_, _]) v_RR_65 o_6 rfl rfl (Nat.le_of_ble_eq_true rfl) (by decide +kernel) (by decide) rfl (c_D_debtOf_0 (okp_bind H)) (fun r M H => ?_)
        refine oj_if_ne (pc := 30) (off := 5) (tgt := 35) (by decide +kernel) (by decide) H (fun _ H => ?_) (fun _ H => ?_)
        · refine oj_ald1 (pc := 35) (by decide +kernel) ?_
          refine oj_ald1 (pc := 36) (by decide +kernel) ?_
          refine oj_getI' (pc := 37) (ki := 4) f_RR_60 s_6_4 rfl (by decide +kernel) ?_
          refine oj_ald0 (pc := 40) (by decide +kernel) ?_
          refine oj_getR' (pc := 41) f_RR_9 s_39_1 (by decide +kernel) ?_
          refine oj_ld2 (pc := 44) (by decide +kernel) ?_
          refine oj_iald (pc := 45) (NN := 60) a_40 rfl (by decide +kernel) H (fun H => ?_)
          refine of_Vv (pc := 46) (as := [_, _]) v_RR_68 o_6 rfl rfl (Nat.le_of_ble_eq_true rfl) (by decide +kernel) (by decide) rfl (c_D_pay_1 (okp_bind H)) (fun M H => ?_)
          refine oj_inc2 (pc := 49) (d := 1) (by decide +kernel) (by decide +kernel) ?_
          have H := okp_lt H
          refine oj_goto (pc := 52) (off := -50) (tgt := 2) (by decide +kernel) (by decide) ?_
          have H := i2 _ H
          exact H
        · refine oj_ld2 (pc := 33) (by decide +kernel) ?_
          have H := e2 _ H
          exact oj_iret (pc := 34) (by decide +kernel) rfl rfl (Nat.le_refl _) (Nat.le_refl _) ⟨rfl, H⟩
  refine oj_iconst (pc := 0) (v := 0) ⟨by decide, by decide⟩ (by decide +kernel) ?_
  refine oj_st2 (pc := 1) (by decide +kernel) (by decide +kernel) ?_
  exact h2 _ _ _ H
theorem c_O_route_0 {l : Launch} {f : Nat} {l1 l2 : Int} {M : oM} {K : Int × oM → Prop} (H : okp (p_O_route f l1 l2 M) K) : oKf l m_O_route 16 [vr 0, vi l1, vi l2] M K := by
  refine oK_intro (lv := [vr 0, vi l1, vi l2, vu, vu]) (by decide +kernel) (Nat.le_of_ble_eq_true rfl) rfl ?_
  refine oj_ld2 (pc := 0) (by decide +kernel) ?_
  refine oj_if_lt (pc := 1) (off := 22) (tgt := 23) (by decide +kernel) (by decide) H (fun _ H => ?_) (fun _ H => ?_)
  · refine oj_iconst (pc := 23) (v := -1) ⟨by decide, by decide⟩ (by decide +kernel) ?_
    exact oj_iret (pc := 24) (by decide +kernel) rfl rfl (Nat.le_refl _) (Nat.le_refl _) ⟨rfl, H⟩
  · refine oj_ld2 (pc := 4) (by decide +kernel) ?_
    refine oj_iconst (pc := 5) (v := 2) ⟨by decide, by decide⟩ (by decide +kernel) ?_
    refine oj_icmp_gt (pc := 6) (off := 17) (tgt := 23) (by decide +kernel) (by decide) H (fun _ H => ?_) (fun _ H => ?_)
    · refine oj_iconst (pc := 23) (v := -1) ⟨by decide, by decide⟩ (by decide +kernel) ?_
      exact oj_iret (pc := 24) (by decide +kernel) rfl rfl (Nat.le_refl _) (Nat.le_refl _) ⟨rfl, H⟩
    · refine oj_ald0 (pc := 9) (by decide +kernel) ?_
      refine oj_getR' (pc := 10) f_O_12 s_0_0 (by decide +kernel) ?_
      refine oj_ld1 (pc := 13) (by decide +kernel) ?_
      refine oj_iconst (pc := 14) (v := 1) ⟨by decide, by decide⟩ (by decide +kernel) ?_
      refine oj_bipush (pc := 15) (v := 60) ⟨by decide, by decide⟩ (by decide +kernel) ?_
      refine of_Vi (pc := 17) (as := [_, _, _]) v_O_128 o_1 rfl rfl (Nat.le_of_ble_eq_true rfl) (by decide +kernel) (by decide) rfl (c_T_opens_0 (okp_bind H)) (fun r M H => ?_)
      refine oj_if_ne (pc := 20) (off := 5) (tgt := 25) (by decide +kernel) (by decide) H (fun _ H => ?_) (fun _ H => ?_)
      · refine oj_ald0 (pc := 25) (by decide +kernel) ?_
        refine of_Vi (pc := 26) (as := []) v_O_207 o_0 rfl rfl (Nat.le_of_ble_eq_true rfl) (by decide +kernel) (by decide) rfl (c_O_readRoute_0 (okp_bind H)) (fun r M H => ?_)
        refine oj_st3 (pc := 29) (by decide +kernel) (by decide +kernel) ?_
        refine oj_ld3 (pc := 30) (by decide +kernel) ?_
        refine oj_if_eq (pc := 31) (off := 5) (tgt := 36) (by decide +kernel) (by decide) H (fun _ H => ?_) (fun _ H => ?_)
        · refine oj_ald0 (pc := 36) (by decide +kernel) ?_
          refine oj_getR' (pc := 37) f_O_33 s_0_4 (by decide +kernel) ?_
          refine oj_ald0 (pc := 40) (by decide +kernel) ?_
          refine oj_getR' (pc := 41) f_O_26 s_0_2 (by decide +kernel) ?_
          refine of_Vv (pc := 44) (as := [_]) v_O_165 o_14 rfl rfl (Nat.le_of_ble_eq_true rfl) (by decide +kernel) (by decide) rfl (c_D_takeFrom_0 (okp_bind H)) (fun M H => ?_)
          refine oj_ald0 (pc := 47) (by decide +kernel) ?_
          refine oj_getR' (pc := 48) f_O_71 s_0_9 (by decide +kernel) ?_
          refine oj_ald0 (pc := 51) (by decide +kernel) ?_
          refine oj_getR' (pc := 52) f_O_33 s_0_4 (by decide +kernel) ?_
          refine of_Vi (pc := 55) (as := [_]) v_O_210 o_39 rfl rfl (Nat.le_of_ble_eq_true rfl) (by decide +kernel) (by decide) rfl (c_RR_walkedBy_0 (okp_bind H)) (fun r M H => ?_)
          refine oj_st4 (pc := 58) (by decide +kernel) (by decide +kernel) ?_
          refine oj_ld2 (pc := 60) (by decide +kernel) ?_
          refine oj_case (c := _ = 0) H (fun c0 H => ?_) (fun c0 H => ?_)
          · refine oj_look (pc := 61) (dflt := 54) (ps := #[(0, 27), (1, 30)]) (len := 27) (off := 27) (tgt := 88) (by decide +kernel) (by decide +kernel) (by rw [c0]; decide +kernel) (by decide) ?_
            refine oj_ld4 (pc := 88) (by decide +kernel) ?_
            exact oj_iret (pc := 90) (by decide +kernel) rfl rfl (Nat.le_refl _) (Nat.le_refl _) ⟨rfl, H⟩
          refine oj_case (c := _ = 1) H (fun c1 H => ?_) (fun c1 H => ?_)
          · refine oj_look (pc := 61) (dflt := 54) (ps := #[(0, 27), (1, 30)]) (len := 27) (off := 30) (tgt := 91) (by decide +kernel) (by decide +kernel) (by rw [c1]; decide +kernel) (by decide) ?_
            refine oj_ald0 (pc := 91) (by decide +kernel) ?_
            refine oj_getR' (pc := 92) f_O_19 s_0_1 (by decide +kernel) ?_
            refine oj_ald0 (pc := 95) (by decide +kernel) ?_
            refine oj_getR' (pc := 96) f_O_71 s_0_9 (by decide +kernel) ?_
            refine oj_getR' (pc := 99) f_O_214 s_39_1 (by decide +kernel) ?_
            refine oj_ld4 (pc := 102) (by decide +kernel) ?_
            refine oj_ald0 (pc := 104) (by decide +kernel) ?_
            refine oj_getR' (pc := 105) f_O_26 s_0_2 (by decide +kernel) ?_
            refine oj_getI' (pc := 108) (ki := 4) f_O_168 s_6_4 rfl (by decide +kernel) ?_
            refine of_Vi (pc := 111) (as := [_, _, _]) v_O_217 o_3 rfl rfl (Nat.le_of_ble_eq_true rfl) (by decide +kernel) (by decide) rfl (c_P_hoursOf_0 (okp_bind H)) (fun r M H => ?_)
            exact oj_iret (pc := 114) (by decide +kernel) rfl rfl (Nat.le_refl _) (Nat.le_refl _) ⟨rfl, H⟩
          refine oj_look (pc := 61) (dflt := 54) (ps := #[(0, 27), (1, 30)]) (len := 27) (off := 54) (tgt := 115) (by decide +kernel) (by decide +kernel) (by simp only [Op.lookupswitch.offset]; repeat (rw [if_neg (by omega)])) (by decide) ?_
          refine oj_ald0 (pc := 115) (by decide +kernel) ?_
          refine oj_getR' (pc := 116) f_O_33 s_0_4 (by decide +kernel) ?_
          refine oj_getI' (pc := 119) (ki := 4) f_O_168 s_14_4 rfl (by decide +kernel) ?_
          exact oj_iret (pc := 122) (by decide +kernel) rfl rfl (Nat.le_refl _) (Nat.le_refl _) ⟨rfl, H⟩
        · refine oj_ld3 (pc := 34) (by decide +kernel) ?_
          exact oj_iret (pc := 35) (by decide +kernel) rfl rfl (Nat.le_refl _) (Nat.le_refl _) ⟨rfl, H⟩
      · refine oj_iconst (pc := 23) (v := -1) ⟨by decide, by decide⟩ (by decide +kernel) ?_
        exact oj_iret (pc := 24) (by decide +kernel) rfl rfl (Nat.le_refl _) (Nat.le_refl _) ⟨rfl, H⟩
theorem c_O_walk_0 {l : Launch} {f : Nat} {l1 : Int} {M : oM} {K : Int × oM → Prop} (H : okp (p_O_walk f l1 M) K) : oKf l m_O_walk 16 [vr 0, vi l1] M K := by
  refine oK_intro (lv := [vr 0, vi l1, vu]) (by decide +kernel) (Nat.le_of_ble_eq_true rfl) rfl ?_
  refine oj_ald0 (pc := 0) (by decide +kernel) ?_
  refine oj_getR' (pc := 1) f_O_12 s_0_0 (by decide +kernel) ?_
  refine oj_ld1 (pc := 4) (by decide +kernel) ?_
  refine oj_iconst (pc := 5) (v := 1) ⟨by decide, by decide⟩ (by decide +kernel) ?_
  refine oj_bipush (pc := 6) (v := 60) ⟨by decide, by decide⟩ (by decide +kernel) ?_
  refine of_Vi (pc := 8) (as := [_, _, _]) v_O_128 o_1 rfl rfl (Nat.le_of_ble_eq_true rfl) (by decide +kernel) (by decide) rfl (c_T_opens_0 (okp_bind H)) (fun r M H => ?_)
  refine oj_if_ne (pc := 11) (off := 5) (tgt := 16) (by decide +kernel) (by decide) H (fun _ H => ?_) (fun _ H => ?_)
  · refine oj_ald0 (pc := 16) (by decide +kernel) ?_
    refine of_Vi (pc := 17) (as := []) v_O_207 o_0 rfl rfl (Nat.le_of_ble_eq_true rfl) (by decide +kernel) (by decide) rfl (c_O_readRoute_0 (okp_bind H)) (fun r M H => ?_)
    refine oj_st2 (pc := 20) (by decide +kernel) (by decide +kernel) ?_
    refine oj_ld2 (pc := 21) (by decide +kernel) ?_
    refine oj_if_eq (pc := 22) (off := 7) (tgt := 29) (by decide +kernel) (by decide) H (fun _ H => ?_) (fun _ H => ?_)
    · refine oj_ald0 (pc := 29) (by decide +kernel) ?_
      refine oj_getR' (pc := 30) f_O_71 s_0_9 (by decide +kernel) ?_
      refine oj_ald0 (pc := 33) (by decide +kernel) ?_
      refine oj_getR' (pc := 34) f_O_26 s_0_2 (by decide +kernel) ?_
      refine of_Vi (pc := 37) (as := [_]) v_O_210 o_39 rfl rfl (Nat.le_of_ble_eq_true rfl) (by decide +kernel) (by decide) rfl (c_RR_walkedBy_1 (okp_bind H)) (fun r M H => ?_)
      exact oj_iret (pc := 40) (by decide +kernel) rfl rfl (Nat.le_refl _) (Nat.le_refl _) ⟨rfl, H⟩
    · refine oj_ld2 (pc := 25) (by decide +kernel) ?_
      refine oj_goto (pc := 26) (off := 14) (tgt := 40) (by decide +kernel) (by decide) ?_
      exact oj_iret (pc := 40) (by decide +kernel) rfl rfl (Nat.le_refl _) (Nat.le_refl _) ⟨rfl, H⟩
  · refine oj_iconst (pc := 14) (v := -1) ⟨by decide, by decide⟩ (by decide +kernel) ?_
    exact oj_iret (pc := 15) (by decide +kernel) rfl rfl (Nat.le_refl _) (Nat.le_refl _) ⟨rfl, H⟩
theorem c_R_paidBy_0 {l : Launch} {f : Nat} {l1 : Int} {M : oM} {K : Int × oM → Prop} (H : okp (p_R_paidBy f 7 l1 M) K) : oKf l m_R_paidBy 2 [vr 7, vi l1] M K := by
  refine oK_intro (lv := [vr 7, vi l1, vu, vu]) (by decide +kernel) (Nat.le_of_ble_eq_true rfl) rfl ?_
  have h4 : ∀ (g : Nat) (l1 l2 l3 : Int) (M : oM), okp (iter (p_R_paidBy_L4 f 7 l1) g (l2, l3, M)) K → oJ l m_R_paidBy (oEf 2 K) 0 0 4 [vr 7, vi l1, vi l2, vi l3] [] WD M := by
    intro g l1 l2 l3 M H
    have HL := fun hs => iter_J' (Jh := fun s => oJ l m_R_paidBy (oEf 2 K) 0 0 4 [vr 7, vi l1, vi s.1, vi s.2.1] [] WD s.2.2) (G := K) hs g (l2, l3, M) H
    refine HL ?_
    intro K4 s i4 e4 H
    obtain ⟨l2, l3, M⟩ := s
    show oJ l m_R_paidBy (oEf 2 K) 0 0 4 [vr 7, vi l1, vi l2, vi l3] [] WD M
    have h27 : ∀ (l2 l3 : Int) (M : oM), okp (p_R_paidBy_B27_4 f 7 l1 l2 l3 M) K4 → oJ l m_R_paidBy (oEf 2 K) 0 0 27 [vr 7, vi l1, vi l2, vi l3] [] WD M := by
      intro l2 l3 M H
      refine oj_inc3 (pc := 27) (d := 1) (by decide +kernel) (by decide +kernel) ?_
      have H := okp_lt H
      refine oj_goto (pc := 30) (off := -26) (tgt := 4) (by decide +kernel) (by decide) ?_
      have H := i4 _ H
      exact H
    refine oj_ld3 (pc := 4) (by decide +kernel) ?_
    refine oj_bipush (pc := 5) (v := 10) ⟨by decide, by decide⟩ (by decide +kernel) ?_
    refine oj_icmp_ge (pc := 7) (off := 26) (tgt := 33) (by decide +kernel) (by decide) H (fun _ H => ?_) (fun _ H => ?_)
    · refine oj_ld2 (pc := 33) (by decide +kernel) ?_
      have H := e4 _ H
      exact oj_iret (pc := 34) (by decide +kernel) rfl rfl (Nat.le_refl _) (Nat.le_refl _) ⟨rfl, H⟩
    · refine oj_ald0 (pc := 10) (by decide +kernel) ?_
      refine oj_ld1 (pc := 11) (by decide +kernel) ?_
      refine oj_bipush (pc := 12) (v := 10) ⟨by decide, by decide⟩ (by decide +kernel) ?_
      refine oj_imul (pc := 14) (by decide +kernel) ?_
      refine oj_ld3 (pc := 15) (by decide +kernel) ?_
      refine oj_iadd (pc := 16) (by decide +kernel) ?_
      refine oj_iald (pc := 17) (NN := 100) a_7 rfl (by decide +kernel) H (fun H => ?_)
      refine oj_if_le (pc := 18) (off := 9) (tgt := 27) (by decide +kernel) (by decide) H (fun _ H => ?_) (fun _ H => ?_)
      · exact h27 _ _ _ H
      · refine oj_ld2 (pc := 21) (by decide +kernel) ?_
        refine oj_iconst (pc := 22) (v := 1) ⟨by decide, by decide⟩ (by decide +kernel) ?_
        refine oj_ld3 (pc := 23) (by decide +kernel) ?_
        refine oj_ishl (pc := 24) (by decide +kernel) ?_
        refine oj_ior (pc := 25) (by decide +kernel) ?_
        refine oj_st2 (pc := 26) (by decide +kernel) (by decide +kernel) ?_
        have H := okp_lt H
        exact h27 _ _ _ H
  refine oj_iconst (pc := 0) (v := 0) ⟨by decide, by decide⟩ (by decide +kernel) ?_
  refine oj_st2 (pc := 1) (by decide +kernel) (by decide +kernel) ?_
  refine oj_iconst (pc := 2) (v := 0) ⟨by decide, by decide⟩ (by decide +kernel) ?_
  refine oj_st3 (pc := 3) (by decide +kernel) (by decide +kernel) ?_
  exact h4 _ _ _ _ _ H
theorem c_R_paidBy_1 {l : Launch} {f : Nat} {l1 : Int} {M : oM} {K : Int × oM → Prop} (H : okp (p_R_paidBy f 43 l1 M) K) : oKf l m_R_paidBy 2 [vr 43, vi l1] M K := by
  refine oK_intro (lv := [vr 43, vi l1, vu, vu]) (by decide +kernel) (Nat.le_of_ble_eq_true rfl) rfl ?_
  have h4 : ∀ (g : Nat) (l1 l2 l3 : Int) (M : oM), okp (iter (p_R_paidBy_L4 f 43 l1) g (l2, l3, M)) K → oJ l m_R_paidBy (oEf 2 K) 0 0 4 [vr 43, vi l1, vi l2, vi l3] [] WD M := by
    intro g l1 l2 l3 M H
    have HL := fun hs => iter_J' (Jh := fun s => oJ l m_R_paidBy (oEf 2 K) 0 0 4 [vr 43, vi l1, vi s.1, vi s.2.1] [] WD s.2.2) (G := K) hs g (l2, l3, M) H
    refine HL ?_
    intro K4 s i4 e4 H
    obtain ⟨l2, l3, M⟩ := s
    show oJ l m_R_paidBy (oEf 2 K) 0 0 4 [vr 43, vi l1, vi l2, vi l3] [] WD M
    have h27 : ∀ (l2 l3 : Int) (M : oM), okp (p_R_paidBy_B27_4 f 43 l1 l2 l3 M) K4 → oJ l m_R_paidBy (oEf 2 K) 0 0 27 [vr 43, vi l1, vi l2, vi l3] [] WD M := by
      intro l2 l3 M H
      refine oj_inc3 (pc := 27) (d := 1) (by decide +kernel) (by decide +kernel) ?_
      have H := okp_lt H
      refine oj_goto (pc := 30) (off := -26) (tgt := 4) (by decide +kernel) (by decide) ?_
      have H := i4 _ H
      exact H
    refine oj_ld3 (pc := 4) (by decide +kernel) ?_
    refine oj_bipush (pc := 5) (v := 10) ⟨by decide, by decide⟩ (by decide +kernel) ?_
    refine oj_icmp_ge (pc := 7) (off := 26) (tgt := 33) (by decide +kernel) (by decide) H (fun _ H => ?_) (fun _ H => ?_)
    · refine oj_ld2 (pc := 33) (by decide +kernel) ?_
      have H := e4 _ H
      exact oj_iret (pc := 34) (by decide +kernel) rfl rfl (Nat.le_refl _) (Nat.le_refl _) ⟨rfl, H⟩
    · refine oj_ald0 (pc := 10) (by decide +kernel) ?_
      refine oj_ld1 (pc := 11) (by decide +kernel) ?_
      refine oj_bipush (pc := 12) (v := 10) ⟨by decide, by decide⟩ (by decide +kernel) ?_
      refine oj_imul (pc := 14) (by decide +kernel) ?_
      refine oj_ld3 (pc := 15) (by decide +kernel) ?_
      refine oj_iadd (pc := 16) (by decide +kernel) ?_
      refine oj_iald (pc := 17) (NN := 100) a_43 rfl (by decide +kernel) H (fun H => ?_)
      refine oj_if_le (pc := 18) (off := 9) (tgt := 27) (by decide +kernel) (by decide) H (fun _ H => ?_) (fun _ H => ?_)
      · exact h27 _ _ _ H
      · refine oj_ld2 (pc := 21) (by decide +kernel) ?_
        refine oj_iconst (pc := 22) (v := 1) ⟨by decide, by decide⟩ (by decide +kernel) ?_
        refine oj_ld3 (pc := 23) (by decide +kernel) ?_
        refine oj_ishl (pc := 24) (by decide +kernel) ?_
        refine oj_ior (pc := 25) (by decide +kernel) ?_
        refine oj_st2 (pc := 26) (by decide +kernel) (by decide +kernel) ?_
        have H := okp_lt H
        exact h27 _ _ _ H
  refine oj_iconst (pc := 0) (v := 0) ⟨by decide, by decide⟩ (by decide +kernel) ?_
  refine oj_st2 (pc := 1) (by decide +kernel) (by decide +kernel) ?_
  refine oj_iconst (pc := 2) (v := 0) ⟨by decide, by decide⟩ (by decide +kernel) ?_
  refine oj_st3 (pc := 3) (by decide +kernel) (by decide +kernel) ?_
  exact h4 _ _ _ _ _ H
theorem c_R_paidBy_2 {l : Launch} {f : Nat} {l1 : Int} {M : oM} {K : Int × oM → Prop} (H : okp (p_R_paidBy f 44 l1 M) K) : oKf l m_R_paidBy 2 [vr 44, vi l1] M K := by
  refine oK_intro (lv := [vr 44, vi l1, vu, vu]) (by decide +kernel) (Nat.le_of_ble_eq_true rfl) rfl ?_
  have h4 : ∀ (g : Nat) (l1 l2 l3 : Int) (M : oM), okp (iter (p_R_paidBy_L4 f 44 l1) g (l2, l3, M)) K → oJ l m_R_paidBy (oEf 2 K) 0 0 4 [vr 44, vi l1, vi l2, vi l3] [] WD M := by
    intro g l1 l2 l3 M H
    have HL := fun hs => iter_J' (Jh := fun s => oJ l m_R_paidBy (oEf 2 K) 0 0 4 [vr 44, vi l1, vi s.1, vi s.2.1] [] WD s.2.2) (G := K) hs g (l2, l3, M) H
    refine HL ?_
    intro K4 s i4 e4 H
    obtain ⟨l2, l3, M⟩ := s
    show oJ l m_R_paidBy (oEf 2 K) 0 0 4 [vr 44, vi l1, vi l2, vi l3] [] WD M
    have h27 : ∀ (l2 l3 : Int) (M : oM), okp (p_R_paidBy_B27_4 f 44 l1 l2 l3 M) K4 → oJ l m_R_paidBy (oEf 2 K) 0 0 27 [vr 44, vi l1, vi l2, vi l3] [] WD M := by
      intro l2 l3 M H
      refine oj_inc3 (pc := 27) (d := 1) (by decide +kernel) (by decide +kernel) ?_
      have H := okp_lt H
      refine oj_goto (pc := 30) (off := -26) (tgt := 4) (by decide +kernel) (by decide) ?_
      have H := i4 _ H
      exact H
    refine oj_ld3 (pc := 4) (by decide +kernel) ?_
    refine oj_bipush (pc := 5) (v := 10) ⟨by decide, by decide⟩ (by decide +kernel) ?_
    refine oj_icmp_ge (pc := 7) (off := 26) (tgt := 33) (by decide +kernel) (by decide) H (fun _ H => ?_) (fun _ H => ?_)
    · refine oj_ld2 (pc := 33) (by decide +kernel) ?_
      have H := e4 _ H
      exact oj_iret (pc := 34) (by decide +kernel) rfl rfl (Nat.le_refl _) (Nat.le_refl _) ⟨rfl, H⟩
    · refine oj_ald0 (pc := 10) (by decide +kernel) ?_
      refine oj_ld1 (pc := 11) (by decide +kernel) ?_
      refine oj_bipush (pc := 12) (v := 10) ⟨by decide, by decide⟩ (by decide +kernel) ?_
      refine oj_imul (pc := 14) (by decide +kernel) ?_
      refine oj_ld3 (pc := 15) (by decide +kernel) ?_
      refine oj_iadd (pc := 16) (by decide +kernel) ?_
      refine oj_iald (pc := 17) (NN := 100) a_44 rfl (by decide +kernel) H (fun H => ?_)
      refine oj_if_le (pc := 18) (off := 9) (tgt := 27) (by decide +kernel) (by decide) H (fun _ H => ?_) (fun _ H => ?_)
      · exact h27 _ _ _ H
      · refine oj_ld2 (pc := 21) (by decide +kernel) ?_
        refine oj_iconst (pc := 22) (v := 1) ⟨by decide, by decide⟩ (by decide +kernel) ?_
        refine oj_ld3 (pc := 23) (by decide +kernel) ?_
        refine oj_ishl (pc := 24) (by decide +kernel) ?_
        refine oj_ior (pc := 25) (by decide +kernel) ?_
        refine oj_st2 (pc := 26) (by decide +kernel) (by decide +kernel) ?_
        have H := okp_lt H
        exact h27 _ _ _ H
  refine oj_iconst (pc := 0) (v := 0) ⟨by decide, by decide⟩ (by decide +kernel) ?_
  refine oj_st2 (pc := 1) (by decide +kernel) (by decide +kernel) ?_
  refine oj_iconst (pc := 2) (v := 0) ⟨by decide, by decide⟩ (by decide +kernel) ?_
  refine oj_st3 (pc := 3) (by decide +kernel) (by decide +kernel) ?_
  exact h4 _ _ _ _ _ H
theorem c_R_reachedFrom_0 {l : Launch} {f : Nat} {l1 : Int} {M : oM} {K : Int × oM → Prop} (H : okp (p_R_reachedFrom f 7 l1 M) K) : oKf l m_R_reachedFrom 3 [vr 7, vi l1] M K := by
  refine oK_intro (lv := [vr 7, vi l1, vu, vu, vu, vu, vu]) (by decide +kernel) (Nat.le_of_ble_eq_true rfl) rfl ?_
  have h9 : ∀ (g : Nat) (l2 l3 l4 : Int) (M : oM), okp (iter (p_R_reachedFrom_L9 f 7) g (l2, l3, l4, M)) K → oJ l m_R_reachedFrom (oEf 3 K) 0 0 9 [vr 7, vu, vi l2, vi l3, vi l4, vu, vu] [] WD M := by
    intro g l2 l3 l4 M H
    have HL := fun hs => iter_J' (Jh := fun s => oJ l m_R_reachedFrom (oEf 3 K) 0 0 9 [vr 7, vu, vi s.1, vi s.2.1, vi s.2.2.1, vu, vu] [] WD s.2.2.2) (G := K) hs g (l2, l3, l4, M) H
    refine HL ?_
    intro K9 s i9 e9 H
    obtain ⟨l2, l3, l4, M⟩ := s
    show oJ l m_R_reachedFrom (oEf 3 K) 0 0 9 [vr 7, vu, vi l2, vi l3, vi l4, vu, vu] [] WD M
    have x33 : ∀ (l2 l3 l4 l5 : Int) (M : oM), okp (p_R_reachedFrom_X33 f 7 l3 l4 l5 (l2, M)) K9 → oJ l m_R_reachedFrom (oEf 3 K) 0 0 66 [vr 7, vu, vi l2, vi l3, vi l4, vu, vu] [] WD M := by
      intro l2 l3 l4 l5 M H
      unfold p_R_reachedFrom_X33 at H
      refine oj_inc4 (pc := 66) (d := 1) (by decide +kernel) (by decide +kernel) ?_
      have H := okp_lt H
      refine oj_goto (pc := 69) (off := -60) (tgt := 9) (by decide +kernel) (by decide) ?_
      have H := i9 _ H
      exact H
    have h33 : ∀ (g : Nat) (l2 l3 l4 l5 l6 : Int) (M : oM), okp (iter (p_R_reachedFrom_L33 f 7 l3 l4 l5) g (l2, l6, M)) (fun r => okp (p_R_reachedFrom_X33 f 7 l3 l4 l5 r) K9) → oJ l m_R_reachedFrom (oEf 3 K) 0 0 33 [vr 7, vu, vi l2, vi l3, vi l4, vi l5, vi l6] [] WD M := by
      intro g l2 l3 l4 l5 l6 M H
      have HL := fun hs => iter_J' (Jh := fun s => oJ l m_R_reachedFrom (oEf 3 K) 0 0 33 [vr 7, vu, vi s.1, vi l3, vi l4, vi l5, vi s.2.1] [] WD s.2.2) (G := (fun r => okp (p_R_reachedFrom_X33 f 7 l3 l4 l5 r) K9)) hs g (l2, l6, M) H
      refine HL ?_
      intro K33 s i33 e33 H
      obtain ⟨l2, l6, M⟩ := s
      show oJ l m_R_reachedFrom (oEf 3 K) 0 0 33 [vr 7, vu, vi l2, vi l3, vi l4, vi l5, vi l6] [] WD M
      have h60 : ∀ (l2 l6 : Int) (M : oM), okp (p_R_reachedFrom_B60_33 f 7 l2 l3 l4 l5 l6 M) K33 → oJ l m_R_reachedFrom (oEf 3 K) 0 0 60 [vr 7, vu, vi l2, vi l3, vi l4, vi l5, vi l6] [] WD M := by
        intro l2 l6 M H
        refine oj_inc6 (pc := 60) (d := 1) (by decide +kernel) (by decide +kernel) ?_
        have H := okp_lt H
        refine oj_goto (pc := 63) (off := -30) (tgt := 33) (by decide +kernel) (by decide) ?_
        have H := i33 _ H
        exact H
      refine oj_ld6 (pc := 33) (by decide +kernel) ?_
      refine oj_bipush (pc := 35) (v := 10) ⟨by decide, by decide⟩ (by decide +kernel) ?_
      refine oj_icmp_ge (pc := 37) (off := 29) (tgt := 66) (by decide +kernel) (by decide) H (fun _ H => ?_) (fun _ H => ?_)
      · refine oj_le (lv' := [_, vu, _, _, _, vu, vu]) ⟨Or.inr rfl, Or.inr rfl, Or.inr rfl, Or.inr rfl, Or.inr rfl, Or.inl rfl, Or.inl rfl, trivial⟩ ?_
        have H := e33 _ H
        exact x33 _ _ _ _ _ H
      · refine oj_ld5 (pc := 40) (by decide +kernel) ?_
        refine oj_ld6 (pc := 42) (by decide +kernel) ?_
        refine oj_ishr (pc := 44) (by decide +kernel) ?_
        refine oj_iconst (pc := 45) (v := 1) ⟨by decide, by decide⟩ (by decide +kernel) ?_
        refine oj_iand (pc := 46) (by decide +kernel) ?_
        refine oj_iconst (pc := 47) (v := 1) ⟨by decide, by decide⟩ (by decide +kernel) ?_
        refine oj_icmp_ne (pc := 48) (off := 12) (tgt := 60) (by decide +kernel) (by decide) H (fun _ H => ?_) (fun _ H => ?_)
        · exact h60 _ _ _ H
        · refine oj_ld2 (pc := 51) (by decide +kernel) ?_
          refine oj_ald0 (pc := 52) (by decide +kernel) ?_
          refine oj_ld6 (pc := 53) (by decide +kernel) ?_
          refine of_Si (pc := 55) (as := [_, _]) v_R_34 rfl rfl (Nat.le_of_ble_eq_true rfl) (by decide +kernel) (by decide) rfl (c_R_paidBy_0 (okp_bind H)) (fun r M H => ?_)
          refine oj_ior (pc := 58) (by decide +kernel) ?_
          refine oj_st2 (pc := 59) (by decide +kernel) (by decide +kernel) ?_
          have H := okp_lt H
          exact h60 _ _ _ H
    refine oj_ld4 (pc := 9) (by decide +kernel) ?_
    refine oj_bipush (pc := 11) (v := 10) ⟨by decide, by decide⟩ (by decide +kernel) ?_
    refine oj_icmp_ge (pc := 13) (off := 59) (tgt := 72) (by decide +kernel) (by decide) H (fun _ H => ?_) (fun _ H => ?_)
    · refine oj_ld2 (pc := 72) (by decide +kernel) ?_
      have H := e9 _ H
      exact oj_iret (pc := 73) (by decide +kernel) rfl rfl (Nat.le_refl _) (Nat.le_refl _) ⟨rfl, H⟩
    · refine oj_ld3 (pc := 16) (by decide +kernel) ?_
      refine oj_ld2 (pc := 17) (by decide +kernel) ?_
      refine oj_icmp_eq (pc := 18) (off := 54) (tgt := 72) (by decide +kernel) (by decide) H (fun _ H => ?_) (fun _ H => ?_)
      · refine oj_ld2 (pc := 72) (by decide +kernel) ?_
        have H := e9 _ H
        exact oj_iret (pc := 73) (by decide +kernel) rfl rfl (Nat.le_refl _) (Nat.le_refl _) ⟨rfl, H⟩
      · refine oj_ld2 (pc := 21) (by decide +kernel) ?_
        refine oj_ld3 (pc := 22) (by decide +kernel) ?_
        refine oj_iconst (pc := 23) (v := -1) ⟨by decide, by decide⟩ (by decide +kernel) ?_
        refine oj_ixor (pc := 24) (by decide +kernel) ?_
        refine oj_iand (pc := 25) (by decide +kernel) ?_
        refine oj_st5 (pc := 26) (by decide +kernel) (by decide +kernel) ?_
        have H := okp_lt H
        refine oj_ld2 (pc := 28) (by decide +kernel) ?_
        refine oj_st3 (pc := 29) (by decide +kernel) (by decide +kernel) ?_
        refine oj_iconst (pc := 30) (v := 0) ⟨by decide, by decide⟩ (by decide +kernel) ?_
        refine oj_st6 (pc := 31) (by decide +kernel) (by decide +kernel) ?_
        exact h33 _ _ _ _ _ _ _ (okp_bind H)
  refine oj_iconst (pc := 0) (v := 1) ⟨by decide, by decide⟩ (by decide +kernel) ?_
  refine oj_ld1 (pc := 1) (by decide +kernel) ?_
  refine oj_ishl (pc := 2) (by decide +kernel) ?_
  refine oj_st2 (pc := 3) (by decide +kernel) (by decide +kernel) ?_
  have H := okp_lt H
  refine oj_iconst (pc := 4) (v := 0) ⟨by decide, by decide⟩ (by decide +kernel) ?_
  refine oj_st3 (pc := 5) (by decide +kernel) (by decide +kernel) ?_
  refine oj_iconst (pc := 6) (v := 0) ⟨by decide, by decide⟩ (by decide +kernel) ?_
  refine oj_st4 (pc := 7) (by decide +kernel) (by decide +kernel) ?_
  refine oj_le (lv' := [_, vu, _, _, _, vu, vu]) ⟨Or.inr rfl, Or.inl rfl, Or.inr rfl, Or.inr rfl, Or.inr rfl, Or.inr rfl, Or.inr rfl, trivial⟩ ?_
  exact h9 _ _ _ _ _ H
theorem c_R_reachedFrom_1 {l : Launch} {f : Nat} {l1 : Int} {M : oM} {K : Int × oM → Prop} (H : okp (p_R_reachedFrom f 43 l1 M) K) : oKf l m_R_reachedFrom 3 [vr 43, vi l1] M K := by
  refine oK_intro (lv := [vr 43, vi l1, vu, vu, vu, vu, vu]) (by decide +kernel) (Nat.le_of_ble_eq_true rfl) rfl ?_
  have h9 : ∀ (g : Nat) (l2 l3 l4 : Int) (M : oM), okp (iter (p_R_reachedFrom_L9 f 43) g (l2, l3, l4, M)) K → oJ l m_R_reachedFrom (oEf 3 K) 0 0 9 [vr 43, vu, vi l2, vi l3, vi l4, vu, vu] [] WD M := by
    intro g l2 l3 l4 M H
    have HL := fun hs => iter_J' (Jh := fun s => oJ l m_R_reachedFrom (oEf 3 K) 0 0 9 [vr 43, vu, vi s.1, vi s.2.1, vi s.2.2.1, vu, vu] [] WD s.2.2.2) (G := K) hs g (l2, l3, l4, M) H
    refine HL ?_
    intro K9 s i9 e9 H
    obtain ⟨l2, l3, l4, M⟩ := s
    show oJ l m_R_reachedFrom (oEf 3 K) 0 0 9 [vr 43, vu, vi l2, vi l3, vi l4, vu, vu] [] WD M
    have x33 : ∀ (l2 l3 l4 l5 : Int) (M : oM), okp (p_R_reachedFrom_X33 f 43 l3 l4 l5 (l2, M)) K9 → oJ l m_R_reachedFrom (oEf 3 K) 0 0 66 [vr 43, vu, vi l2, vi l3, vi l4, vu, vu] [] WD M := by
      intro l2 l3 l4 l5 M H
      unfold p_R_reachedFrom_X33 at H
      refine oj_inc4 (pc := 66) (d := 1) (by decide +kernel) (by decide +kernel) ?_
      have H := okp_lt H
      refine oj_goto (pc := 69) (off := -60) (tgt := 9) (by decide +kernel) (by decide) ?_
      have H := i9 _ H
      exact H
    have h33 : ∀ (g : Nat) (l2 l3 l4 l5 l6 : Int) (M : oM), okp (iter (p_R_reachedFrom_L33 f 43 l3 l4 l5) g (l2, l6, M)) (fun r => okp (p_R_reachedFrom_X33 f 43 l3 l4 l5 r) K9) → oJ l m_R_reachedFrom (oEf 3 K) 0 0 33 [vr 43, vu, vi l2, vi l3, vi l4, vi l5, vi l6] [] WD M := by
      intro g l2 l3 l4 l5 l6 M H
      have HL := fun hs => iter_J' (Jh := fun s => oJ l m_R_reachedFrom (oEf 3 K) 0 0 33 [vr 43, vu, vi s.1, vi l3, vi l4, vi l5, vi s.2.1] [] WD s.2.2) (G := (fun r => okp (p_R_reachedFrom_X33 f 43 l3 l4 l5 r) K9)) hs g (l2, l6, M) H
      refine HL ?_
      intro K33 s i33 e33 H
      obtain ⟨l2, l6, M⟩ := s
      show oJ l m_R_reachedFrom (oEf 3 K) 0 0 33 [vr 43, vu, vi l2, vi l3, vi l4, vi l5, vi l6] [] WD M
      have h60 : ∀ (l2 l6 : Int) (M : oM), okp (p_R_reachedFrom_B60_33 f 43 l2 l3 l4 l5 l6 M) K33 → oJ l m_R_reachedFrom (oEf 3 K) 0 0 60 [vr 43, vu, vi l2, vi l3, vi l4, vi l5, vi l6] [] WD M := by
        intro l2 l6 M H
        refine oj_inc6 (pc := 60) (d := 1) (by decide +kernel) (by decide +kernel) ?_
        have H := okp_lt H
        refine oj_goto (pc := 63) (off := -30) (tgt := 33) (by decide +kernel) (by decide) ?_
        have H := i33 _ H
        exact H
      refine oj_ld6 (pc := 33) (by decide +kernel) ?_
      refine oj_bipush (pc := 35) (v := 10) ⟨by decide, by decide⟩ (by decide +kernel) ?_
      refine oj_icmp_ge (pc := 37) (off := 29) (tgt := 66) (by decide +kernel) (by decide) H (fun _ H => ?_) (fun _ H => ?_)
      · refine oj_le (lv' := [_, vu, _, _, _, vu, vu]) ⟨Or.inr rfl, Or.inr rfl, Or.inr rfl, Or.inr rfl, Or.inr rfl, Or.inl rfl, Or.inl rfl, trivial⟩ ?_
        have H := e33 _ H
        exact x33 _ _ _ _ _ H
      · refine oj_ld5 (pc := 40) (by decide +kernel) ?_
        refine oj_ld6 (pc := 42) (by decide +kernel) ?_
        refine oj_ishr (pc := 44) (by decide +kernel) ?_
        refine oj_iconst (pc := 45) (v := 1) ⟨by decide, by decide⟩ (by decide +kernel) ?_
        refine oj_iand (pc := 46) (by decide +kernel) ?_
        refine oj_iconst (pc := 47) (v := 1) ⟨by decide, by decide⟩ (by decide +kernel) ?_
        refine oj_icmp_ne (pc := 48) (off := 12) (tgt := 60) (by decide +kernel) (by decide) H (fun _ H => ?_) (fun _ H => ?_)
        · exact h60 _ _ _ H
        · refine oj_ld2 (pc := 51) (by decide +kernel) ?_
          refine oj_ald0 (pc := 52) (by decide +kernel) ?_
          refine oj_ld6 (pc := 53) (by decide +kernel) ?_
          refine of_Si (pc := 55) (as := [_, _]) v_R_34 rfl rfl (Nat.le_of_ble_eq_true rfl) (by decide +kernel) (by decide) rfl (c_R_paidBy_1 (okp_bind H)) (fun r M H => ?_)
          refine oj_ior (pc := 58) (by decide +kernel) ?_
          refine oj_st2 (pc := 59) (by decide +kernel) (by decide +kernel) ?_
          have H := okp_lt H
          exact h60 _ _ _ H
    refine oj_ld4 (pc := 9) (by decide +kernel) ?_
    refine oj_bipush (pc := 11) (v := 10) ⟨by decide, by decide⟩ (by decide +kernel) ?_
    refine oj_icmp_ge (pc := 13) (off := 59) (tgt := 72) (by decide +kernel) (by decide) H (fun _ H => ?_) (fun _ H => ?_)
    · refine oj_ld2 (pc := 72) (by decide +kernel) ?_
      have H := e9 _ H
      exact oj_iret (pc := 73) (by decide +kernel) rfl rfl (Nat.le_refl _) (Nat.le_refl _) ⟨rfl, H⟩
    · refine oj_ld3 (pc := 16) (by decide +kernel) ?_
      refine oj_ld2 (pc := 17) (by decide +kernel) ?_
      refine oj_icmp_eq (pc := 18) (off := 54) (tgt := 72) (by decide +kernel) (by decide) H (fun _ H => ?_) (fun _ H => ?_)
      · refine oj_ld2 (pc := 72) (by decide +kernel) ?_
        have H := e9 _ H
        exact oj_iret (pc := 73) (by decide +kernel) rfl rfl (Nat.le_refl _) (Nat.le_refl _) ⟨rfl, H⟩
      · refine oj_ld2 (pc := 21) (by decide +kernel) ?_
        refine oj_ld3 (pc := 22) (by decide +kernel) ?_
        refine oj_iconst (pc := 23) (v := -1) ⟨by decide, by decide⟩ (by decide +kernel) ?_
        refine oj_ixor (pc := 24) (by decide +kernel) ?_
        refine oj_iand (pc := 25) (by decide +kernel) ?_
        refine oj_st5 (pc := 26) (by decide +kernel) (by decide +kernel) ?_
        have H := okp_lt H
        refine oj_ld2 (pc := 28) (by decide +kernel) ?_
        refine oj_st3 (pc := 29) (by decide +kernel) (by decide +kernel) ?_
        refine oj_iconst (pc := 30) (v := 0) ⟨by decide, by decide⟩ (by decide +kernel) ?_
        refine oj_st6 (pc := 31) (by decide +kernel) (by decide +kernel) ?_
        exact h33 _ _ _ _ _ _ _ (okp_bind H)
  refine oj_iconst (pc := 0) (v := 1) ⟨by decide, by decide⟩ (by decide +kernel) ?_
  refine oj_ld1 (pc := 1) (by decide +kernel) ?_
  refine oj_ishl (pc := 2) (by decide +kernel) ?_
  refine oj_st2 (pc := 3) (by decide +kernel) (by decide +kernel) ?_
  have H := okp_lt H
  refine oj_iconst (pc := 4) (v := 0) ⟨by decide, by decide⟩ (by decide +kernel) ?_
  refine oj_st3 (pc := 5) (by decide +kernel) (by decide +kernel) ?_
  refine oj_iconst (pc := 6) (v := 0) ⟨by decide, by decide⟩ (by decide +kernel) ?_
  refine oj_st4 (pc := 7) (by decide +kernel) (by decide +kernel) ?_
  refine oj_le (lv' := [_, vu, _, _, _, vu, vu]) ⟨Or.inr rfl, Or.inl rfl, Or.inr rfl, Or.inr rfl, Or.inr rfl, Or.inr rfl, Or.inr rfl, trivial⟩ ?_
  exact h9 _ _ _ _ _ H
theorem c_R_reachedFrom_2 {l : Launch} {f : Nat} {l1 : Int} {M : oM} {K : Int × oM → Prop} (H : okp (p_R_reachedFrom f 44 l1 M) K) : oKf l m_R_reachedFrom 3 [vr 44, vi l1] M K := by
  refine oK_intro (lv := [vr 44, vi l1, vu, vu, vu, vu, vu]) (by decide +kernel) (Nat.le_of_ble_eq_true rfl) rfl ?_
  have h9 : ∀ (g : Nat) (l2 l3 l4 : Int) (M : oM), okp (iter (p_R_reachedFrom_L9 f 44) g (l2, l3, l4, M)) K → oJ l m_R_reachedFrom (oEf 3 K) 0 0 9 [vr 44, vu, vi l2, vi l3, vi l4, vu, vu] [] WD M := by
    intro g l2 l3 l4 M H
    have HL := fun hs => iter_J' (Jh := fun s => oJ l m_R_reachedFrom (oEf 3 K) 0 0 9 [vr 44, vu, vi s.1, vi s.2.1, vi s.2.2.1, vu, vu] [] WD s.2.2.2) (G := K) hs g (l2, l3, l4, M) H
    refine HL ?_
    intro K9 s i9 e9 H
    obtain ⟨l2, l3, l4, M⟩ := s
    show oJ l m_R_reachedFrom (oEf 3 K) 0 0 9 [vr 44, vu, vi l2, vi l3, vi l4, vu, vu] [] WD M
    have x33 : ∀ (l2 l3 l4 l5 : Int) (M : oM), okp (p_R_reachedFrom_X33 f 44 l3 l4 l5 (l2, M)) K9 → oJ l m_R_reachedFrom (oEf 3 K) 0 0 66 [vr 44, vu, vi l2, vi l3, vi l4, vu, vu] [] WD M := by
      intro l2 l3 l4 l5 M H
      unfold p_R_reachedFrom_X33 at H
      refine oj_inc4 (pc := 66) (d := 1) (by decide +kernel) (by decide +kernel) ?_
      have H := okp_lt H
      refine oj_goto (pc := 69) (off := -60) (tgt := 9) (by decide +kernel) (by decide) ?_
      have H := i9 _ H
      exact H
    have h33 : ∀ (g : Nat) (l2 l3 l4 l5 l6 : Int) (M : oM), okp (iter (p_R_reachedFrom_L33 f 44 l3 l4 l5) g (l2, l6, M)) (fun r => okp (p_R_reachedFrom_X33 f 44 l3 l4 l5 r) K9) → oJ l m_R_reachedFrom (oEf 3 K) 0 0 33 [vr 44, vu, vi l2, vi l3, vi l4, vi l5, vi l6] [] WD M := by
      intro g l2 l3 l4 l5 l6 M H
      have HL := fun hs => iter_J' (Jh := fun s => oJ l m_R_reachedFrom (oEf 3 K) 0 0 33 [vr 44, vu, vi s.1, vi l3, vi l4, vi l5, vi s.2.1] [] WD s.2.2) (G := (fun r => okp (p_R_reachedFrom_X33 f 44 l3 l4 l5 r) K9)) hs g (l2, l6, M) H
      refine HL ?_
      intro K33 s i33 e33 H
      obtain ⟨l2, l6, M⟩ := s
      show oJ l m_R_reachedFrom (oEf 3 K) 0 0 33 [vr 44, vu, vi l2, vi l3, vi l4, vi l5, vi l6] [] WD M
      have h60 : ∀ (l2 l6 : Int) (M : oM), okp (p_R_reachedFrom_B60_33 f 44 l2 l3 l4 l5 l6 M) K33 → oJ l m_R_reachedFrom (oEf 3 K) 0 0 60 [vr 44, vu, vi l2, vi l3, vi l4, vi l5, vi l6] [] WD M := by
        intro l2 l6 M H
        refine oj_inc6 (pc := 60) (d := 1) (by decide +kernel) (by decide +kernel) ?_
        have H := okp_lt H
        refine oj_goto (pc := 63) (off := -30) (tgt := 33) (by decide +kernel) (by decide) ?_
        have H := i33 _ H
        exact H
      refine oj_ld6 (pc := 33) (by decide +kernel) ?_
      refine oj_bipush (pc := 35) (v := 10) ⟨by decide, by decide⟩ (by decide +kernel) ?_
      refine oj_icmp_ge (pc := 37) (off := 29) (tgt := 66) (by decide +kernel) (by decide) H (fun _ H => ?_) (fun _ H => ?_)
      · refine oj_le (lv' := [_, vu, _, _, _, vu, vu]) ⟨Or.inr rfl, Or.inr rfl, Or.inr rfl, Or.inr rfl, Or.inr rfl, Or.inl rfl, Or.inl rfl, trivial⟩ ?_
        have H := e33 _ H
        exact x33 _ _ _ _ _ H
      · refine oj_ld5 (pc := 40) (by decide +kernel) ?_
        refine oj_ld6 (pc := 42) (by decide +kernel) ?_
        refine oj_ishr (pc := 44) (by decide +kernel) ?_
        refine oj_iconst (pc := 45) (v := 1) ⟨by decide, by decide⟩ (by decide +kernel) ?_
        refine oj_iand (pc := 46) (by decide +kernel) ?_
        refine oj_iconst (pc := 47) (v := 1) ⟨by decide, by decide⟩ (by decide +kernel) ?_
        refine oj_icmp_ne (pc := 48) (off := 12) (tgt := 60) (by decide +kernel) (by decide) H (fun _ H => ?_) (fun _ H => ?_)
        · exact h60 _ _ _ H
        · refine oj_ld2 (pc := 51) (by decide +kernel) ?_
          refine oj_ald0 (pc := 52) (by decide +kernel) ?_
          refine oj_ld6 (pc := 53) (by decide +kernel) ?_
          refine of_Si (pc := 55) (as := [_, _]) v_R_34 rfl rfl (Nat.le_of_ble_eq_true rfl) (by decide +kernel) (by decide) rfl (c_R_paidBy_2 (okp_bind H)) (fun r M H => ?_)
          refine oj_ior (pc := 58) (by decide +kernel) ?_
          refine oj_st2 (pc := 59) (by decide +kernel) (by decide +kernel) ?_
          have H := okp_lt H
          exact h60 _ _ _ H
    refine oj_ld4 (pc := 9) (by decide +kernel) ?_
    refine oj_bipush (pc := 11) (v := 10) ⟨by decide, by decide⟩ (by decide +kernel) ?_
    refine oj_icmp_ge (pc := 13) (off := 59) (tgt := 72) (by decide +kernel) (by decide) H (fun _ H => ?_) (fun _ H => ?_)
    · refine oj_ld2 (pc := 72) (by decide +kernel) ?_
      have H := e9 _ H
      exact oj_iret (pc := 73) (by decide +kernel) rfl rfl (Nat.le_refl _) (Nat.le_refl _) ⟨rfl, H⟩
    · refine oj_ld3 (pc := 16) (by decide +kernel) ?_
      refine oj_ld2 (pc := 17) (by decide +kernel) ?_
      refine oj_icmp_eq (pc := 18) (off := 54) (tgt := 72) (by decide +kernel) (by decide) H (fun _ H => ?_) (fun _ H => ?_)
      · refine oj_ld2 (pc := 72) (by decide +kernel) ?_
        have H := e9 _ H
        exact oj_iret (pc := 73) (by decide +kernel) rfl rfl (Nat.le_refl _) (Nat.le_refl _) ⟨rfl, H⟩
      · refine oj_ld2 (pc := 21) (by decide +kernel) ?_
        refine oj_ld3 (pc := 22) (by decide +kernel) ?_
        refine oj_iconst (pc := 23) (v := -1) ⟨by decide, by decide⟩ (by decide +kernel) ?_
        refine oj_ixor (pc := 24) (by decide +kernel) ?_
        refine oj_iand (pc := 25) (by decide +kernel) ?_
        refine oj_st5 (pc := 26) (by decide +kernel) (by decide +kernel) ?_
        have H := okp_lt H
        refine oj_ld2 (pc := 28) (by decide +kernel) ?_
        refine oj_st3 (pc := 29) (by decide +kernel) (by decide +kernel) ?_
        refine oj_iconst (pc := 30) (v := 0) ⟨by decide, by decide⟩ (by decide +kernel) ?_
        refine oj_st6 (pc := 31) (by decide +kernel) (by decide +kernel) ?_
        exact h33 _ _ _ _ _ _ _ (okp_bind H)
  refine oj_iconst (pc := 0) (v := 1) ⟨by decide, by decide⟩ (by decide +kernel) ?_
  refine oj_ld1 (pc := 1) (by decide +kernel) ?_
  refine oj_ishl (pc := 2) (by decide +kernel) ?_
  refine oj_st2 (pc := 3) (by decide +kernel) (by decide +kernel) ?_
  have H := okp_lt H
  refine oj_iconst (pc := 4) (v := 0) ⟨by decide, by decide⟩ (by decide +kernel) ?_
  refine oj_st3 (pc := 5) (by decide +kernel) (by decide +kernel) ?_
  refine oj_iconst (pc := 6) (v := 0) ⟨by decide, by decide⟩ (by decide +kernel) ?_
  refine oj_st4 (pc := 7) (by decide +kernel) (by decide +kernel) ?_
  refine oj_le (lv' := [_, vu, _, _, _, vu, vu]) ⟨Or.inr rfl, Or.inl rfl, Or.inr rfl, Or.inr rfl, Or.inr rfl, Or.inr rfl, Or.inr rfl, trivial⟩ ?_
  exact h9 _ _ _ _ _ H
theorem c_R_isOneRow_0 {l : Launch} {f : Nat} {l1 : Int} {M : oM} {K : Int × oM → Prop} (H : okp (p_R_isOneRow f 7 l1 M) K) : oKf l m_R_isOneRow 4 [vr 7, vi l1] M K := by
  refine oK_intro (lv := [vr 7, vi l1, vu, vu, vu, vu, vu]) (by decide +kernel) (Nat.le_of_ble_eq_true rfl) rfl ?_
  have h4 : ∀ (g : Nat) (l1 l2 l3 : Int) (M : oM), okp (iter (p_R_isOneRow_L4 f 7 l1) g (l2, l3, M)) K → oJ l m_R_isOneRow (oEf 4 K) 0 0 4 [vr 7, vi l1, vi l2, vi l3, vu, vu, vu] [] WD M := by
    intro g l1 l2 l3 M H
    have HL := fun hs => iter_J' (Jh := fun s => oJ l m_R_isOneRow (oEf 4 K) 0 0 4 [vr 7, vi l1, vi s.1, vi s.2.1, vu, vu, vu] [] WD s.2.2) (G := K) hs g (l2, l3, M) H
    refine HL ?_
    intro K4 s i4 e4 H
    obtain ⟨l2, l3, M⟩ := s
    show oJ l m_R_isOneRow (oEf 4 K) 0 0 4 [vr 7, vi l1, vi l2, vi l3, vu, vu, vu] [] WD M
    have h93 : ∀ (l3 s0 s1 : Int) (M : oM), okp (p_R_isOneRow_B93_4 f 7 l1 l3 s0 s1 M) K4 → oJ l m_R_isOneRow (oEf 4 K) 0 0 93 [vr 7, vi l1, vu, vi l3, vu, vu, vu] [vi s1, vi s0] WD M := by
      intro l3 s0 s1 M H
      refine oj_ior (pc := 93) (by decide +kernel) ?_
      refine oj_st2 (pc := 94) (by decide +kernel) (by decide +kernel) ?_
      have H := okp_lt H
      refine oj_inc3 (pc := 95) (d := 1) (by decide +kernel) (by decide +kernel) ?_
      have H := okp_lt H
      refine oj_goto (pc := 98) (off := -94) (tgt := 4) (by decide +kernel) (by decide) ?_
      have H := i4 _ H
      exact H
    have h74 : ∀ (l2 l3 l4 s0 s1 s2 : Int) (M : oM), okp (p_R_isOneRow_B74_4 f 7 l1 l2 l3 l4 s0 s1 s2 M) K4 → oJ l m_R_isOneRow (oEf 4 K) 0 0 74 [vr 7, vi l1, vi l2, vi l3, vi l4, vu, vu] [vi s2, vi s1, vi s0] WD M := by
      intro l2 l3 l4 s0 s1 s2 M H
      refine oj_iadd (pc := 74) (by decide +kernel) ?_
      refine oj_icmp_le (pc := 75) (off := 5) (tgt := 80) (by decide +kernel) (by decide) H (fun _ H => ?_) (fun _ H => ?_)
      · refine oj_ld2 (pc := 80) (by decide +kernel) ?_
        refine oj_ld4 (pc := 81) (by decide +kernel) ?_
        refine oj_if_le (pc := 83) (off := 9) (tgt := 92) (by decide +kernel) (by decide) H (fun _ H => ?_) (fun _ H => ?_)
        · refine oj_iconst (pc := 92) (v := 0) ⟨by decide, by decide⟩ (by decide +kernel) ?_
          refine oj_le (lv' := [_, _, vu, _, vu, vu, vu]) ⟨Or.inr rfl, Or.inr rfl, Or.inl rfl, Or.inr rfl, Or.inl rfl, Or.inr rfl, Or.inr rfl, trivial⟩ ?_
          exact h93 _ _ _ _ H
        · refine oj_iconst (pc := 86) (v := 1) ⟨by decide, by decide⟩ (by decide +kernel) ?_
          refine oj_ld3 (pc := 87) (by decide +kernel) ?_
          refine oj_ishl (pc := 88) (by decide +kernel) ?_
          refine oj_goto (pc := 89) (off := 4) (tgt := 93) (by decide +kernel) (by decide) ?_
          refine oj_le (lv' := [_, _, vu, _, vu, vu, vu]) ⟨Or.inr rfl, Or.inr rfl, Or.inl rfl, Or.inr rfl, Or.inl rfl, Or.inr rfl, Or.inr rfl, trivial⟩ ?_
          exact h93 _ _ _ _ H
      · refine oj_iconst (pc := 78) (v := 0) ⟨by decide, by decide⟩ (by decide +kernel) ?_
        have H := e4 _ H
        exact oj_iret (pc := 79) (by decide +kernel) rfl rfl (Nat.le_refl _) (Nat.le_refl _) ⟨rfl, H⟩
    have x19 : ∀ (l2 l3 l4 l5 : Int) (M : oM), okp (p_R_isOneRow_X19 f 7 l1 l2 l3 (l4, l5, M)) K4 → oJ l m_R_isOneRow (oEf 4 K) 0 0 60 [vr 7, vi l1, vi l2, vi l3, vi l4, vi l5, vu] [] WD M := by
      intro l2 l3 l4 l5 M H
      refine oj_ld4 (pc := 60) (by decide +kernel) ?_
      refine oj_ld5 (pc := 62) (by decide +kernel) ?_
      refine oj_ld3 (pc := 64) (by decide +kernel) ?_
      refine oj_ld1 (pc := 65) (by decide +kernel) ?_
      refine oj_icmp_ne (pc := 66) (off := 7) (tgt := 73) (by decide +kernel) (by decide) H (fun _ H => ?_) (fun _ H => ?_)
      · refine oj_iconst (pc := 73) (v := 0) ⟨by decide, by decide⟩ (by decide +kernel) ?_
        refine oj_le (lv' := [_, _, _, _, _, vu, vu]) ⟨Or.inr rfl, Or.inr rfl, Or.inr rfl, Or.inr rfl, Or.inr rfl, Or.inl rfl, Or.inr rfl, trivial⟩ ?_
        exact h74 _ _ _ _ _ _ _ H
      · refine oj_iconst (pc := 69) (v := 1) ⟨by decide, by decide⟩ (by decide +kernel) ?_
        refine oj_goto (pc := 70) (off := 4) (tgt := 74) (by decide +kernel) (by decide) ?_
        refine oj_le (lv' := [_, _, _, _, _, vu, vu]) ⟨Or.inr rfl, Or.inr rfl, Or.inr rfl, Or.inr rfl, Or.inr rfl, Or.inl rfl, Or.inr rfl, trivial⟩ ?_
        exact h74 _ _ _ _ _ _ _ H
    have h19 : ∀ (g : Nat) (l2 l3 l4 l5 l6 : Int) (M : oM), okp (iter (p_R_isOneRow_L19 f 7 l1 l2 l3) g (l4, l5, l6, M)) (fun r => okp (p_R_isOneRow_X19 f 7 l1 l2 l3 r) K4) → oJ l m_R_isOneRow (oEf 4 K) 0 0 19 [vr 7, vi l1, vi l2, vi l3, vi l4, vi l5, vi l6] [] WD M := by
      intro g l2 l3 l4 l5 l6 M H
      have HL := fun hs => iter_J' (Jh := fun s => oJ l m_R_isOneRow (oEf 4 K) 0 0 19 [vr 7, vi l1, vi l2, vi l3, vi s.1, vi s.2.1, vi s.2.2.1] [] WD s.2.2.2) (G := (fun r => okp (p_R_isOneRow_X19 f 7 l1 l2 l3 r) K4)) hs g (l4, l5, l6, M) H
      refine HL ?_
      intro K19 s i19 e19 H
      obtain ⟨l4, l5, l6, M⟩ := s
      show oJ l m_R_isOneRow (oEf 4 K) 0 0 19 [vr 7, vi l1, vi l2, vi l3, vi l4, vi l5, vi l6] [] WD M
      refine oj_ld6 (pc := 19) (by decide +kernel) ?_
      refine oj_bipush (pc := 21) (v := 10) ⟨by decide, by decide⟩ (by decide +kernel) ?_
      refine oj_icmp_ge (pc := 23) (off := 37) (tgt := 60) (by decide +kernel) (by decide) H (fun _ H => ?_) (fun _ H => ?_)
      · refine oj_le (lv' := [_, _, _, _, _, _, vu]) ⟨Or.inr rfl, Or.inr rfl, Or.inr rfl, Or.inr rfl, Or.inr rfl, Or.inr rfl, Or.inl rfl, trivial⟩ ?_
        have H := e19 _ H
        exact x19 _ _ _ _ _ H
      · refine oj_ld4 (pc := 26) (by decide +kernel) ?_
        refine oj_ald0 (pc := 28) (by decide +kernel) ?_
        refine oj_ld3 (pc := 29) (by decide +kernel) ?_
        refine oj_bipush (pc := 30) (v := 10) ⟨by decide, by decide⟩ (by decide +kernel) ?_
        refine oj_imul (pc := 32) (by decide +kernel) ?_
        refine oj_ld6 (pc := 33) (by decide +kernel) ?_
        refine oj_iadd (pc := 35) (by decide +kernel) ?_
        refine oj_iald (pc := 36) (NN := 100) a_7 rfl (by decide +kernel) H (fun H => ?_)
        refine oj_iadd (pc := 37) (by decide +kernel) ?_
        refine oj_st4 (pc := 38) (by decide +kernel) (by decide +kernel) ?_
        have H := okp_lt H
        refine oj_ld5 (pc := 40) (by decide +kernel) ?_
        refine oj_ald0 (pc := 42) (by decide +kernel) ?_
        refine oj_ld6 (pc := 43) (by decide +kernel) ?_
        refine oj_bipush (pc := 45) (v := 10) ⟨by decide, by decide⟩ (by decide +kernel) ?_
        refine oj_imul (pc := 47) (by decide +kernel) ?_
        refine oj_ld3 (pc := 48) (by decide +kernel) ?_
        refine oj_iadd (pc := 49) (by decide +kernel) ?_
        refine oj_iald (pc := 50) (NN := 100) a_7 rfl (by decide +kernel) H (fun H => ?_)
        refine oj_iadd (pc := 51) (by decide +kernel) ?_
        refine oj_st5 (pc := 52) (by decide +kernel) (by decide +kernel) ?_
        have H := okp_lt H
        refine oj_inc6 (pc := 54) (d := 1) (by decide +kernel) (by decide +kernel) ?_
        have H := okp_lt H
        refine oj_goto (pc := 57) (off := -38) (tgt := 19) (by decide +kernel) (by decide) ?_
        have H := i19 _ H
        exact H
    refine oj_ld3 (pc := 4) (by decide +kernel) ?_
    refine oj_bipush (pc := 5) (v := 10) ⟨by decide, by decide⟩ (by decide +kernel) ?_
    refine oj_icmp_ge (pc := 7) (off := 94) (tgt := 101) (by decide +kernel) (by decide) H (fun _ H => ?_) (fun _ H => ?_)
    · refine oj_ld2 (pc := 101) (by decide +kernel) ?_
      refine oj_ald0 (pc := 102) (by decide +kernel) ?_
      refine oj_ld1 (pc := 103) (by decide +kernel) ?_
      refine of_Si (pc := 104) (as := [_, _]) v_R_38 rfl rfl (Nat.le_of_ble_eq_true rfl) (by decide +kernel) (by decide) rfl (c_R_reachedFrom_0 (okp_bind H)) (fun r M H => ?_)
      refine oj_iconst (pc := 107) (v := -1) ⟨by decide, by decide⟩ (by decide +kernel) ?_
      refine oj_ixor (pc := 108) (by decide +kernel) ?_
      refine oj_iand (pc := 109) (by decide +kernel) ?_
      refine oj_if_ne (pc := 110) (off := 7) (tgt := 117) (by decide +kernel) (by decide) H (fun _ H => ?_) (fun _ H => ?_)
      · refine oj_iconst (pc := 117) (v := 0) ⟨by decide, by decide⟩ (by decide +kernel) ?_
        have H := e4 _ H
        exact oj_iret (pc := 118) (by decide +kernel) rfl rfl (Nat.le_refl _) (Nat.le_refl _) ⟨rfl, H⟩
      · refine oj_iconst (pc := 113) (v := 1) ⟨by decide, by decide⟩ (by decide +kernel) ?_
        refine oj_goto (pc := 114) (off := 4) (tgt := 118) (by decide +kernel) (by decide) ?_
        have H := e4 _ H
        exact oj_iret (pc := 118) (by decide +kernel) rfl rfl (Nat.le_refl _) (Nat.le_refl _) ⟨rfl, H⟩
    · refine oj_iconst (pc := 10) (v := 0) ⟨by decide, by decide⟩ (by decide +kernel) ?_
      refine oj_st4 (pc := 11) (by decide +kernel) (by decide +kernel) ?_
      refine oj_iconst (pc := 13) (v := 0) ⟨by decide, by decide⟩ (by decide +kernel) ?_
      refine oj_st5 (pc := 14) (by decide +kernel) (by decide +kernel) ?_
      refine oj_iconst (pc := 16) (v := 0) ⟨by decide, by decide⟩ (by decide +kernel) ?_
      refine oj_st6 (pc := 17) (by decide +kernel) (by decide +kernel) ?_
      exact h19 _ _ _ _ _ _ _ (okp_bind H)
  refine oj_iconst (pc := 0) (v := 0) ⟨by decide, by decide⟩ (by decide +kernel) ?_
  refine oj_st2 (pc := 1) (by decide +kernel) (by decide +kernel) ?_
  refine oj_iconst (pc := 2) (v := 0) ⟨by decide, by decide⟩ (by decide +kernel) ?_
  refine oj_st3 (pc := 3) (by decide +kernel) (by decide +kernel) ?_
  exact h4 _ _ _ _ _ H
theorem c_R_isOneRow_1 {l : Launch} {f : Nat} {l1 : Int} {M : oM} {K : Int × oM → Prop} (H : okp (p_R_isOneRow f 43 l1 M) K) : oKf l m_R_isOneRow 4 [vr 43, vi l1] M K := by
  refine oK_intro (lv := [vr 43, vi l1, vu, vu, vu, vu, vu]) (by decide +kernel) (Nat.le_of_ble_eq_true rfl) rfl ?_
  have h4 : ∀ (g : Nat) (l1 l2 l3 : Int) (M : oM), okp (iter (p_R_isOneRow_L4 f 43 l1) g (l2, l3, M)) K → oJ l m_R_isOneRow (oEf 4 K) 0 0 4 [vr 43, vi l1, vi l2, vi l3, vu, vu, vu] [] WD M := by
    intro g l1 l2 l3 M H
    have HL := fun hs => iter_J' (Jh := fun s => oJ l m_R_isOneRow (oEf 4 K) 0 0 4 [vr 43, vi l1, vi s.1, vi s.2.1, vu, vu, vu] [] WD s.2.2) (G := K) hs g (l2, l3, M) H
    refine HL ?_
    intro K4 s i4 e4 H
    obtain ⟨l2, l3, M⟩ := s
    show oJ l m_R_isOneRow (oEf 4 K) 0 0 4 [vr 43, vi l1, vi l2, vi l3, vu, vu, vu] [] WD M
    have h93 : ∀ (l3 s0 s1 : Int) (M : oM), okp (p_R_isOneRow_B93_4 f 43 l1 l3 s0 s1 M) K4 → oJ l m_R_isOneRow (oEf 4 K) 0 0 93 [vr 43, vi l1, vu, vi l3, vu, vu, vu] [vi s1, vi s0] WD M := by
      intro l3 s0 s1 M H
      refine oj_ior (pc := 93) (by decide +kernel) ?_
      refine oj_st2 (pc := 94) (by decide +kernel) (by decide +kernel) ?_
      have H := okp_lt H
      refine oj_inc3 (pc := 95) (d := 1) (by decide +kernel) (by decide +kernel) ?_
      have H := okp_lt H
      refine oj_goto (pc := 98) (off := -94) (tgt := 4) (by decide +kernel) (by decide) ?_
      have H := i4 _ H
      exact H
    have h74 : ∀ (l2 l3 l4 s0 s1 s2 : Int) (M : oM), okp (p_R_isOneRow_B74_4 f 43 l1 l2 l3 l4 s0 s1 s2 M) K4 → oJ l m_R_isOneRow (oEf 4 K) 0 0 74 [vr 43, vi l1, vi l2, vi l3, vi l4, vu, vu] [vi s2, vi s1, vi s0] WD M := by
      intro l2 l3 l4 s0 s1 s2 M H
      refine oj_iadd (pc := 74) (by decide +kernel) ?_
      refine oj_icmp_le (pc := 75) (off := 5) (tgt := 80) (by decide +kernel) (by decide) H (fun _ H => ?_) (fun _ H => ?_)
      · refine oj_ld2 (pc := 80) (by decide +kernel) ?_
        refine oj_ld4 (pc := 81) (by decide +kernel) ?_
        refine oj_if_le (pc := 83) (off := 9) (tgt := 92) (by decide +kernel) (by decide) H (fun _ H => ?_) (fun _ H => ?_)
        · refine oj_iconst (pc := 92) (v := 0) ⟨by decide, by decide⟩ (by decide +kernel) ?_
          refine oj_le (lv' := [_, _, vu, _, vu, vu, vu]) ⟨Or.inr rfl, Or.inr rfl, Or.inl rfl, Or.inr rfl, Or.inl rfl, Or.inr rfl, Or.inr rfl, trivial⟩ ?_
          exact h93 _ _ _ _ H
        · refine oj_iconst (pc := 86) (v := 1) ⟨by decide, by decide⟩ (by decide +kernel) ?_
          refine oj_ld3 (pc := 87) (by decide +kernel) ?_
          refine oj_ishl (pc := 88) (by decide +kernel) ?_
          refine oj_goto (pc := 89) (off := 4) (tgt := 93) (by decide +kernel) (by decide) ?_
          refine oj_le (lv' := [_, _, vu, _, vu, vu, vu]) ⟨Or.inr rfl, Or.inr rfl, Or.inl rfl, Or.inr rfl, Or.inl rfl, Or.inr rfl, Or.inr rfl, trivial⟩ ?_
          exact h93 _ _ _ _ H
      · refine oj_iconst (pc := 78) (v := 0) ⟨by decide, by decide⟩ (by decide +kernel) ?_
        have H := e4 _ H
        exact oj_iret (pc := 79) (by decide +kernel) rfl rfl (Nat.le_refl _) (Nat.le_refl _) ⟨rfl, H⟩
    have x19 : ∀ (l2 l3 l4 l5 : Int) (M : oM), okp (p_R_isOneRow_X19 f 43 l1 l2 l3 (l4, l5, M)) K4 → oJ l m_R_isOneRow (oEf 4 K) 0 0 60 [vr 43, vi l1, vi l2, vi l3, vi l4, vi l5, vu] [] WD M := by
      intro l2 l3 l4 l5 M H
      refine oj_ld4 (pc := 60) (by decide +kernel) ?_
      refine oj_ld5 (pc := 62) (by decide +kernel) ?_
      refine oj_ld3 (pc := 64) (by decide +kernel) ?_
      refine oj_ld1 (pc := 65) (by decide +kernel) ?_
      refine oj_icmp_ne (pc := 66) (off := 7) (tgt := 73) (by decide +kernel) (by decide) H (fun _ H => ?_) (fun _ H => ?_)
      · refine oj_iconst (pc := 73) (v := 0) ⟨by decide, by decide⟩ (by decide +kernel) ?_
        refine oj_le (lv' := [_, _, _, _, _, vu, vu]) ⟨Or.inr rfl, Or.inr rfl, Or.inr rfl, Or.inr rfl, Or.inr rfl, Or.inl rfl, Or.inr rfl, trivial⟩ ?_
        exact h74 _ _ _ _ _ _ _ H
      · refine oj_iconst (pc := 69) (v := 1) ⟨by decide, by decide⟩ (by decide +kernel) ?_
        refine oj_goto (pc := 70) (off := 4) (tgt := 74) (by decide +kernel) (by decide) ?_
        refine oj_le (lv' := [_, _, _, _, _, vu, vu]) ⟨Or.inr rfl, Or.inr rfl, Or.inr rfl, Or.inr rfl, Or.inr rfl, Or.inl rfl, Or.inr rfl, trivial⟩ ?_
        exact h74 _ _ _ _ _ _ _ H
    have h19 : ∀ (g : Nat) (l2 l3 l4 l5 l6 : Int) (M : oM), okp (iter (p_R_isOneRow_L19 f 43 l1 l2 l3) g (l4, l5, l6, M)) (fun r => okp (p_R_isOneRow_X19 f 43 l1 l2 l3 r) K4) → oJ l m_R_isOneRow (oEf 4 K) 0 0 19 [vr 43, vi l1, vi l2, vi l3, vi l4, vi l5, vi l6] [] WD M := by
      intro g l2 l3 l4 l5 l6 M H
      have HL := fun hs => iter_J' (Jh := fun s => oJ l m_R_isOneRow (oEf 4 K) 0 0 19 [vr 43, vi l1, vi l2, vi l3, vi s.1, vi s.2.1, vi s.2.2.1] [] WD s.2.2.2) (G := (fun r => okp (p_R_isOneRow_X19 f 43 l1 l2 l3 r) K4)) hs g (l4, l5, l6, M) H
      refine HL ?_
      intro K19 s i19 e19 H
      obtain ⟨l4, l5, l6, M⟩ := s
      show oJ l m_R_isOneRow (oEf 4 K) 0 0 19 [vr 43, vi l1, vi l2, vi l3, vi l4, vi l5, vi l6] [] WD M
      refine oj_ld6 (pc := 19) (by decide +kernel) ?_
      refine oj_bipush (pc := 21) (v := 10) ⟨by decide, by decide⟩ (by decide +kernel) ?_
      refine oj_icmp_ge (pc := 23) (off := 37) (tgt := 60) (by decide +kernel) (by decide) H (fun _ H => ?_) (fun _ H => ?_)
      · refine oj_le (lv' := [_, _, _, _, _, _, vu]) ⟨Or.inr rfl, Or.inr rfl, Or.inr rfl, Or.inr rfl, Or.inr rfl, Or.inr rfl, Or.inl rfl, trivial⟩ ?_
        have H := e19 _ H
        exact x19 _ _ _ _ _ H
      · refine oj_ld4 (pc := 26) (by decide +kernel) ?_
        refine oj_ald0 (pc := 28) (by decide +kernel) ?_
        refine oj_ld3 (pc := 29) (by decide +kernel) ?_
        refine oj_bipush (pc := 30) (v := 10) ⟨by decide, by decide⟩ (by decide +kernel) ?_
        refine oj_imul (pc := 32) (by decide +kernel) ?_
        refine oj_ld6 (pc := 33) (by decide +kernel) ?_
        refine oj_iadd (pc := 35) (by decide +kernel) ?_
        refine oj_iald (pc := 36) (NN := 100) a_43 rfl (by decide +kernel) H (fun H => ?_)
        refine oj_iadd (pc := 37) (by decide +kernel) ?_
        refine oj_st4 (pc := 38) (by decide +kernel) (by decide +kernel) ?_
        have H := okp_lt H
        refine oj_ld5 (pc := 40) (by decide +kernel) ?_
        refine oj_ald0 (pc := 42) (by decide +kernel) ?_
        refine oj_ld6 (pc := 43) (by decide +kernel) ?_
        refine oj_bipush (pc := 45) (v := 10) ⟨by decide, by decide⟩ (by decide +kernel) ?_
        refine oj_imul (pc := 47) (by decide +kernel) ?_
        refine oj_ld3 (pc := 48) (by decide +kernel) ?_
        refine oj_iadd (pc := 49) (by decide +kernel) ?_
        refine oj_iald (pc := 50) (NN := 100) a_43 rfl (by decide +kernel) H (fun H => ?_)
        refine oj_iadd (pc := 51) (by decide +kernel) ?_
        refine oj_st5 (pc := 52) (by decide +kernel) (by decide +kernel) ?_
        have H := okp_lt H
        refine oj_inc6 (pc := 54) (d := 1) (by decide +kernel) (by decide +kernel) ?_
        have H := okp_lt H
        refine oj_goto (pc := 57) (off := -38) (tgt := 19) (by decide +kernel) (by decide) ?_
        have H := i19 _ H
        exact H
    refine oj_ld3 (pc := 4) (by decide +kernel) ?_
    refine oj_bipush (pc := 5) (v := 10) ⟨by decide, by decide⟩ (by decide +kernel) ?_
    refine oj_icmp_ge (pc := 7) (off := 94) (tgt := 101) (by decide +kernel) (by decide) H (fun _ H => ?_) (fun _ H => ?_)
    · refine oj_ld2 (pc := 101) (by decide +kernel) ?_
      refine oj_ald0 (pc := 102) (by decide +kernel) ?_
      refine oj_ld1 (pc := 103) (by decide +kernel) ?_
      refine of_Si (pc := 104) (as := [_, _]) v_R_38 rfl rfl (Nat.le_of_ble_eq_true rfl) (by decide +kernel) (by decide) rfl (c_R_reachedFrom_1 (okp_bind H)) (fun r M H => ?_)
      refine oj_iconst (pc := 107) (v := -1) ⟨by decide, by decide⟩ (by decide +kernel) ?_
      refine oj_ixor (pc := 108) (by decide +kernel) ?_
      refine oj_iand (pc := 109) (by decide +kernel) ?_
      refine oj_if_ne (pc := 110) (off := 7) (tgt := 117) (by decide +kernel) (by decide) H (fun _ H => ?_) (fun _ H => ?_)
      · refine oj_iconst (pc := 117) (v := 0) ⟨by decide, by decide⟩ (by decide +kernel) ?_
        have H := e4 _ H
        exact oj_iret (pc := 118) (by decide +kernel) rfl rfl (Nat.le_refl _) (Nat.le_refl _) ⟨rfl, H⟩
      · refine oj_iconst (pc := 113) (v := 1) ⟨by decide, by decide⟩ (by decide +kernel) ?_
        refine oj_goto (pc := 114) (off := 4) (tgt := 118) (by decide +kernel) (by decide) ?_
        have H := e4 _ H
        exact oj_iret (pc := 118) (by decide +kernel) rfl rfl (Nat.le_refl _) (Nat.le_refl _) ⟨rfl, H⟩
    · refine oj_iconst (pc := 10) (v := 0) ⟨by decide, by decide⟩ (by decide +kernel) ?_
      refine oj_st4 (pc := 11) (by decide +kernel) (by decide +kernel) ?_
      refine oj_iconst (pc := 13) (v := 0) ⟨by decide, by decide⟩ (by decide +kernel) ?_
      refine oj_st5 (pc := 14) (by decide +kernel) (by decide +kernel) ?_
      refine oj_iconst (pc := 16) (v := 0) ⟨by decide, by decide⟩ (by decide +kernel) ?_
      refine oj_st6 (pc := 17) (by decide +kernel) (by decide +kernel) ?_
      exact h19 _ _ _ _ _ _ _ (okp_bind H)
  refine oj_iconst (pc := 0) (v := 0) ⟨by decide, by decide⟩ (by decide +kernel) ?_
  refine oj_st2 (pc := 1) (by decide +kernel) (by decide +kernel) ?_
  refine oj_iconst (pc := 2) (v := 0) ⟨by decide, by decide⟩ (by decide +kernel) ?_
  refine oj_st3 (pc := 3) (by decide +kernel) (by decide +kernel) ?_
  exact h4 _ _ _ _ _ H
theorem c_R_isOneRow_2 {l : Launch} {f : Nat} {l1 : Int} {M : oM} {K : Int × oM → Prop} (H : okp (p_R_isOneRow f 44 l1 M) K) : oKf l m_R_isOneRow 4 [vr 44, vi l1] M K := by
  refine oK_intro (lv := [vr 44, vi l1, vu, vu, vu, vu, vu]) (by decide +kernel) (Nat.le_of_ble_eq_true rfl) rfl ?_
  have h4 : ∀ (g : Nat) (l1 l2 l3 : Int) (M : oM), okp (iter (p_R_isOneRow_L4 f 44 l1) g (l2, l3, M)) K → oJ l m_R_isOneRow (oEf 4 K) 0 0 4 [vr 44, vi l1, vi l2, vi l3, vu, vu, vu] [] WD M := by
    intro g l1 l2 l3 M H
    have HL := fun hs => iter_J' (Jh := fun s => oJ l m_R_isOneRow (oEf 4 K) 0 0 4 [vr 44, vi l1, vi s.1, vi s.2.1, vu, vu, vu] [] WD s.2.2) (G := K) hs g (l2, l3, M) H
    refine HL ?_
    intro K4 s i4 e4 H
    obtain ⟨l2, l3, M⟩ := s
    show oJ l m_R_isOneRow (oEf 4 K) 0 0 4 [vr 44, vi l1, vi l2, vi l3, vu, vu, vu] [] WD M
    have h93 : ∀ (l3 s0 s1 : Int) (M : oM), okp (p_R_isOneRow_B93_4 f 44 l1 l3 s0 s1 M) K4 → oJ l m_R_isOneRow (oEf 4 K) 0 0 93 [vr 44, vi l1, vu, vi l3, vu, vu, vu] [vi s1, vi s0] WD M := by
      intro l3 s0 s1 M H
      refine oj_ior (pc := 93) (by decide +kernel) ?_
      refine oj_st2 (pc := 94) (by decide +kernel) (by decide +kernel) ?_
      have H := okp_lt H
      refine oj_inc3 (pc := 95) (d := 1) (by decide +kernel) (by decide +kernel) ?_
      have H := okp_lt H
      refine oj_goto (pc := 98) (off := -94) (tgt := 4) (by decide +kernel) (by decide) ?_
      have H := i4 _ H
      exact H
    have h74 : ∀ (l2 l3 l4 s0 s1 s2 : Int) (M : oM), okp (p_R_isOneRow_B74_4 f 44 l1 l2 l3 l4 s0 s1 s2 M) K4 → oJ l m_R_isOneRow (oEf 4 K) 0 0 74 [vr 44, vi l1, vi l2, vi l3, vi l4, vu, vu] [vi s2, vi s1, vi s0] WD M := by
      intro l2 l3 l4 s0 s1 s2 M H
      refine oj_iadd (pc := 74) (by decide +kernel) ?_
      refine oj_icmp_le (pc := 75) (off := 5) (tgt := 80) (by decide +kernel) (by decide) H (fun _ H => ?_) (fun _ H => ?_)
      · refine oj_ld2 (pc := 80) (by decide +kernel) ?_
        refine oj_ld4 (pc := 81) (by decide +kernel) ?_
        refine oj_if_le (pc := 83) (off := 9) (tgt := 92) (by decide +kernel) (by decide) H (fun _ H => ?_) (fun _ H => ?_)
        · refine oj_iconst (pc := 92) (v := 0) ⟨by decide, by decide⟩ (by decide +kernel) ?_
          refine oj_le (lv' := [_, _, vu, _, vu, vu, vu]) ⟨Or.inr rfl, Or.inr rfl, Or.inl rfl, Or.inr rfl, Or.inl rfl, Or.inr rfl, Or.inr rfl, trivial⟩ ?_
          exact h93 _ _ _ _ H
        · refine oj_iconst (pc := 86) (v := 1) ⟨by decide, by decide⟩ (by decide +kernel) ?_
          refine oj_ld3 (pc := 87) (by decide +kernel) ?_
          refine oj_ishl (pc := 88) (by decide +kernel) ?_
          refine oj_goto (pc := 89) (off := 4) (tgt := 93) (by decide +kernel) (by decide) ?_
          refine oj_le (lv' := [_, _, vu, _, vu, vu, vu]) ⟨Or.inr rfl, Or.inr rfl, Or.inl rfl, Or.inr rfl, Or.inl rfl, Or.inr rfl, Or.inr rfl, trivial⟩ ?_
          exact h93 _ _ _ _ H
      · refine oj_iconst (pc := 78) (v := 0) ⟨by decide, by decide⟩ (by decide +kernel) ?_
        have H := e4 _ H
        exact oj_iret (pc := 79) (by decide +kernel) rfl rfl (Nat.le_refl _) (Nat.le_refl _) ⟨rfl, H⟩
    have x19 : ∀ (l2 l3 l4 l5 : Int) (M : oM), okp (p_R_isOneRow_X19 f 44 l1 l2 l3 (l4, l5, M)) K4 → oJ l m_R_isOneRow (oEf 4 K) 0 0 60 [vr 44, vi l1, vi l2, vi l3, vi l4, vi l5, vu] [] WD M := by
      intro l2 l3 l4 l5 M H
      refine oj_ld4 (pc := 60) (by decide +kernel) ?_
      refine oj_ld5 (pc := 62) (by decide +kernel) ?_
      refine oj_ld3 (pc := 64) (by decide +kernel) ?_
      refine oj_ld1 (pc := 65) (by decide +kernel) ?_
      refine oj_icmp_ne (pc := 66) (off := 7) (tgt := 73) (by decide +kernel) (by decide) H (fun _ H => ?_) (fun _ H => ?_)
      · refine oj_iconst (pc := 73) (v := 0) ⟨by decide, by decide⟩ (by decide +kernel) ?_
        refine oj_le (lv' := [_, _, _, _, _, vu, vu]) ⟨Or.inr rfl, Or.inr rfl, Or.inr rfl, Or.inr rfl, Or.inr rfl, Or.inl rfl, Or.inr rfl, trivial⟩ ?_
        exact h74 _ _ _ _ _ _ _ H
      · refine oj_iconst (pc := 69) (v := 1) ⟨by decide, by decide⟩ (by decide +kernel) ?_
        refine oj_goto (pc := 70) (off := 4) (tgt := 74) (by decide +kernel) (by decide) ?_
        refine oj_le (lv' := [_, _, _, _, _, vu, vu]) ⟨Or.inr rfl, Or.inr rfl, Or.inr rfl, Or.inr rfl, Or.inr rfl, Or.inl rfl, Or.inr rfl, trivial⟩ ?_
        exact h74 _ _ _ _ _ _ _ H
    have h19 : ∀ (g : Nat) (l2 l3 l4 l5 l6 : Int) (M : oM), okp (iter (p_R_isOneRow_L19 f 44 l1 l2 l3) g (l4, l5, l6, M)) (fun r => okp (p_R_isOneRow_X19 f 44 l1 l2 l3 r) K4) → oJ l m_R_isOneRow (oEf 4 K) 0 0 19 [vr 44, vi l1, vi l2, vi l3, vi l4, vi l5, vi l6] [] WD M := by
      intro g l2 l3 l4 l5 l6 M H
      have HL := fun hs => iter_J' (Jh := fun s => oJ l m_R_isOneRow (oEf 4 K) 0 0 19 [vr 44, vi l1, vi l2, vi l3, vi s.1, vi s.2.1, vi s.2.2.1] [] WD s.2.2.2) (G := (fun r => okp (p_R_isOneRow_X19 f 44 l1 l2 l3 r) K4)) hs g (l4, l5, l6, M) H
      refine HL ?_
      intro K19 s i19 e19 H
      obtain ⟨l4, l5, l6, M⟩ := s
      show oJ l m_R_isOneRow (oEf 4 K) 0 0 19 [vr 44, vi l1, vi l2, vi l3, vi l4, vi l5, vi l6] [] WD M
      refine oj_ld6 (pc := 19) (by decide +kernel) ?_
      refine oj_bipush (pc := 21) (v := 10) ⟨by decide, by decide⟩ (by decide +kernel) ?_
      refine oj_icmp_ge (pc := 23) (off := 37) (tgt := 60) (by decide +kernel) (by decide) H (fun _ H => ?_) (fun _ H => ?_)
      · refine oj_le (lv' := [_, _, _, _, _, _, vu]) ⟨Or.inr rfl, Or.inr rfl, Or.inr rfl, Or.inr rfl, Or.inr rfl, Or.inr rfl, Or.inl rfl, trivial⟩ ?_
        have H := e19 _ H
        exact x19 _ _ _ _ _ H
      · refine oj_ld4 (pc := 26) (by decide +kernel) ?_
        refine oj_ald0 (pc := 28) (by decide +kernel) ?_
        refine oj_ld3 (pc := 29) (by decide +kernel) ?_
        refine oj_bipush (pc := 30) (v := 10) ⟨by decide, by decide⟩ (by decide +kernel) ?_
        refine oj_imul (pc := 32) (by decide +kernel) ?_
        refine oj_ld6 (pc := 33) (by decide +kernel) ?_
        refine oj_iadd (pc := 35) (by decide +kernel) ?_
        refine oj_iald (pc := 36) (NN := 100) a_44 rfl (by decide +kernel) H (fun H => ?_)
        refine oj_iadd (pc := 37) (by decide +kernel) ?_
        refine oj_st4 (pc := 38) (by decide +kernel) (by decide +kernel) ?_
        have H := okp_lt H
        refine oj_ld5 (pc := 40) (by decide +kernel) ?_
        refine oj_ald0 (pc := 42) (by decide +kernel) ?_
        refine oj_ld6 (pc := 43) (by decide +kernel) ?_
        refine oj_bipush (pc := 45) (v := 10) ⟨by decide, by decide⟩ (by decide +kernel) ?_
        refine oj_imul (pc := 47) (by decide +kernel) ?_
        refine oj_ld3 (pc := 48) (by decide +kernel) ?_
        refine oj_iadd (pc := 49) (by decide +kernel) ?_
        refine oj_iald (pc := 50) (NN := 100) a_44 rfl (by decide +kernel) H (fun H => ?_)
        refine oj_iadd (pc := 51) (by decide +kernel) ?_
        refine oj_st5 (pc := 52) (by decide +kernel) (by decide +kernel) ?_
        have H := okp_lt H
        refine oj_inc6 (pc := 54) (d := 1) (by decide +kernel) (by decide +kernel) ?_
        have H := okp_lt H
        refine oj_goto (pc := 57) (off := -38) (tgt := 19) (by decide +kernel) (by decide) ?_
        have H := i19 _ H
        exact H
    refine oj_ld3 (pc := 4) (by decide +kernel) ?_
    refine oj_bipush (pc := 5) (v := 10) ⟨by decide, by decide⟩ (by decide +kernel) ?_
    refine oj_icmp_ge (pc := 7) (off := 94) (tgt := 101) (by decide +kernel) (by decide) H (fun _ H => ?_) (fun _ H => ?_)
    · refine oj_ld2 (pc := 101) (by decide +kernel) ?_
      refine oj_ald0 (pc := 102) (by decide +kernel) ?_
      refine oj_ld1 (pc := 103) (by decide +kernel) ?_
      refine of_Si (pc := 104) (as := [_, _]) v_R_38 rfl rfl (Nat.le_of_ble_eq_true rfl) (by decide +kernel) (by decide) rfl (c_R_reachedFrom_2 (okp_bind H)) (fun r M H => ?_)
      refine oj_iconst (pc := 107) (v := -1) ⟨by decide, by decide⟩ (by decide +kernel) ?_
      refine oj_ixor (pc := 108) (by decide +kernel) ?_
      refine oj_iand (pc := 109) (by decide +kernel) ?_
      refine oj_if_ne (pc := 110) (off := 7) (tgt := 117) (by decide +kernel) (by decide) H (fun _ H => ?_) (fun _ H => ?_)
      · refine oj_iconst (pc := 117) (v := 0) ⟨by decide, by decide⟩ (by decide +kernel) ?_
        have H := e4 _ H
        exact oj_iret (pc := 118) (by decide +kernel) rfl rfl (Nat.le_refl _) (Nat.le_refl _) ⟨rfl, H⟩
      · refine oj_iconst (pc := 113) (v := 1) ⟨by decide, by decide⟩ (by decide +kernel) ?_
        refine oj_goto (pc := 114) (off := 4) (tgt := 118) (by decide +kernel) (by decide) ?_
        have H := e4 _ H
        exact oj_iret (pc := 118) (by decide +kernel) rfl rfl (Nat.le_refl _) (Nat.le_refl _) ⟨rfl, H⟩
    · refine oj_iconst (pc := 10) (v := 0) ⟨by decide, by decide⟩ (by decide +kernel) ?_
      refine oj_st4 (pc := 11) (by decide +kernel) (by decide +kernel) ?_
      refine oj_iconst (pc := 13) (v := 0) ⟨by decide, by decide⟩ (by decide +kernel) ?_
      refine oj_st5 (pc := 14) (by decide +kernel) (by decide +kernel) ?_
      refine oj_iconst (pc := 16) (v := 0) ⟨by decide, by decide⟩ (by decide +kernel) ?_
      refine oj_st6 (pc := 17) (by decide +kernel) (by decide +kernel) ?_
      exact h19 _ _ _ _ _ _ _ (okp_bind H)
  refine oj_iconst (pc := 0) (v := 0) ⟨by decide, by decide⟩ (by decide +kernel) ?_
  refine oj_st2 (pc := 1) (by decide +kernel) (by decide +kernel) ?_
  refine oj_iconst (pc := 2) (v := 0) ⟨by decide, by decide⟩ (by decide +kernel) ?_
  refine oj_st3 (pc := 3) (by decide +kernel) (by decide +kernel) ?_
  exact h4 _ _ _ _ _ H
