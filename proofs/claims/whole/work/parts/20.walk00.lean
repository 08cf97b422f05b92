/-! walks (by program) -/
theorem c_O_isOne_0 {l : Launch} {f : Nat} {l0 : Int} {M : oM} {K : Int × oM → Prop} (H : okp (p_O_isOne f l0 M) K) : oKf l m_O_isOne 2 [vi l0] M K := by
  refine oK_intro (lv := [vi l0]) (by decide +kernel) (Nat.le_of_ble_eq_true rfl) rfl ?_
  refine oj_ld0 (pc := 0) (by decide +kernel) ?_
  refine oj_if_lt (pc := 1) (off := 13) (tgt := 14) (by decide +kernel) (by decide) H (fun _ H => ?_) (fun _ H => ?_)
  · refine oj_iconst (pc := 14) (v := 0) ⟨by decide, by decide⟩ (by decide +kernel) ?_
    exact oj_iret (pc := 15) (by decide +kernel) rfl rfl (Nat.le_refl _) (Nat.le_refl _) ⟨rfl, H⟩
  · refine oj_ld0 (pc := 4) (by decide +kernel) ?_
    refine oj_bipush (pc := 5) (v := 10) ⟨by decide, by decide⟩ (by decide +kernel) ?_
    refine oj_icmp_ge (pc := 7) (off := 7) (tgt := 14) (by decide +kernel) (by decide) H (fun _ H => ?_) (fun _ H => ?_)
    · refine oj_iconst (pc := 14) (v := 0) ⟨by decide, by decide⟩ (by decide +kernel) ?_
      exact oj_iret (pc := 15) (by decide +kernel) rfl rfl (Nat.le_refl _) (Nat.le_refl _) ⟨rfl, H⟩
    · refine oj_iconst (pc := 10) (v := 1) ⟨by decide, by decide⟩ (by decide +kernel) ?_
      refine oj_goto (pc := 11) (off := 4) (tgt := 15) (by decide +kernel) (by decide) ?_
      exact oj_iret (pc := 15) (by decide +kernel) rfl rfl (Nat.le_refl _) (Nat.le_refl _) ⟨rfl, H⟩
theorem c_P_settle_0 {l : Launch} {f : Nat} {l1 l2 l3 : Int} {M : oM} {K : Int × oM → Prop} (H : okp (p_P_settle f l1 l2 l3 M) K) : oKf l m_P_settle 2 [vr 3, vi l1, vi l2, vi l3] M K := by
  refine oK_intro (lv := [vr 3, vi l1, vi l2, vi l3]) (by decide +kernel) (Nat.le_of_ble_eq_true rfl) rfl ?_
  refine oj_ald0 (pc := 0) (by decide +kernel) ?_
  refine oj_getR' (pc := 1) f_P_9 s_3_0 (by decide +kernel) ?_
  refine oj_ld1 (pc := 4) (by decide +kernel) ?_
  refine oj_ld2 (pc := 5) (by decide +kernel) ?_
  refine oj_iast (pc := 6) (NN := 10) a_4 rfl (by decide +kernel) H (fun H => ?_)
  have H := okp_lt H
  refine oj_ald0 (pc := 7) (by decide +kernel) ?_
  refine oj_getR' (pc := 8) f_P_15 s_3_1 (by decide +kernel) ?_
  refine oj_ld1 (pc := 11) (by decide +kernel) ?_
  refine oj_ld3 (pc := 12) (by decide +kernel) ?_
  refine oj_iast (pc := 13) (NN := 10) a_5 rfl (by decide +kernel) H (fun H => ?_)
  have H := okp_lt H
  refine oj_ald0 (pc := 14) (by decide +kernel) ?_
  refine oj_dup (pc := 15) (by decide +kernel) ?_
  refine oj_getI' (pc := 16) (ki := 2) f_P_18 s_3_2 rfl (by decide +kernel) ?_
  refine oj_iconst (pc := 19) (v := 1) ⟨by decide, by decide⟩ (by decide +kernel) ?_
  refine oj_ld1 (pc := 20) (by decide +kernel) ?_
  refine oj_ishl (pc := 21) (by decide +kernel) ?_
  refine oj_ior (pc := 22) (by decide +kernel) ?_
  refine oj_putI' (pc := 23) (ki := 2) f_P_18 s_3_2 rfl (by decide +kernel) ?_
  have H := okp_lt H
  exact oj_vret (pc := 26) (by decide +kernel) rfl (Nat.le_refl _) (Nat.le_refl _) ⟨rfl, H⟩
theorem c_O_person_0 {l : Launch} {f : Nat} {l1 l2 l3 : Int} {M : oM} {K : Int × oM → Prop} (H : okp (p_O_person f l1 l2 l3 M) K) : oKf l m_O_person 3 [vr 0, vi l1, vi l2, vi l3] M K := by
  refine oK_intro (lv := [vr 0, vi l1, vi l2, vi l3]) (by decide +kernel) (Nat.le_of_ble_eq_true rfl) rfl ?_
  refine oj_ld1 (pc := 0) (by decide +kernel) ?_
  refine of_Si (pc := 1) (as := [_]) v_O_98 rfl rfl (Nat.le_of_ble_eq_true rfl) (by decide +kernel) (by decide) rfl (c_O_isOne_0 (okp_bind H)) (fun r M H => ?_)
  refine oj_if_eq (pc := 4) (off := 23) (tgt := 27) (by decide +kernel) (by decide) H (fun _ H => ?_) (fun _ H => ?_)
  · refine oj_iconst (pc := 27) (v := 0) ⟨by decide, by decide⟩ (by decide +kernel) ?_
    exact oj_iret (pc := 28) (by decide +kernel) rfl rfl (Nat.le_refl _) (Nat.le_refl _) ⟨rfl, H⟩
  · refine oj_ld2 (pc := 7) (by decide +kernel) ?_
    refine oj_if_lt (pc := 8) (off := 19) (tgt := 27) (by decide +kernel) (by decide) H (fun _ H => ?_) (fun _ H => ?_)
    · refine oj_iconst (pc := 27) (v := 0) ⟨by decide, by decide⟩ (by decide +kernel) ?_
      exact oj_iret (pc := 28) (by decide +kernel) rfl rfl (Nat.le_refl _) (Nat.le_refl _) ⟨rfl, H⟩
    · refine oj_ld2 (pc := 11) (by decide +kernel) ?_
      refine oj_bipush (pc := 12) (v := 10) ⟨by decide, by decide⟩ (by decide +kernel) ?_
      refine oj_icmp_ge (pc := 14) (off := 13) (tgt := 27) (by decide +kernel) (by decide) H (fun _ H => ?_) (fun _ H => ?_)
      · refine oj_iconst (pc := 27) (v := 0) ⟨by decide, by decide⟩ (by decide +kernel) ?_
        exact oj_iret (pc := 28) (by decide +kernel) rfl rfl (Nat.le_refl _) (Nat.le_refl _) ⟨rfl, H⟩
      · refine oj_ld3 (pc := 17) (by decide +kernel) ?_
        refine oj_if_lt (pc := 18) (off := 9) (tgt := 27) (by decide +kernel) (by decide) H (fun _ H => ?_) (fun _ H => ?_)
        · refine oj_iconst (pc := 27) (v := 0) ⟨by decide, by decide⟩ (by decide +kernel) ?_
          exact oj_iret (pc := 28) (by decide +kernel) rfl rfl (Nat.le_refl _) (Nat.le_refl _) ⟨rfl, H⟩
        · refine oj_ld3 (pc := 21) (by decide +kernel) ?_
          refine oj_bipush (pc := 22) (v := 10) ⟨by decide, by decide⟩ (by decide +kernel) ?_
          refine oj_icmp_lt (pc := 24) (off := 5) (tgt := 29) (by decide +kernel) (by decide) H (fun _ H => ?_) (fun _ H => ?_)
          · refine oj_ald0 (pc := 29) (by decide +kernel) ?_
            refine oj_getR' (pc := 30) f_O_19 s_0_1 (by decide +kernel) ?_
            refine oj_ld1 (pc := 33) (by decide +kernel) ?_
            refine oj_ld2 (pc := 34) (by decide +kernel) ?_
            refine oj_ld3 (pc := 35) (by decide +kernel) ?_
            refine of_Vv (pc := 36) (as := [_, _, _]) v_O_102 o_3 rfl rfl (Nat.le_of_ble_eq_true rfl) (by decide +kernel) (by decide) rfl (c_P_settle_0 (okp_bind H)) (fun M H => ?_)
            refine oj_iconst (pc := 39) (v := 1) ⟨by decide, by decide⟩ (by decide +kernel) ?_
            exact oj_iret (pc := 40) (by decide +kernel) rfl rfl (Nat.le_refl _) (Nat.le_refl _) ⟨rfl, H⟩
          · refine oj_iconst (pc := 27) (v := 0) ⟨by decide, by decide⟩ (by decide +kernel) ?_
            exact oj_iret (pc := 28) (by decide +kernel) rfl rfl (Nat.le_refl _) (Nat.le_refl _) ⟨rfl, H⟩
theorem c_P_has_0 {l : Launch} {f : Nat} {l1 : Int} {M : oM} {K : Int × oM → Prop} (H : okp (p_P_has f l1 M) K) : oKf l m_P_has 3 [vr 3, vi l1] M K := by
  refine oK_intro (lv := [vr 3, vi l1]) (by decide +kernel) (Nat.le_of_ble_eq_true rfl) rfl ?_
  refine oj_ld1 (pc := 0) (by decide +kernel) ?_
  refine of_Si (pc := 1) (as := [_]) v_P_22 rfl rfl (Nat.le_of_ble_eq_true rfl) (by decide +kernel) (by decide) rfl (c_O_isOne_0 (okp_bind H)) (fun r M H => ?_)
  refine oj_if_eq (pc := 4) (off := 19) (tgt := 23) (by decide +kernel) (by decide) H (fun _ H => ?_) (fun _ H => ?_)
  · refine oj_iconst (pc := 23) (v := 0) ⟨by decide, by decide⟩ (by decide +kernel) ?_
    exact oj_iret (pc := 24) (by decide +kernel) rfl rfl (Nat.le_refl _) (Nat.le_refl _) ⟨rfl, H⟩
  · refine oj_ald0 (pc := 7) (by decide +kernel) ?_
    refine oj_getI' (pc := 8) (ki := 2) f_P_18 s_3_2 rfl (by decide +kernel) ?_
    refine oj_ld1 (pc := 11) (by decide +kernel) ?_
    refine oj_ishr (pc := 12) (by decide +kernel) ?_
    refine oj_iconst (pc := 13) (v := 1) ⟨by decide, by decide⟩ (by decide +kernel) ?_
    refine oj_iand (pc := 14) (by decide +kernel) ?_
    refine oj_iconst (pc := 15) (v := 1) ⟨by decide, by decide⟩ (by decide +kernel) ?_
    refine oj_icmp_ne (pc := 16) (off := 7) (tgt := 23) (by decide +kernel) (by decide) H (fun _ H => ?_) (fun _ H => ?_)
    · refine oj_iconst (pc := 23) (v := 0) ⟨by decide, by decide⟩ (by decide +kernel) ?_
      exact oj_iret (pc := 24) (by decide +kernel) rfl rfl (Nat.le_refl _) (Nat.le_refl _) ⟨rfl, H⟩
    · refine oj_iconst (pc := 19) (v := 1) ⟨by decide, by decide⟩ (by decide +kernel) ?_
      refine oj_goto (pc := 20) (off := 4) (tgt := 24) (by decide +kernel) (by decide) ?_
      exact oj_iret (pc := 24) (by decide +kernel) rfl rfl (Nat.le_refl _) (Nat.le_refl _) ⟨rfl, H⟩
theorem c_P_hasBoth_0 {l : Launch} {f : Nat} {l1 l2 : Int} {M : oM} {K : Int × oM → Prop} (H : okp (p_P_hasBoth f l1 l2 M) K) : oKf l m_P_hasBoth 4 [vr 3, vi l1, vi l2] M K := by
  refine oK_intro (lv := [vr 3, vi l1, vi l2]) (by decide +kernel) (Nat.le_of_ble_eq_true rfl) rfl ?_
  refine oj_ld1 (pc := 0) (by decide +kernel) ?_
  refine oj_ld2 (pc := 1) (by decide +kernel) ?_
  refine oj_icmp_eq (pc := 2) (off := 23) (tgt := 25) (by decide +kernel) (by decide) H (fun _ H => ?_) (fun _ H => ?_)
  · refine oj_iconst (pc := 25) (v := 0) ⟨by decide, by decide⟩ (by decide +kernel) ?_
    exact oj_iret (pc := 26) (by decide +kernel) rfl rfl (Nat.le_refl _) (Nat.le_refl _) ⟨rfl, H⟩
  · refine oj_ald0 (pc := 5) (by decide +kernel) ?_
    refine oj_ld1 (pc := 6) (by decide +kernel) ?_
    refine of_Vi (pc := 7) (as := [_]) v_P_26 o_3 rfl rfl (Nat.le_of_ble_eq_true rfl) (by decide +kernel) (by decide) rfl (c_P_has_0 (okp_bind H)) (fun r M H => ?_)
    refine oj_if_eq (pc := 10) (off := 15) (tgt := 25) (by decide +kernel) (by decide) H (fun _ H => ?_) (fun _ H => ?_)
    · refine oj_iconst (pc := 25) (v := 0) ⟨by decide, by decide⟩ (by decide +kernel) ?_
      exact oj_iret (pc := 26) (by decide +kernel) rfl rfl (Nat.le_refl _) (Nat.le_refl _) ⟨rfl, H⟩
    · refine oj_ald0 (pc := 13) (by decide +kernel) ?_
      refine oj_ld2 (pc := 14) (by decide +kernel) ?_
      refine of_Vi (pc := 15) (as := [_]) v_P_26 o_3 rfl rfl (Nat.le_of_ble_eq_true rfl) (by decide +kernel) (by decide) rfl (c_P_has_0 (okp_bind H)) (fun r M H => ?_)
      refine oj_if_eq (pc := 18) (off := 7) (tgt := 25) (by decide +kernel) (by decide) H (fun _ H => ?_) (fun _ H => ?_)
      · refine oj_iconst (pc := 25) (v := 0) ⟨by decide, by decide⟩ (by decide +kernel) ?_
        exact oj_iret (pc := 26) (by decide +kernel) rfl rfl (Nat.le_refl _) (Nat.le_refl _) ⟨rfl, H⟩
      · refine oj_iconst (pc := 21) (v := 1) ⟨by decide, by decide⟩ (by decide +kernel) ?_
        refine oj_goto (pc := 22) (off := 4) (tgt := 26) (by decide +kernel) (by decide) ?_
        exact oj_iret (pc := 26) (by decide +kernel) rfl rfl (Nat.le_refl _) (Nat.le_refl _) ⟨rfl, H⟩
theorem c_O_debt_0 {l : Launch} {f : Nat} {l1 l2 l3 : Int} {M : oM} {K : Int × oM → Prop} (H : okp (p_O_debt f l1 l2 l3 M) K) : oKf l m_O_debt 5 [vr 0, vi l1, vi l2, vi l3] M K := by
  refine oK_intro (lv := [vr 0, vi l1, vi l2, vi l3]) (by decide +kernel) (Nat.le_of_ble_eq_true rfl) rfl ?_
  refine oj_ald0 (pc := 0) (by decide +kernel) ?_
  refine oj_getR' (pc := 1) f_O_19 s_0_1 (by decide +kernel) ?_
  refine oj_ld1 (pc := 4) (by decide +kernel) ?_
  refine oj_ld2 (pc := 5) (by decide +kernel) ?_
  refine of_Vi (pc := 6) (as := [_, _]) v_O_106 o_3 rfl rfl (Nat.le_of_ble_eq_true rfl) (by decide +kernel) (by decide) rfl (c_P_hasBoth_0 (okp_bind H)) (fun r M H => ?_)
  refine oj_if_eq (pc := 9) (off := 13) (tgt := 22) (by decide +kernel) (by decide) H (fun _ H => ?_) (fun _ H => ?_)
  · refine oj_iconst (pc := 22) (v := 0) ⟨by decide, by decide⟩ (by decide +kernel) ?_
    exact oj_iret (pc := 23) (by decide +kernel) rfl rfl (Nat.le_refl _) (Nat.le_refl _) ⟨rfl, H⟩
  · refine oj_ld3 (pc := 12) (by decide +kernel) ?_
    refine oj_if_lt (pc := 13) (off := 9) (tgt := 22) (by decide +kernel) (by decide) H (fun _ H => ?_) (fun _ H => ?_)
    · refine oj_iconst (pc := 22) (v := 0) ⟨by decide, by decide⟩ (by decide +kernel) ?_
      exact oj_iret (pc := 23) (by decide +kernel) rfl rfl (Nat.le_refl _) (Nat.le_refl _) ⟨rfl, H⟩
    · refine oj_ld3 (pc := 16) (by decide +kernel) ?_
      refine oj_bipush (pc := 17) (v := 99) ⟨by decide, by decide⟩ (by decide +kernel) ?_
      refine oj_icmp_le (pc := 19) (off := 5) (tgt := 24) (by decide +kernel) (by decide) H (fun _ H => ?_) (fun _ H => ?_)
      · refine oj_ald0 (pc := 24) (by decide +kernel) ?_
        refine oj_getR' (pc := 25) f_O_26 s_0_2 (by decide +kernel) ?_
        refine oj_getR' (pc := 28) f_O_110 s_6_0 (by decide +kernel) ?_
        refine oj_ld1 (pc := 31) (by decide +kernel) ?_
        refine oj_bipush (pc := 32) (v := 10) ⟨by decide, by decide⟩ (by decide +kernel) ?_
        refine oj_imul (pc := 34) (by decide +kernel) ?_
        refine oj_ld2 (pc := 35) (by decide +kernel) ?_
        refine oj_iadd (pc := 36) (by decide +kernel) ?_
        refine oj_ld3 (pc := 37) (by decide +kernel) ?_
        refine oj_iast (pc := 38) (NN := 100) a_7 rfl (by decide +kernel) H (fun H => ?_)
        have H := okp_lt H
        refine oj_iconst (pc := 39) (v := 1) ⟨by decide, by decide⟩ (by decide +kernel) ?_
        exact oj_iret (pc := 40) (by decide +kernel) rfl rfl (Nat.le_refl _) (Nat.le_refl _) ⟨rfl, H⟩
      · refine oj_iconst (pc := 22) (v := 0) ⟨by decide, by decide⟩ (by decide +kernel) ?_
        exact oj_iret (pc := 23) (by decide +kernel) rfl rfl (Nat.le_refl _) (Nat.le_refl _) ⟨rfl, H⟩
theorem c_D_giveTo_0 {l : Launch} {f : Nat} {l1 : Int} {M : oM} {K : Int × oM → Prop} (H : okp (p_D_giveTo f 6 l1 M) K) : oKf l m_D_giveTo 2 [vr 6, vi l1] M K := by
  refine oK_intro (lv := [vr 6, vi l1]) (by decide +kernel) (Nat.le_of_ble_eq_true rfl) rfl ?_
  refine oj_ald0 (pc := 0) (by decide +kernel) ?_
  refine oj_ld1 (pc := 1) (by decide +kernel) ?_
  refine oj_putI' (pc := 2) (ki := 4) f_D_21 s_6_4 rfl (by decide +kernel) ?_
  have H := okp_lt H
  refine oj_ald0 (pc := 5) (by decide +kernel) ?_
  refine oj_iconst (pc := 6) (v := -1) ⟨by decide, by decide⟩ (by decide +kernel) ?_
  refine oj_putI' (pc := 7) (ki := 5) f_D_25 s_6_5 rfl (by decide +kernel) ?_
  have H := okp_lt H
  refine oj_ald0 (pc := 10) (by decide +kernel) ?_
  refine oj_iconst (pc := 11) (v := -1) ⟨by decide, by decide⟩ (by decide +kernel) ?_
  refine oj_putI' (pc := 12) (ki := 6) f_D_28 s_6_6 rfl (by decide +kernel) ?_
  have H := okp_lt H
  refine oj_ald0 (pc := 15) (by decide +kernel) ?_
  refine oj_iconst (pc := 16) (v := 0) ⟨by decide, by decide⟩ (by decide +kernel) ?_
  refine oj_putI' (pc := 17) (ki := 7) f_D_43 s_6_7 rfl (by decide +kernel) ?_
  have H := okp_lt H
  exact oj_vret (pc := 20) (by decide +kernel) rfl (Nat.le_refl _) (Nat.le_refl _) ⟨rfl, H⟩
theorem c_D_giveTo_1 {l : Launch} {f : Nat} {l1 : Int} {M : oM} {K : Int × oM → Prop} (H : okp (p_D_giveTo f 14 l1 M) K) : oKf l m_D_giveTo 2 [vr 14, vi l1] M K := by
  refine oK_intro (lv := [vr 14, vi l1]) (by decide +kernel) (Nat.le_of_ble_eq_true rfl) rfl ?_
  refine oj_ald0 (pc := 0) (by decide +kernel) ?_
  refine oj_ld1 (pc := 1) (by decide +kernel) ?_
  refine oj_putI' (pc := 2) (ki := 4) f_D_21 s_14_4 rfl (by decide +kernel) ?_
  have H := okp_lt H
  refine oj_ald0 (pc := 5) (by decide +kernel) ?_
  refine oj_iconst (pc := 6) (v := -1) ⟨by decide, by decide⟩ (by decide +kernel) ?_
  refine oj_putI' (pc := 7) (ki := 5) f_D_25 s_14_5 rfl (by decide +kernel) ?_
  have H := okp_lt H
  refine oj_ald0 (pc := 10) (by decide +kernel) ?_
  refine oj_iconst (pc := 11) (v := -1) ⟨by decide, by decide⟩ (by decide +kernel) ?_
  refine oj_putI' (pc := 12) (ki := 6) f_D_28 s_14_6 rfl (by decide +kernel) ?_
  have H := okp_lt H
  refine oj_ald0 (pc := 15) (by decide +kernel) ?_
  refine oj_iconst (pc := 16) (v := 0) ⟨by decide, by decide⟩ (by decide +kernel) ?_
  refine oj_putI' (pc := 17) (ki := 7) f_D_43 s_14_7 rfl (by decide +kernel) ?_
  have H := okp_lt H
  exact oj_vret (pc := 20) (by decide +kernel) rfl (Nat.le_refl _) (Nat.le_refl _) ⟨rfl, H⟩
theorem c_O_coin_0 {l : Launch} {f : Nat} {l1 : Int} {M : oM} {K : Int × oM → Prop} (H : okp (p_O_coin f l1 M) K) : oKf l m_O_coin 4 [vr 0, vi l1] M K := by
  refine oK_intro (lv := [vr 0, vi l1]) (by decide +kernel) (Nat.le_of_ble_eq_true rfl) rfl ?_
  refine oj_ald0 (pc := 0) (by decide +kernel) ?_
  refine oj_getR' (pc := 1) f_O_19 s_0_1 (by decide +kernel) ?_
  refine oj_ld1 (pc := 4) (by decide +kernel) ?_
  refine of_Vi (pc := 5) (as := [_]) v_O_114 o_3 rfl rfl (Nat.le_of_ble_eq_true rfl) (by decide +kernel) (by decide) rfl (c_P_has_0 (okp_bind H)) (fun r M H => ?_)
  refine oj_if_ne (pc := 8) (off := 5) (tgt := 13) (by decide +kernel) (by decide) H (fun _ H => ?_) (fun _ H => ?_)
  · refine oj_ald0 (pc := 13) (by decide +kernel) ?_
    refine oj_getR' (pc := 14) f_O_26 s_0_2 (by decide +kernel) ?_
    refine oj_ld1 (pc := 17) (by decide +kernel) ?_
    refine of_Vv (pc := 18) (as := [_]) v_O_117 o_6 rfl rfl (Nat.le_of_ble_eq_true rfl) (by decide +kernel) (by decide) rfl (c_D_giveTo_0 (okp_bind H)) (fun M H => ?_)
    refine oj_iconst (pc := 21) (v := 1) ⟨by decide, by decide⟩ (by decide +kernel) ?_
    exact oj_iret (pc := 22) (by decide +kernel) rfl rfl (Nat.le_refl _) (Nat.le_refl _) ⟨rfl, H⟩
  · refine oj_iconst (pc := 11) (v := 0) ⟨by decide, by decide⟩ (by decide +kernel) ?_
    exact oj_iret (pc := 12) (by decide +kernel) rfl rfl (Nat.le_refl _) (Nat.le_refl _) ⟨rfl, H⟩
theorem c_T_add_0 {l : Launch} {f : Nat} {l1 : Int} {M : oM} {K : Int × oM → Prop} (H : okp (p_T_add f l1 M) K) : oKf l m_T_add 2 [vr 1, vi l1] M K := by
  refine oK_intro (lv := [vr 1, vi l1, vu]) (by decide +kernel) (Nat.le_of_ble_eq_true rfl) rfl ?_
  have h3 : ∀ (g : Nat) (l1 l2 : Int) (M : oM), okp (iter (p_T_add_L3 f l1) g (l2, M)) K → oJ l m_T_add (oEf 2 K) 0 0 3 [vr 1, vi l1, vi l2] [] WD M := by
    intro g l1 l2 M H
    have HL := fun hs => iter_J' (Jh := fun s => oJ l m_T_add (oEf 2 K) 0 0 3 [vr 1, vi l1, vi s.1] [] WD s.2) (G := K) hs g (l2, M) H
    refine HL ?_
    intro K3 s i3 e3 H
    obtain ⟨l2, M⟩ := s
    show oJ l m_T_add (oEf 2 K) 0 0 3 [vr 1, vi l1, vi l2] [] WD M
    refine oj_ld2 (pc := 3) (by decide +kernel) ?_
    refine oj_if_lt (pc := 4) (off := 45) (tgt := 49) (by decide +kernel) (by decide) H (fun _ H => ?_) (fun _ H => ?_)
    · have H := e3 _ H
      exact oj_vret (pc := 49) (by decide +kernel) rfl (Nat.le_refl _) (Nat.le_refl _) ⟨rfl, H⟩
    · refine oj_ald0 (pc := 7) (by decide +kernel) ?_
      refine oj_getI' (pc := 8) (ki := 1) f_T_19 s_1_1 rfl (by decide +kernel) ?_
      refine oj_sipush (pc := 11) (v := 260) ⟨by decide, by decide⟩ (by decide +kernel) ?_
      refine oj_icmp_ge (pc := 14) (off := 35) (tgt := 49) (by decide +kernel) (by decide) H (fun _ H => ?_) (fun _ H => ?_)
      · have H := e3 _ H
        exact oj_vret (pc := 49) (by decide +kernel) rfl (Nat.le_refl _) (Nat.le_refl _) ⟨rfl, H⟩
      · refine oj_ald0 (pc := 17) (by decide +kernel) ?_
        refine oj_getR' (pc := 18) f_T_9 s_1_0 (by decide +kernel) ?_
        refine oj_ald0 (pc := 21) (by decide +kernel) ?_
        refine oj_getI' (pc := 22) (ki := 1) f_T_19 s_1_1 rfl (by decide +kernel) ?_
        refine oj_ld1 (pc := 25) (by decide +kernel) ?_
        refine oj_ld2 (pc := 26) (by decide +kernel) ?_
        refine oj_iushr (pc := 27) (by decide +kernel) ?_
        refine oj_sipush (pc := 28) (v := 255) ⟨by decide, by decide⟩ (by decide +kernel) ?_
        refine oj_iand (pc := 31) (by decide +kernel) ?_
        refine oj_iast (pc := 32) (NN := 260) a_2 rfl (by decide +kernel) H (fun H => ?_)
        have H := okp_lt H
        refine oj_ald0 (pc := 33) (by decide +kernel) ?_
        refine oj_dup (pc := 34) (by decide +kernel) ?_
        refine oj_getI' (pc := 35) (ki := 1) f_T_19 s_1_1 rfl (by decide +kernel) ?_
        refine oj_iconst (pc := 38) (v := 1) ⟨by decide, by decide⟩ (by decide +kernel) ?_
        refine oj_iadd (pc := 39) (by decide +kernel) ?_
        refine oj_putI' (pc := 40) (ki := 1) f_T_19 s_1_1 rfl (by decide +kernel) ?_
        have H := okp_lt H
        refine oj_inc2 (pc := 43) (d := -8) (by decide +kernel) (by decide +kernel) ?_
        have H := okp_lt H
        refine oj_goto (pc := 46) (off := -43) (tgt := 3) (by decide +kernel) (by decide) ?_
        have H := i3 _ H
        exact H
  refine oj_bipush (pc := 0) (v := 24) ⟨by decide, by decide⟩ (by decide +kernel) ?_
  refine oj_st2 (pc := 2) (by decide +kernel) (by decide +kernel) ?_
  exact h3 _ _ _ _ H
theorem c_T_size_0 {l : Launch} {f : Nat} {M : oM} {K : Int × oM → Prop} (H : okp (p_T_size f M) K) : oKf l m_T_size 2 [vr 1] M K := by
  refine oK_intro (lv := [vr 1]) (by decide +kernel) (Nat.le_of_ble_eq_true rfl) rfl ?_
  refine oj_ald0 (pc := 0) (by decide +kernel) ?_
  refine oj_getI' (pc := 1) (ki := 1) f_T_19 s_1_1 rfl (by decide +kernel) ?_
  exact oj_iret (pc := 4) (by decide +kernel) rfl rfl (Nat.le_refl _) (Nat.le_refl _) ⟨rfl, H⟩
theorem c_O_feed_0 {l : Launch} {f : Nat} {l1 l2 l3 l4 l5 : Int} {M : oM} {K : Int × oM → Prop} (H : okp (p_O_feed f l1 l2 l3 l4 l5 M) K) : oKf l m_O_feed 3 [vr 0, vi l1, vi l2, vi l3, vi l4, vi l5] M K := by
  refine oK_intro (lv := [vr 0, vi l1, vi l2, vi l3, vi l4, vi l5]) (by decide +kernel) (Nat.le_of_ble_eq_true rfl) rfl ?_
  refine oj_ald0 (pc := 0) (by decide +kernel) ?_
  refine oj_getR' (pc := 1) f_O_12 s_0_0 (by decide +kernel) ?_
  refine of_Vi (pc := 4) (as := []) v_O_121 o_1 rfl rfl (Nat.le_of_ble_eq_true rfl) (by decide +kernel) (by decide) rfl (c_T_size_0 (okp_bind H)) (fun r M H => ?_)
  refine oj_bipush (pc := 7) (v := 20) ⟨by decide, by decide⟩ (by decide +kernel) ?_
  refine oj_iadd (pc := 9) (by decide +kernel) ?_
  refine oj_sipush (pc := 10) (v := 260) ⟨by decide, by decide⟩ (by decide +kernel) ?_
  refine oj_icmp_le (pc := 13) (off := 5) (tgt := 18) (by decide +kernel) (by decide) H (fun _ H => ?_) (fun _ H => ?_)
  · refine oj_ald0 (pc := 18) (by decide +kernel) ?_
    refine oj_getR' (pc := 19) f_O_12 s_0_0 (by decide +kernel) ?_
    refine oj_ld1 (pc := 22) (by decide +kernel) ?_
    refine of_Vv (pc := 23) (as := [_]) v_O_125 o_1 rfl rfl (Nat.le_of_ble_eq_true rfl) (by decide +kernel) (by decide) rfl (c_T_add_0 (okp_bind H)) (fun M H => ?_)
    refine oj_ald0 (pc := 26) (by decide +kernel) ?_
    refine oj_getR' (pc := 27) f_O_12 s_0_0 (by decide +kernel) ?_
    refine oj_ld2 (pc := 30) (by decide +kernel) ?_
    refine of_Vv (pc := 31) (as := [_]) v_O_125 o_1 rfl rfl (Nat.le_of_ble_eq_true rfl) (by decide +kernel) (by decide) rfl (c_T_add_0 (okp_bind H)) (fun M H => ?_)
    refine oj_ald0 (pc := 34) (by decide +kernel) ?_
    refine oj_getR' (pc := 35) f_O_12 s_0_0 (by decide +kernel) ?_
    refine oj_ld3 (pc := 38) (by decide +kernel) ?_
    refine of_Vv (pc := 39) (as := [_]) v_O_125 o_1 rfl rfl (Nat.le_of_ble_eq_true rfl) (by decide +kernel) (by decide) rfl (c_T_add_0 (okp_bind H)) (fun M H => ?_)
    refine oj_ald0 (pc := 42) (by decide +kernel) ?_
    refine oj_getR' (pc := 43) f_O_12 s_0_0 (by decide +kernel) ?_
    refine oj_ld4 (pc := 46) (by decide +kernel) ?_
    refine of_Vv (pc := 48) (as := [_]) v_O_125 o_1 rfl rfl (Nat.le_of_ble_eq_true rfl) (by decide +kernel) (by decide) rfl (c_T_add_0 (okp_bind H)) (fun M H => ?_)
    refine oj_ald0 (pc := 51) (by decide +kernel) ?_
    refine oj_getR' (pc := 52) f_O_12 s_0_0 (by decide +kernel) ?_
    refine oj_ld5 (pc := 55) (by decide +kernel) ?_
    refine of_Vv (pc := 57) (as := [_]) v_O_125 o_1 rfl rfl (Nat.le_of_ble_eq_true rfl) (by decide +kernel) (by decide) rfl (c_T_add_0 (okp_bind H)) (fun M H => ?_)
    refine oj_ald0 (pc := 60) (by decide +kernel) ?_
    refine oj_getR' (pc := 61) f_O_12 s_0_0 (by decide +kernel) ?_
    refine of_Vi (pc := 64) (as := []) v_O_121 o_1 rfl rfl (Nat.le_of_ble_eq_true rfl) (by decide +kernel) (by decide) rfl (c_T_size_0 (okp_bind H)) (fun r M H => ?_)
    exact oj_iret (pc := 67) (by decide +kernel) rfl rfl (Nat.le_refl _) (Nat.le_refl _) ⟨rfl, H⟩
  · refine oj_iconst (pc := 16) (v := -1) ⟨by decide, by decide⟩ (by decide +kernel) ?_
    exact oj_iret (pc := 17) (by decide +kernel) rfl rfl (Nat.le_refl _) (Nat.le_refl _) ⟨rfl, H⟩
theorem c_L_takeFrom_0 {l : Launch} {f : Nat} {M : oM} {K : Int × oM → Prop} (H : okp (p_L_takeFrom f M) K) : oKf l m_L_takeFrom 2 [vr 18, vr 27] M K := by
  refine oK_intro (lv := [vr 18, vr 27]) (by decide +kernel) (Nat.le_of_ble_eq_true rfl) rfl ?_
  refine oj_ald1 (pc := 0) (by decide +kernel) ?_
  refine oj_getR' (pc := 1) f_L_9 s_27_1 (by decide +kernel) ?_
  refine oj_iconst (pc := 4) (v := 0) ⟨by decide, by decide⟩ (by decide +kernel) ?_
  refine oj_ald0 (pc := 5) (by decide +kernel) ?_
  refine oj_getR' (pc := 6) f_L_9 s_18_1 (by decide +kernel) ?_
  refine oj_iconst (pc := 9) (v := 0) ⟨by decide, by decide⟩ (by decide +kernel) ?_
  refine oj_sipush (pc := 10) (v := 240) ⟨by decide, by decide⟩ (by decide +kernel) ?_
  refine oj_copy (pc := 13) (n0 := 240) (n1 := 240) l_L_40 acn.1 acn.2.1 acn.2.2 a_28 a_19 rfl rfl (Nat.le_of_ble_eq_true rfl) (Nat.le_of_ble_eq_true rfl) (by decide +kernel) H (fun H => ?_)
  have H := okp_lt H
  refine oj_ald1 (pc := 16) (by decide +kernel) ?_
  refine oj_getR' (pc := 17) f_L_15 s_27_2 (by decide +kernel) ?_
  refine oj_iconst (pc := 20) (v := 0) ⟨by decide, by decide⟩ (by decide +kernel) ?_
  refine oj_ald0 (pc := 21) (by decide +kernel) ?_
  refine oj_getR' (pc := 22) f_L_15 s_18_2 (by decide +kernel) ?_
  refine oj_iconst (pc := 25) (v := 0) ⟨by decide, by decide⟩ (by decide +kernel) ?_
  refine oj_sipush (pc := 26) (v := 240) ⟨by decide, by decide⟩ (by decide +kernel) ?_
  refine oj_copy (pc := 29) (n0 := 240) (n1 := 240) l_L_40 acn.1 acn.2.1 acn.2.2 a_29 a_20 rfl rfl (Nat.le_of_ble_eq_true rfl) (Nat.le_of_ble_eq_true rfl) (by decide +kernel) H (fun H => ?_)
  have H := okp_lt H
  refine oj_ald1 (pc := 32) (by decide +kernel) ?_
  refine oj_getR' (pc := 33) f_L_18 s_27_3 (by decide +kernel) ?_
  refine oj_iconst (pc := 36) (v := 0) ⟨by decide, by decide⟩ (by decide +kernel) ?_
  refine oj_ald0 (pc := 37) (by decide +kernel) ?_
  refine oj_getR' (pc := 38) f_L_18 s_18_3 (by decide +kernel) ?_
  refine oj_iconst (pc := 41) (v := 0) ⟨by decide, by decide⟩ (by decide +kernel) ?_
  refine oj_bipush (pc := 42) (v := 16) ⟨by decide, by decide⟩ (by decide +kernel) ?_
  refine oj_copy (pc := 44) (n0 := 16) (n1 := 16) l_L_40 acn.1 acn.2.1 acn.2.2 a_30 a_21 rfl rfl (Nat.le_of_ble_eq_true rfl) (Nat.le_of_ble_eq_true rfl) (by decide +kernel) H (fun H => ?_)
  have H := okp_lt H
  refine oj_ald1 (pc := 47) (by decide +kernel) ?_
  refine oj_getR' (pc := 48) f_L_21 s_27_4 (by decide +kernel) ?_
  refine oj_iconst (pc := 51) (v := 0) ⟨by decide, by decide⟩ (by decide +kernel) ?_
  refine oj_ald0 (pc := 52) (by decide +kernel) ?_
  refine oj_getR' (pc := 53) f_L_21 s_18_4 (by decide +kernel) ?_
  refine oj_iconst (pc := 56) (v := 0) ⟨by decide, by decide⟩ (by decide +kernel) ?_
  refine oj_bipush (pc := 57) (v := 16) ⟨by decide, by decide⟩ (by decide +kernel) ?_
  refine oj_copy (pc := 59) (n0 := 16) (n1 := 16) l_L_40 acn.1 acn.2.1 acn.2.2 a_31 a_22 rfl rfl (Nat.le_of_ble_eq_true rfl) (Nat.le_of_ble_eq_true rfl) (by decide +kernel) H (fun H => ?_)
  have H := okp_lt H
  refine oj_ald1 (pc := 62) (by decide +kernel) ?_
  refine oj_getR' (pc := 63) f_L_24 s_27_5 (by decide +kernel) ?_
  refine oj_iconst (pc := 66) (v := 0) ⟨by decide, by decide⟩ (by decide +kernel) ?_
  refine oj_ald0 (pc := 67) (by decide +kernel) ?_
  refine oj_getR' (pc := 68) f_L_24 s_18_5 (by decide +kernel) ?_
  refine oj_iconst (pc := 71) (v := 0) ⟨by decide, by decide⟩ (by decide +kernel) ?_
  refine oj_bipush (pc := 72) (v := 16) ⟨by decide, by decide⟩ (by decide +kernel) ?_
  refine oj_copy (pc := 74) (n0 := 16) (n1 := 16) l_L_40 acn.1 acn.2.1 acn.2.2 a_32 a_23 rfl rfl (Nat.le_of_ble_eq_true rfl) (Nat.le_of_ble_eq_true rfl) (by decide +kernel) H (fun H => ?_)
  have H := okp_lt H
  refine oj_ald1 (pc := 77) (by decide +kernel) ?_
  refine oj_getR' (pc := 78) f_L_27 s_27_6 (by decide +kernel) ?_
  refine oj_iconst (pc := 81) (v := 0) ⟨by decide, by decide⟩ (by decide +kernel) ?_
  refine oj_ald0 (pc := 82) (by decide +kernel) ?_
  refine oj_getR' (pc := 83) f_L_27 s_18_6 (by decide +kernel) ?_
  refine oj_iconst (pc := 86) (v := 0) ⟨by decide, by decide⟩ (by decide +kernel) ?_
  refine oj_bipush (pc := 87) (v := 16) ⟨by decide, by decide⟩ (by decide +kernel) ?_
  refine oj_copy (pc := 89) (n0 := 16) (n1 := 16) l_L_40 acn.1 acn.2.1 acn.2.2 a_33 a_24 rfl rfl (Nat.le_of_ble_eq_true rfl) (Nat.le_of_ble_eq_true rfl) (by decide +kernel) H (fun H => ?_)
  have H := okp_lt H
  refine oj_ald0 (pc := 92) (by decide +kernel) ?_
  refine oj_ald1 (pc := 93) (by decide +kernel) ?_
  refine oj_getI' (pc := 94) (ki := 9) f_L_46 s_27_9 rfl (by decide +kernel) ?_
  refine oj_putI' (pc := 97) (ki := 9) f_L_46 s_18_9 rfl (by decide +kernel) ?_
  have H := okp_lt H
  refine oj_ald0 (pc := 100) (by decide +kernel) ?_
  refine oj_ald1 (pc := 101) (by decide +kernel) ?_
  refine oj_getI' (pc := 102) (ki := 10) f_L_50 s_27_10 rfl (by decide +kernel) ?_
  refine oj_putI' (pc := 105) (ki := 10) f_L_50 s_18_10 rfl (by decide +kernel) ?_
  have H := okp_lt H
  exact oj_vret (pc := 108) (by decide +kernel) rfl (Nat.le_refl _) (Nat.le_refl _) ⟨rfl, H⟩
theorem c_L_landHere_0 {l : Launch} {f : Nat} {l1 : Int} {M : oM} {K : Int × oM → Prop} (H : okp (p_L_landHere f l1 M) K) : oKf l m_L_landHere 2 [vr 27, vi l1] M K := by
  refine oK_intro (lv := [vr 27, vi l1]) (by decide +kernel) (Nat.le_of_ble_eq_true rfl) rfl ?_
  refine oj_ld1 (pc := 0) (by decide +kernel) ?_
  refine oj_if_lt (pc := 1) (off := 21) (tgt := 22) (by decide +kernel) (by decide) H (fun _ H => ?_) (fun _ H => ?_)
  · exact oj_vret (pc := 22) (by decide +kernel) rfl (Nat.le_refl _) (Nat.le_refl _) ⟨rfl, H⟩
  · refine oj_ld1 (pc := 4) (by decide +kernel) ?_
    refine oj_ald0 (pc := 5) (by decide +kernel) ?_
    refine oj_getI' (pc := 6) (ki := 9) f_L_46 s_27_9 rfl (by decide +kernel) ?_
    refine oj_icmp_ge (pc := 9) (off := 13) (tgt := 22) (by decide +kernel) (by decide) H (fun _ H => ?_) (fun _ H => ?_)
    · exact oj_vret (pc := 22) (by decide +kernel) rfl (Nat.le_refl _) (Nat.le_refl _) ⟨rfl, H⟩
    · refine oj_ald0 (pc := 12) (by decide +kernel) ?_
      refine oj_getR' (pc := 13) f_L_15 s_27_2 (by decide +kernel) ?_
      refine oj_ld1 (pc := 16) (by decide +kernel) ?_
      refine oj_ald0 (pc := 17) (by decide +kernel) ?_
      refine oj_getI' (pc := 18) (ki := 9) f_L_46 s_27_9 rfl (by decide +kernel) ?_
      refine oj_iast (pc := 21) (NN := 240) a_29 rfl (by decide +kernel) H (fun H => ?_)
      have H := okp_lt H
      exact oj_vret (pc := 22) (by decide +kernel) rfl (Nat.le_refl _) (Nat.le_refl _) ⟨rfl, H⟩
theorem c_L_put_0 {l : Launch} {f : Nat} {l1 l2 : Int} {M : oM} {K : Int × oM → Prop} (H : okp (p_L_put f l1 l2 M) K) : oKf l m_L_put 2 [vr 27, vi l1, vi l2] M K := by
  refine oK_intro (lv := [vr 27, vi l1, vi l2]) (by decide +kernel) (Nat.le_of_ble_eq_true rfl) rfl ?_
  refine oj_ald0 (pc := 0) (by decide +kernel) ?_
  refine oj_getI' (pc := 1) (ki := 9) f_L_46 s_27_9 rfl (by decide +kernel) ?_
  refine oj_sipush (pc := 4) (v := 240) ⟨by decide, by decide⟩ (by decide +kernel) ?_
  refine oj_icmp_lt (pc := 7) (off := 5) (tgt := 12) (by decide +kernel) (by decide) H (fun _ H => ?_) (fun _ H => ?_)
  · refine oj_ald0 (pc := 12) (by decide +kernel) ?_
    refine oj_getR' (pc := 13) f_L_9 s_27_1 (by decide +kernel) ?_
    refine oj_ald0 (pc := 16) (by decide +kernel) ?_
    refine oj_getI' (pc := 17) (ki := 9) f_L_46 s_27_9 rfl (by decide +kernel) ?_
    refine oj_ld1 (pc := 20) (by decide +kernel) ?_
    refine oj_iast (pc := 21) (NN := 240) a_28 rfl (by decide +kernel) H (fun H => ?_)
    have H := okp_lt H
    refine oj_ald0 (pc := 22) (by decide +kernel) ?_
    refine oj_getR' (pc := 23) f_L_15 s_27_2 (by decide +kernel) ?_
    refine oj_ald0 (pc := 26) (by decide +kernel) ?_
    refine oj_getI' (pc := 27) (ki := 9) f_L_46 s_27_9 rfl (by decide +kernel) ?_
    refine oj_ld2 (pc := 30) (by decide +kernel) ?_
    refine oj_iast (pc := 31) (NN := 240) a_29 rfl (by decide +kernel) H (fun H => ?_)
    have H := okp_lt H
    refine oj_ald0 (pc := 32) (by decide +kernel) ?_
    refine oj_dup (pc := 33) (by decide +kernel) ?_
    refine oj_getI' (pc := 34) (ki := 9) f_L_46 s_27_9 rfl (by decide +kernel) ?_
    refine oj_iconst (pc := 37) (v := 1) ⟨by decide, by decide⟩ (by decide +kernel) ?_
    refine oj_iadd (pc := 38) (by decide +kernel) ?_
    refine oj_putI' (pc := 39) (ki := 9) f_L_46 s_27_9 rfl (by decide +kernel) ?_
    have H := okp_lt H
    refine oj_ald0 (pc := 42) (by decide +kernel) ?_
    refine oj_getI' (pc := 43) (ki := 9) f_L_46 s_27_9 rfl (by decide +kernel) ?_
    refine oj_iconst (pc := 46) (v := 1) ⟨by decide, by decide⟩ (by decide +kernel) ?_
    refine oj_isub (pc := 47) (by decide +kernel) ?_
    exact oj_iret (pc := 48) (by decide +kernel) rfl rfl (Nat.le_refl _) (Nat.le_refl _) ⟨rfl, H⟩
  · refine oj_iconst (pc := 10) (v := -1) ⟨by decide, by decide⟩ (by decide +kernel) ?_
    exact oj_iret (pc := 11) (by decide +kernel) rfl rfl (Nat.le_refl _) (Nat.le_refl _) ⟨rfl, H⟩
theorem c_T_faultAt_0 {l : Launch} {f : Nat} {l1 l2 : Int} {M : oM} {K : Int × oM → Prop} (H : okp (p_T_faultAt f l1 l2 M) K) : oKf l m_T_faultAt 2 [vr 1, vi l1, vi l2] M K := by
  refine oK_intro (lv := [vr 1, vi l1, vi l2]) (by decide +kernel) (Nat.le_of_ble_eq_true rfl) rfl ?_
  refine oj_sipush (pc := 0) (v := -1000) ⟨by decide, by decide⟩ (by decide +kernel) ?_
  refine oj_ld1 (pc := 3) (by decide +kernel) ?_
  refine oj_imul (pc := 4) (by decide +kernel) ?_
  refine oj_ld2 (pc := 5) (by decide +kernel) ?_
  refine oj_isub (pc := 6) (by decide +kernel) ?_
  exact oj_iret (pc := 7) (by decide +kernel) rfl rfl (Nat.le_refl _) (Nat.le_refl _) ⟨rfl, H⟩
theorem c_T_fault_0 {l : Launch} {f : Nat} {l1 : Int} {M : oM} {K : Int × oM → Prop} (H : okp (p_T_fault f l1 M) K) : oKf l m_T_fault 3 [vr 1, vi l1] M K := by
  refine oK_intro (lv := [vr 1, vi l1]) (by decide +kernel) (Nat.le_of_ble_eq_true rfl) rfl ?_
  refine oj_ald0 (pc := 0) (by decide +kernel) ?_
  refine oj_ld1 (pc := 1) (by decide +kernel) ?_
  refine oj_ald0 (pc := 2) (by decide +kernel) ?_
  refine oj_getI' (pc := 3) (ki := 3) f_T_25 s_1_3 rfl (by decide +kernel) ?_
  refine of_Vi (pc := 6) (as := [_, _]) v_T_35 o_1 rfl rfl (Nat.le_of_ble_eq_true rfl) (by decide +kernel) (by decide) rfl (c_T_faultAt_0 (okp_bind H)) (fun r M H => ?_)
  exact oj_iret (pc := 9) (by decide +kernel) rfl rfl (Nat.le_refl _) (Nat.le_refl _) ⟨rfl, H⟩
theorem c_T_next_0 {l : Launch} {f : Nat} {M : oM} {K : Int × oM → Prop} (H : okp (p_T_next f M) K) : oKf l m_T_next 2 [vr 1] M K := by
  refine oK_intro (lv := [vr 1]) (by decide +kernel) (Nat.le_of_ble_eq_true rfl) rfl ?_
  refine oj_ald0 (pc := 0) (by decide +kernel) ?_
  refine oj_getI' (pc := 1) (ki := 4) f_T_15 s_1_4 rfl (by decide +kernel) ?_
  exact oj_iret (pc := 4) (by decide +kernel) rfl rfl (Nat.le_refl _) (Nat.le_refl _) ⟨rfl, H⟩
theorem c_T_nextIsDigit_0 {l : Launch} {f : Nat} {M : oM} {K : Int × oM → Prop} (H : okp (p_T_nextIsDigit f M) K) : oKf l m_T_nextIsDigit 2 [vr 1] M K := by
  refine oK_intro (lv := [vr 1]) (by decide +kernel) (Nat.le_of_ble_eq_true rfl) rfl ?_
  refine oj_ald0 (pc := 0) (by decide +kernel) ?_
  refine oj_getI' (pc := 1) (ki := 4) f_T_15 s_1_4 rfl (by decide +kernel) ?_
  refine oj_bipush (pc := 4) (v := 48) ⟨by decide, by decide⟩ (by decide +kernel) ?_
  refine oj_icmp_lt (pc := 6) (off := 16) (tgt := 22) (by decide +kernel) (by decide) H (fun _ H => ?_) (fun _ H => ?_)
  · refine oj_iconst (pc := 22) (v := 0) ⟨by decide, by decide⟩ (by decide +kernel) ?_
    exact oj_iret (pc := 23) (by decide +kernel) rfl rfl (Nat.le_refl _) (Nat.le_refl _) ⟨rfl, H⟩
  · refine oj_ald0 (pc := 9) (by decide +kernel) ?_
    refine oj_getI' (pc := 10) (ki := 4) f_T_15 s_1_4 rfl (by decide +kernel) ?_
    refine oj_bipush (pc := 13) (v := 57) ⟨by decide, by decide⟩ (by decide +kernel) ?_
    refine oj_icmp_gt (pc := 15) (off := 7) (tgt := 22) (by decide +kernel) (by decide) H (fun _ H => ?_) (fun _ H => ?_)
    · refine oj_iconst (pc := 22) (v := 0) ⟨by decide, by decide⟩ (by decide +kernel) ?_
      exact oj_iret (pc := 23) (by decide +kernel) rfl rfl (Nat.le_refl _) (Nat.le_refl _) ⟨rfl, H⟩
    · refine oj_iconst (pc := 18) (v := 1) ⟨by decide, by decide⟩ (by decide +kernel) ?_
      refine oj_goto (pc := 19) (off := 4) (tgt := 23) (by decide +kernel) (by decide) ?_
      exact oj_iret (pc := 23) (by decide +kernel) rfl rfl (Nat.le_refl _) (Nat.le_refl _) ⟨rfl, H⟩
theorem c_T_step_0 {l : Launch} {f : Nat} {M : oM} {K : Int × oM → Prop} (H : okp (p_T_step f M) K) : oKf l m_T_step 2 [vr 1] M K := by
  refine oK_intro (lv := [vr 1]) (by decide +kernel) (Nat.le_of_ble_eq_true rfl) rfl ?_
  refine oj_ald0 (pc := 0) (by decide +kernel) ?_
  refine oj_dup (pc := 1) (by decide +kernel) ?_
  refine oj_getI' (pc := 2) (ki := 3) f_T_25 s_1_3 rfl (by decide +kernel) ?_
  refine oj_iconst (pc := 5) (v := 1) ⟨by decide, by decide⟩ (by decide +kernel) ?_
  refine oj_iadd (pc := 6) (by decide +kernel) ?_
  refine oj_putI' (pc := 7) (ki := 3) f_T_25 s_1_3 rfl (by decide +kernel) ?_
  have H := okp_lt H
  refine oj_ald0 (pc := 10) (by decide +kernel) ?_
  refine oj_ald0 (pc := 11) (by decide +kernel) ?_
  refine oj_getI' (pc := 12) (ki := 3) f_T_25 s_1_3 rfl (by decide +kernel) ?_
  refine oj_if_lt (pc := 15) (off := 36) (tgt := 51) (by decide +kernel) (by decide) H (fun _ H => ?_) (fun _ H => ?_)
  · refine oj_iconst (pc := 51) (v := -1) ⟨by decide, by decide⟩ (by decide +kernel) ?_
    refine oj_putI' (pc := 52) (ki := 4) f_T_15 s_1_4 rfl (by decide +kernel) ?_
    have H := okp_lt H
    exact oj_vret (pc := 55) (by decide +kernel) rfl (Nat.le_refl _) (Nat.le_refl _) ⟨rfl, H⟩
  · refine oj_ald0 (pc := 18) (by decide +kernel) ?_
    refine oj_getI' (pc := 19) (ki := 3) f_T_25 s_1_3 rfl (by decide +kernel) ?_
    refine oj_ald0 (pc := 22) (by decide +kernel) ?_
    refine oj_getI' (pc := 23) (ki := 2) f_T_22 s_1_2 rfl (by decide +kernel) ?_
    refine oj_icmp_ge (pc := 26) (off := 25) (tgt := 51) (by decide +kernel) (by decide) H (fun _ H => ?_) (fun _ H => ?_)
    · refine oj_iconst (pc := 51) (v := -1) ⟨by decide, by decide⟩ (by decide +kernel) ?_
      refine oj_putI' (pc := 52) (ki := 4) f_T_15 s_1_4 rfl (by decide +kernel) ?_
      have H := okp_lt H
      exact oj_vret (pc := 55) (by decide +kernel) rfl (Nat.le_refl _) (Nat.le_refl _) ⟨rfl, H⟩
    · refine oj_ald0 (pc := 29) (by decide +kernel) ?_
      refine oj_getI' (pc := 30) (ki := 3) f_T_25 s_1_3 rfl (by decide +kernel) ?_
      refine oj_sipush (pc := 33) (v := 260) ⟨by decide, by decide⟩ (by decide +kernel) ?_
      refine oj_icmp_ge (pc := 36) (off := 15) (tgt := 51) (by decide +kernel) (by decide) H (fun _ H => ?_) (fun _ H => ?_)
      · refine oj_iconst (pc := 51) (v := -1) ⟨by decide, by decide⟩ (by decide +kernel) ?_
        refine oj_putI' (pc := 52) (ki := 4) f_T_15 s_1_4 rfl (by decide +kernel) ?_
        have H := okp_lt H
        exact oj_vret (pc := 55) (by decide +kernel) rfl (Nat.le_refl _) (Nat.le_refl _) ⟨rfl, H⟩
      · refine oj_ald0 (pc := 39) (by decide +kernel) ?_
        refine oj_getR' (pc := 40) f_T_9 s_1_0 (by decide +kernel) ?_
        refine oj_ald0 (pc := 43) (by decide +kernel) ?_
        refine oj_getI' (pc := 44) (ki := 3) f_T_25 s_1_3 rfl (by decide +kernel) ?_
        refine oj_iald (pc := 47) (NN := 260) a_2 rfl (by decide +kernel) H (fun H => ?_)
        refine oj_goto (pc := 48) (off := 4) (tgt := 52) (by decide +kernel) (by decide) ?_
        refine oj_putI' (pc := 52) (ki := 4) f_T_15 s_1_4 rfl (by decide +kernel) ?_
        have H := okp_lt H
        exact oj_vret (pc := 55) (by decide +kernel) rfl (Nat.le_refl _) (Nat.le_refl _) ⟨rfl, H⟩
theorem c_LR_readDigits_0 {l : Launch} {f : Nat} {M : oM} {K : Int × oM → Prop} (H : okp (p_LR_readDigits f M) K) : oKf l m_LR_readDigits 4 [vr 36] M K := by
  refine oK_intro (lv := [vr 36, vu, vu]) (by decide +kernel) (Nat.le_of_ble_eq_true rfl) rfl ?_
  have h4 : ∀ (g : Nat) (l1 l2 : Int) (M : oM), okp (iter (p_LR_readDigits_L4 f) g (l1, l2, M)) K → oJ l m_LR_readDigits (oEf 4 K) 0 0 4 [vr 36, vi l1, vi l2] [] WD M := by
    intro g l1 l2 M H
    have HL := fun hs => iter_J' (Jh := fun s => oJ l m_LR_readDigits (oEf 4 K) 0 0 4 [vr 36, vi s.1, vi s.2.1] [] WD s.2.2) (G := K) hs g (l1, l2, M) H
    refine HL ?_
    intro K4 s i4 e4 H
    obtain ⟨l1, l2, M⟩ := s
    show oJ l m_LR_readDigits (oEf 4 K) 0 0 4 [vr 36, vi l1, vi l2] [] WD M
    have h48 : ∀ (l1 : Int) (M : oM), okp (p_LR_readDigits_B48_4 f l1 M) K4 → oJ l m_LR_readDigits (oEf 4 K) 0 0 48 [vr 36, vi l1, vu] [] WD M := by
      intro l1 M H
      refine oj_ald0 (pc := 48) (by decide +kernel) ?_
      refine oj_getR' (pc := 49) f_LR_9 s_36_0 (by decide +kernel) ?_
      refine of_Vi (pc := 52) (as := []) v_LR_84 o_1 rfl rfl (Nat.le_of_ble_eq_true rfl) (by decide +kernel) (by decide) rfl (c_T_nextIsDigit_0 (okp_bind H)) (fun r M H => ?_)
      refine oj_if_eq (pc := 55) (off := 12) (tgt := 67) (by decide +kernel) (by decide) H (fun _ H => ?_) (fun _ H => ?_)
      · refine oj_ald0 (pc := 67) (by decide +kernel) ?_
        refine oj_getR' (pc := 68) f_LR_15 s_36_1 (by decide +kernel) ?_
        refine oj_bipush (pc := 71) (v := 48) ⟨by decide, by decide⟩ (by decide +kernel) ?_
        refine oj_ld1 (pc := 73) (by decide +kernel) ?_
        refine of_Vi (pc := 74) (as := [_, _]) v_LR_74 o_27 rfl rfl (Nat.le_of_ble_eq_true rfl) (by decide +kernel) (by decide) rfl (c_L_put_0 (okp_bind H)) (fun r M H => ?_)
        refine oj_pop (pc := 77) (by decide +kernel) ?_
        refine oj_iconst (pc := 78) (v := 0) ⟨by decide, by decide⟩ (by decide +kernel) ?_
        have H := e4 _ H
        exact oj_iret (pc := 79) (by decide +kernel) rfl rfl (Nat.le_refl _) (Nat.le_refl _) ⟨rfl, H⟩
      · refine oj_ald0 (pc := 58) (by decide +kernel) ?_
        refine oj_getR' (pc := 59) f_LR_9 s_36_0 (by decide +kernel) ?_
        refine oj_iconst (pc := 62) (v := 2) ⟨by decide, by decide⟩ (by decide +kernel) ?_
        refine of_Vi (pc := 63) (as := [_]) v_LR_42 o_1 rfl rfl (Nat.le_of_ble_eq_true rfl) (by decide +kernel) (by decide) rfl (c_T_fault_0 (okp_bind H)) (fun r M H => ?_)
        have H := e4 _ H
        exact oj_iret (pc := 66) (by decide +kernel) rfl rfl (Nat.le_refl _) (Nat.le_refl _) ⟨rfl, H⟩
    refine oj_ld2 (pc := 4) (by decide +kernel) ?_
    refine oj_iconst (pc := 5) (v := 5) ⟨by decide, by decide⟩ (by decide +kernel) ?_
    refine oj_icmp_ge (pc := 6) (off := 42) (tgt := 48) (by decide +kernel) (by decide) H (fun _ H => ?_) (fun _ H => ?_)
    · refine oj_le (lv' := [_, _, vu]) ⟨Or.inr rfl, Or.inr rfl, Or.inl rfl, trivial⟩ ?_
      exact h48 _ _ H
    · refine oj_ald0 (pc := 9) (by decide +kernel) ?_
      refine oj_getR' (pc := 10) f_LR_9 s_36_0 (by decide +kernel) ?_
      refine of_Vi (pc := 13) (as := []) v_LR_84 o_1 rfl rfl (Nat.le_of_ble_eq_true rfl) (by decide +kernel) (by decide) rfl (c_T_nextIsDigit_0 (okp_bind H)) (fun r M H => ?_)
      refine oj_if_eq (pc := 16) (off := 32) (tgt := 48) (by decide +kernel) (by decide) H (fun _ H => ?_) (fun _ H => ?_)
      · refine oj_le (lv' := [_, _, vu]) ⟨Or.inr rfl, Or.inr rfl, Or.inl rfl, trivial⟩ ?_
        exact h48 _ _ H
      · refine oj_ld1 (pc := 19) (by decide +kernel) ?_
        refine oj_bipush (pc := 20) (v := 10) ⟨by decide, by decide⟩ (by decide +kernel) ?_
        refine oj_imul (pc := 22) (by decide +kernel) ?_
        refine oj_ald0 (pc := 23) (by decide +kernel) ?_
        refine oj_getR' (pc := 24) f_LR_9 s_36_0 (by decide +kernel) ?_
        refine of_Vi (pc := 27) (as := []) v_LR_38 o_1 rfl rfl (Nat.le_of_ble_eq_true rfl) (by decide +kernel) (by decide) rfl (c_T_next_0 (okp_bind H)) (fun r M H => ?_)
        refine oj_iadd (pc := 30) (by decide +kernel) ?_
        refine oj_bipush (pc := 31) (v := 48) ⟨by decide, by decide⟩ (by decide +kernel) ?_
        refine oj_isub (pc := 33) (by decide +kernel) ?_
        refine oj_st1 (pc := 34) (by decide +kernel) (by decide +kernel) ?_
        have H := okp_lt H
        refine oj_ald0 (pc := 35) (by decide +kernel) ?_
        refine oj_getR' (pc := 36) f_LR_9 s_36_0 (by decide +kernel) ?_
        refine of_Vv (pc := 39) (as := []) v_LR_45 o_1 rfl rfl (Nat.le_of_ble_eq_true rfl) (by decide +kernel) (by decide) rfl (c_T_step_0 (okp_bind H)) (fun M H => ?_)
        refine oj_inc2 (pc := 42) (d := 1) (by decide +kernel) (by decide +kernel) ?_
        have H := okp_lt H
        refine oj_goto (pc := 45) (off := -41) (tgt := 4) (by decide +kernel) (by decide) ?_
        have H := i4 _ H
        exact H
  refine oj_iconst (pc := 0) (v := 0) ⟨by decide, by decide⟩ (by decide +kernel) ?_
  refine oj_st1 (pc := 1) (by decide +kernel) (by decide +kernel) ?_
  refine oj_iconst (pc := 2) (v := 0) ⟨by decide, by decide⟩ (by decide +kernel) ?_
  refine oj_st2 (pc := 3) (by decide +kernel) (by decide +kernel) ?_
  exact h4 _ _ _ _ H
theorem c_JS_isLatin1_0 {l : Launch} {f : Nat} {M : oM} {K : Int × oM → Prop} (H : okp (p_JS_isLatin1 f M) K) : oKf l m_JS_isLatin1 2 [vr 1000] M K := by
  refine oK_intro (lv := [vr 1000]) (by decide +kernel) (Nat.le_of_ble_eq_true rfl) rfl ?_
  refine oj_getS (pc := 0) g_JS_38 (by decide +kernel) ?_
  refine oj_if_eq (pc := 3) (off := 14) (tgt := 17) (by decide +kernel) (by decide) H (fun _ H => ?_) (fun _ H => ?_)
  · refine oj_iconst (pc := 17) (v := 0) ⟨by decide, by decide⟩ (by decide +kernel) ?_
    exact oj_iret (pc := 18) (by decide +kernel) rfl rfl (Nat.le_refl _) (Nat.le_refl _) ⟨rfl, H⟩
  · refine oj_ald0 (pc := 6) (by decide +kernel) ?_
    refine oj_getOi (pc := 7) g_JS_15 (by decide +kernel) ?_
    refine oj_if_ne (pc := 10) (off := 7) (tgt := 17) (by decide +kernel) (by decide) H (fun _ H => ?_) (fun _ H => ?_)
    · refine oj_iconst (pc := 17) (v := 0) ⟨by decide, by decide⟩ (by decide +kernel) ?_
      exact oj_iret (pc := 18) (by decide +kernel) rfl rfl (Nat.le_refl _) (Nat.le_refl _) ⟨rfl, H⟩
    · refine oj_iconst (pc := 13) (v := 1) ⟨by decide, by decide⟩ (by decide +kernel) ?_
      refine oj_goto (pc := 14) (off := 4) (tgt := 18) (by decide +kernel) (by decide) ?_
      exact oj_iret (pc := 18) (by decide +kernel) rfl rfl (Nat.le_refl _) (Nat.le_refl _) ⟨rfl, H⟩
theorem c_JS_coder_0 {l : Launch} {f : Nat} {M : oM} {K : Int × oM → Prop} (H : okp (p_JS_coder f M) K) : oKf l m_JS_coder 2 [vr 1000] M K := by
  refine oK_intro (lv := [vr 1000]) (by decide +kernel) (Nat.le_of_ble_eq_true rfl) rfl ?_
  refine oj_getS (pc := 0) g_JS_38 (by decide +kernel) ?_
  refine oj_if_eq (pc := 3) (off := 10) (tgt := 13) (by decide +kernel) (by decide) H (fun _ H => ?_) (fun _ H => ?_)
  · refine oj_iconst (pc := 13) (v := 1) ⟨by decide, by decide⟩ (by decide +kernel) ?_
    exact oj_iret (pc := 14) (by decide +kernel) rfl rfl (Nat.le_refl _) (Nat.le_refl _) ⟨rfl, H⟩
  · refine oj_ald0 (pc := 6) (by decide +kernel) ?_
    refine oj_getOi (pc := 7) g_JS_15 (by decide +kernel) ?_
    refine oj_goto (pc := 10) (off := 4) (tgt := 14) (by decide +kernel) (by decide) ?_
    exact oj_iret (pc := 14) (by decide +kernel) rfl rfl (Nat.le_refl _) (Nat.le_refl _) ⟨rfl, H⟩
theorem c_JS_length_0 {l : Launch} {f : Nat} {M : oM} {K : Int × oM → Prop} (H : okp (p_JS_length f M) K) : oKf l m_JS_length 3 [vr 1000] M K := by
  refine oK_intro (lv := [vr 1000]) (by decide +kernel) (Nat.le_of_ble_eq_true rfl) rfl ?_
  refine oj_ald0 (pc := 0) (by decide +kernel) ?_
  refine oj_getOr (pc := 1) g_JS_9 (by decide +kernel) ?_
  refine oj_alenO (pc := 4) (by decide +kernel) ?_
  refine oj_ald0 (pc := 5) (by decide +kernel) ?_
  refine of_VOi (pc := 6) (as := []) v_JS_335 rfl rfl (Nat.le_of_ble_eq_true rfl) (by decide +kernel) (by decide) rfl (c_JS_coder_0 (okp_bind H)) (fun r M H => ?_)
  refine oj_ishr (pc := 9) (by decide +kernel) ?_
  exact oj_iret (pc := 10) (by decide +kernel) rfl rfl (Nat.le_refl _) (Nat.le_refl _) ⟨rfl, H⟩
theorem c_JL_canEncode_0 {l : Launch} {f : Nat} {l0 : Int} {M : oM} {K : Int × oM → Prop} (H : okp (p_JL_canEncode f l0 M) K) : oKf l m_JL_canEncode 2 [vi l0] M K := by
  refine oK_intro (lv := [vi l0]) (by decide +kernel) (Nat.le_of_ble_eq_true rfl) rfl ?_
  refine oj_ld0 (pc := 0) (by decide +kernel) ?_
  refine oj_if_lt (pc := 1) (off := 14) (tgt := 15) (by decide +kernel) (by decide) H (fun _ H => ?_) (fun _ H => ?_)
  · refine oj_iconst (pc := 15) (v := 0) ⟨by decide, by decide⟩ (by decide +kernel) ?_
    exact oj_iret (pc := 16) (by decide +kernel) rfl rfl (Nat.le_refl _) (Nat.le_refl _) ⟨rfl, H⟩
  · refine oj_ld0 (pc := 4) (by decide +kernel) ?_
    refine oj_sipush (pc := 5) (v := 255) ⟨by decide, by decide⟩ (by decide +kernel) ?_
    refine oj_icmp_gt (pc := 8) (off := 7) (tgt := 15) (by decide +kernel) (by decide) H (fun _ H => ?_) (fun _ H => ?_)
    · refine oj_iconst (pc := 15) (v := 0) ⟨by decide, by decide⟩ (by decide +kernel) ?_
      exact oj_iret (pc := 16) (by decide +kernel) rfl rfl (Nat.le_refl _) (Nat.le_refl _) ⟨rfl, H⟩
    · refine oj_iconst (pc := 11) (v := 1) ⟨by decide, by decide⟩ (by decide +kernel) ?_
      refine oj_goto (pc := 12) (off := 4) (tgt := 16) (by decide +kernel) (by decide) ?_
      exact oj_iret (pc := 16) (by decide +kernel) rfl rfl (Nat.le_refl _) (Nat.le_refl _) ⟨rfl, H⟩
theorem c_JL_indexOfChar_0 {l : Launch} {f : Nat} {l1 l2 l3 : Int} {M : oM} {K : Int × oM → Prop} (H : okp (p_JL_indexOfChar f l1 l2 l3 M) K) : oKf l m_JL_indexOfChar 2 [vr 1001, vi l1, vi l2, vi l3] M K := by
  refine oK_intro (lv := [vr 1001, vi l1, vi l2, vi l3, vu, vu]) (by decide +kernel) (Nat.le_of_ble_eq_true rfl) rfl ?_
  have h7 : ∀ (g : Nat) (l3 l4 l5 : Int) (M : oM), okp (iter (p_JL_indexOfChar_L7 f l3 l4) g (l5, M)) K → oJ l m_JL_indexOfChar (oEf 2 K) 0 0 7 [vr 1001, vu, vu, vi l3, vi l4, vi l5] [] WD M := by
    intro g l3 l4 l5 M H
    have HL := fun hs => iter_J' (Jh := fun s => oJ l m_JL_indexOfChar (oEf 2 K) 0 0 7 [vr 1001, vu, vu, vi l3, vi l4, vi s.1] [] WD s.2) (G := K) hs g (l5, M) H
    refine HL ?_
    intro K7 s i7 e7 H
    obtain ⟨l5, M⟩ := s
    show oJ l m_JL_indexOfChar (oEf 2 K) 0 0 7 [vr 1001, vu, vu, vi l3, vi l4, vi l5] [] WD M
    refine oj_ld5 (pc := 7) (by decide +kernel) ?_
    refine oj_ld3 (pc := 9) (by decide +kernel) ?_
    refine oj_icmp_ge (pc := 10) (off := 21) (tgt := 31) (by decide +kernel) (by decide) H (fun _ H => ?_) (fun _ H => ?_)
    · refine oj_iconst (pc := 31) (v := -1) ⟨by decide, by decide⟩ (by decide +kernel) ?_
      have H := e7 _ H
      exact oj_iret (pc := 32) (by decide +kernel) rfl rfl (Nat.le_refl _) (Nat.le_refl _) ⟨rfl, H⟩
    · refine oj_ald0 (pc := 13) (by decide +kernel) ?_
      refine oj_ld5 (pc := 14) (by decide +kernel) ?_
      refine oj_baldO' (pc := 16) (by decide +kernel) H (fun H => ?_)
      refine oj_ld4 (pc := 17) (by decide +kernel) ?_
      refine oj_icmp_ne (pc := 19) (off := 6) (tgt := 25) (by decide +kernel) (by decide) H (fun _ H => ?_) (fun _ H => ?_)
      · refine oj_inc5 (pc := 25) (d := 1) (by decide +kernel) (by decide +kernel) ?_
        have H := okp_lt H
        refine oj_goto (pc := 28) (off := -21) (tgt := 7) (by decide +kernel) (by decide) ?_
        have H := i7 _ H
        exact H
      · refine oj_ld5 (pc := 22) (by decide +kernel) ?_
        have H := e7 _ H
        exact oj_iret (pc := 24) (by decide +kernel) rfl rfl (Nat.le_refl _) (Nat.le_refl _) ⟨rfl, H⟩
  refine oj_ld1 (pc := 0) (by decide +kernel) ?_
  refine oj_i2b (pc := 1) (by decide +kernel) ?_
  refine oj_st4 (pc := 2) (by decide +kernel) (by decide +kernel) ?_
  have H := okp_lt H
  refine oj_ld2 (pc := 4) (by decide +kernel) ?_
  refine oj_st5 (pc := 5) (by decide +kernel) (by decide +kernel) ?_
  refine oj_le (lv' := [_, vu, vu, _, _, _]) ⟨Or.inr rfl, Or.inl rfl, Or.inl rfl, Or.inr rfl, Or.inr rfl, Or.inr rfl, trivial⟩ ?_
  exact h7 _ _ _ _ _ H
theorem c_JL_indexOf_0 {l : Launch} {f : Nat} {l1 l2 l3 : Int} {M : oM} {K : Int × oM → Prop} (H : okp (p_JL_indexOf f l1 l2 l3 M) K) : oKf l m_JL_indexOf 3 [vr 1001, vi l1, vi l2, vi l3] M K := by
  refine oK_intro (lv := [vr 1001, vi l1, vi l2, vi l3]) (by decide +kernel) (Nat.le_of_ble_eq_true rfl) rfl ?_
  refine oj_ld1 (pc := 0) (by decide +kernel) ?_
  refine of_Si (pc := 1) (as := [_]) v_JL_88 rfl rfl (Nat.le_of_ble_eq_true rfl) (by decide +kernel) (by decide) rfl (c_JL_canEncode_0 (okp_bind H)) (fun r M H => ?_)
  refine oj_if_ne (pc := 4) (off := 5) (tgt := 9) (by decide +kernel) (by decide) H (fun _ H => ?_) (fun _ H => ?_)
  · refine oj_ld2 (pc := 9) (by decide +kernel) ?_
    refine oj_iconst (pc := 10) (v := 0) ⟨by decide, by decide⟩ (by decide +kernel) ?_
    refine oj_mmax (pc := 11) q_JL_92 mm_max (Nat.le_of_ble_eq_true rfl) (Nat.le_of_ble_eq_true rfl) (Nat.zero_le _) (Nat.zero_le _) (by decide +kernel) ?_
    refine oj_st2 (pc := 14) (by decide +kernel) (by decide +kernel) ?_
    have H := okp_lt H
    refine oj_ld3 (pc := 15) (by decide +kernel) ?_
    refine oj_ald0 (pc := 16) (by decide +kernel) ?_
    refine oj_alenO (pc := 17) (by decide +kernel) ?_
    refine oj_mmin (pc := 18) q_JL_38 mm_min (Nat.le_of_ble_eq_true rfl) (Nat.le_of_ble_eq_true rfl) (Nat.zero_le _) (Nat.zero_le _) (by decide +kernel) ?_
    refine oj_st3 (pc := 21) (by decide +kernel) (by decide +kernel) ?_
    have H := okp_lt H
    refine oj_ld2 (pc := 22) (by decide +kernel) ?_
    refine oj_ld3 (pc := 23) (by decide +kernel) ?_
    refine oj_icmp_lt (pc := 24) (off := 5) (tgt := 29) (by decide +kernel) (by decide) H (fun _ H => ?_) (fun _ H => ?_)
    · refine oj_ald0 (pc := 29) (by decide +kernel) ?_
      refine oj_ld1 (pc := 30) (by decide +kernel) ?_
      refine oj_ld2 (pc := 31) (by decide +kernel) ?_
      refine oj_ld3 (pc := 32) (by decide +kernel) ?_
      refine of_Si (pc := 33) (as := [_, _, _, _]) v_JL_95 rfl rfl (Nat.le_of_ble_eq_true rfl) (by decide +kernel) (by decide) rfl (c_JL_indexOfChar_0 (okp_bind H)) (fun r M H => ?_)
      exact oj_iret (pc := 36) (by decide +kernel) rfl rfl (Nat.le_refl _) (Nat.le_refl _) ⟨rfl, H⟩
    · refine oj_iconst (pc := 27) (v := -1) ⟨by decide, by decide⟩ (by decide +kernel) ?_
      exact oj_iret (pc := 28) (by decide +kernel) rfl rfl (Nat.le_refl _) (Nat.le_refl _) ⟨rfl, H⟩
  · refine oj_iconst (pc := 7) (v := -1) ⟨by decide, by decide⟩ (by decide +kernel) ?_
    exact oj_iret (pc := 8) (by decide +kernel) rfl rfl (Nat.le_refl _) (Nat.le_refl _) ⟨rfl, H⟩
theorem c_JS_indexOf2_0 {l : Launch} {f : Nat} {l1 l2 : Int} {M : oM} {K : Int × oM → Prop} (H : okp (p_JS_indexOf2 f l1 l2 M) K) : oKf l m_JS_indexOf2 4 [vr 1000, vi l1, vi l2] M K := by
  refine oK_intro (lv := [vr 1000, vi l1, vi l2]) (by decide +kernel) (Nat.le_of_ble_eq_true rfl) rfl ?_
  refine oj_ald0 (pc := 0) (by decide +kernel) ?_
  refine of_VOi (pc := 1) (as := []) v_JS_492 rfl rfl (Nat.le_of_ble_eq_true rfl) (by decide +kernel) (by decide) rfl (c_JS_isLatin1_0 (okp_bind H)) (fun r M H => ?_)
  refine oj_if_eq (pc := 4) (off := 19) (tgt := 23) (by decide +kernel) (by decide) H (fun _ H => ?_) (fun _ H => ?_)
  · exact (show False from H).elim
  · refine oj_ald0 (pc := 7) (by decide +kernel) ?_
    refine oj_getOr (pc := 8) g_JS_9 (by decide +kernel) ?_
    refine oj_ld1 (pc := 11) (by decide +kernel) ?_
    refine oj_ld2 (pc := 12) (by decide +kernel) ?_
    refine oj_ald0 (pc := 13) (by decide +kernel) ?_
    refine of_VOi (pc := 14) (as := []) v_JS_505 rfl rfl (Nat.le_of_ble_eq_true rfl) (by decide +kernel) (by decide) rfl (c_JS_length_0 (okp_bind H)) (fun r M H => ?_)
    refine of_Si (pc := 17) (as := [_, _, _, _]) v_JS_637 rfl rfl (Nat.le_of_ble_eq_true rfl) (by decide +kernel) (by decide) rfl (c_JL_indexOf_0 (okp_bind H)) (fun r M H => ?_)
    refine oj_goto (pc := 20) (off := 16) (tgt := 36) (by decide +kernel) (by decide) ?_
    exact oj_iret (pc := 36) (by decide +kernel) rfl rfl (Nat.le_refl _) (Nat.le_refl _) ⟨rfl, H⟩
theorem c_JS_indexOf_0 {l : Launch} {f : Nat} {l1 : Int} {M : oM} {K : Int × oM → Prop} (H : okp (p_JS_indexOf f l1 M) K) : oKf l m_JS_indexOf 5 [vr 1000, vi l1] M K := by
  refine oK_intro (lv := [vr 1000, vi l1]) (by decide +kernel) (Nat.le_of_ble_eq_true rfl) rfl ?_
  refine oj_ald0 (pc := 0) (by decide +kernel) ?_
  refine oj_ld1 (pc := 1) (by decide +kernel) ?_
  refine oj_iconst (pc := 2) (v := 0) ⟨by decide, by decide⟩ (by decide +kernel) ?_
  refine of_VOi (pc := 3) (as := [_, _]) v_JS_633 rfl rfl (Nat.le_of_ble_eq_true rfl) (by decide +kernel) (by decide) rfl (c_JS_indexOf2_0 (okp_bind H)) (fun r M H => ?_)
  exact oj_iret (pc := 6) (by decide +kernel) rfl rfl (Nat.le_refl _) (Nat.le_refl _) ⟨rfl, H⟩
theorem c_LR_readFactor_0 {l : Launch} {f d0 : Nat} {rec : Int → oM → Option (Int × oM)} {l1 : Int} {M : oM} {K : Int × oM → Prop} (hrec : ∀ (a1 : Int) (M : oM) (K : Int × oM → Prop), okp (rec a1 M) K → oKf l m_LR_readNumber d0 [vr 36, vi a1] M K) (hb : 5 ≤ d0) (H : okp (p_LR_readFactor_F f rec l1 M) K) : oKf l m_LR_readFactor (d0 + 1) [vr 36, vi l1] M K := by
  refine oK_intro (lv := [vr 36, vi l1, vu, vu]) (by decide +kernel) (Nat.le_of_ble_eq_true rfl) rfl ?_
  have h111 : ∀ (s0 : Int) (M : oM), okp (p_LR_readFactor_B111 f rec s0 M) K → oJ l m_LR_readFactor (oEf (d0 + 1) K) 0 0 111 [vr 36, vu, vu, vu] [vi s0] WD M := by
    intro s0 M H
    refine oj_st3 (pc := 111) (by decide +kernel) (by decide +kernel) ?_
    refine oj_ld3 (pc := 112) (by decide +kernel) ?_
    refine oj_if_ge (pc := 113) (off := 12) (tgt := 125) (by decide +kernel) (by decide) H (fun _ H => ?_) (fun _ H => ?_)
    · refine oj_ald0 (pc := 125) (by decide +kernel) ?_
      refine oj_getR' (pc := 126) f_LR_15 s_36_1 (by decide +kernel) ?_
      refine oj_bipush (pc := 129) (v := 97) ⟨by decide, by decide⟩ (by decide +kernel) ?_
      refine oj_ld3 (pc := 131) (by decide +kernel) ?_
      refine of_Vi (pc := 132) (as := [_, _]) v_LR_74 o_27 rfl rfl (Nat.le_of_ble_eq_true rfl) (by decide +kernel) (by omega) rfl (c_L_put_0 (okp_bind H)) (fun r M H => ?_)
      refine oj_pop (pc := 135) (by decide +kernel) ?_
      refine oj_ald0 (pc := 136) (by decide +kernel) ?_
      refine oj_getR' (pc := 137) f_LR_9 s_36_0 (by decide +kernel) ?_
      refine of_Vv (pc := 140) (as := []) v_LR_45 o_1 rfl rfl (Nat.le_of_ble_eq_true rfl) (by decide +kernel) (by omega) rfl (c_T_step_0 (okp_bind H)) (fun M H => ?_)
      refine oj_iconst (pc := 143) (v := 0) ⟨by decide, by decide⟩ (by decide +kernel) ?_
      exact oj_iret (pc := 144) (by decide +kernel) rfl rfl (Nat.le_refl _) (Nat.le_refl _) ⟨rfl, H⟩
    · refine oj_ald0 (pc := 116) (by decide +kernel) ?_
      refine oj_getR' (pc := 117) f_LR_9 s_36_0 (by decide +kernel) ?_
      refine oj_iconst (pc := 120) (v := 1) ⟨by decide, by decide⟩ (by decide +kernel) ?_
      refine of_Vi (pc := 121) (as := [_]) v_LR_42 o_1 rfl rfl (Nat.le_of_ble_eq_true rfl) (by decide +kernel) (by omega) rfl (c_T_fault_0 (okp_bind H)) (fun r M H => ?_)
      exact oj_iret (pc := 124) (by decide +kernel) rfl rfl (Nat.le_refl _) (Nat.le_refl _) ⟨rfl, H⟩
  refine oj_ald0 (pc := 0) (by decide +kernel) ?_
  refine oj_getR' (pc := 1) f_LR_9 s_36_0 (by decide +kernel) ?_
  refine of_Vi (pc := 4) (as := []) v_LR_38 o_1 rfl rfl (Nat.le_of_ble_eq_true rfl) (by decide +kernel) (by omega) rfl (c_T_next_0 (okp_bind H)) (fun r M H => ?_)
  refine oj_st2 (pc := 7) (by decide +kernel) (by decide +kernel) ?_
  refine oj_ld2 (pc := 8) (by decide +kernel) ?_
  refine oj_bipush (pc := 9) (v := 91) ⟨by decide, by decide⟩ (by decide +kernel) ?_
  refine oj_icmp_ne (pc := 11) (off := 69) (tgt := 80) (by decide +kernel) (by decide) H (fun _ H => ?_) (fun _ H => ?_)
  · refine oj_ald0 (pc := 80) (by decide +kernel) ?_
    refine oj_getR' (pc := 81) f_LR_9 s_36_0 (by decide +kernel) ?_
    refine of_Vi (pc := 84) (as := []) v_LR_84 o_1 rfl rfl (Nat.le_of_ble_eq_true rfl) (by decide +kernel) (by omega) rfl (c_T_nextIsDigit_0 (okp_bind H)) (fun r M H => ?_)
    refine oj_if_eq (pc := 87) (off := 8) (tgt := 95) (by decide +kernel) (by decide) H (fun _ H => ?_) (fun _ H => ?_)
    · refine oj_ld2 (pc := 95) (by decide +kernel) ?_
      refine oj_iconst (pc := 96) (v := -1) ⟨by decide, by decide⟩ (by decide +kernel) ?_
      refine oj_icmp_ne (pc := 97) (off := 7) (tgt := 104) (by decide +kernel) (by decide) H (fun _ H => ?_) (fun _ H => ?_)
      · refine oj_ldcS (pc := 104) rfl (by decide +kernel) ?_
        refine oj_ld2 (pc := 106) (by decide +kernel) ?_
        refine oj_i2c (pc := 107) (by decide +kernel) ?_
        refine of_VOi (pc := 108) (as := [_]) v_LR_92 rfl rfl (Nat.le_of_ble_eq_true rfl) (by decide +kernel) (by omega) rfl (c_JS_indexOf_0 (okp_bind H)) (fun r M H => ?_)
        refine oj_le (lv' := [_, vu, vu, vu]) ⟨Or.inr rfl, Or.inl rfl, Or.inl rfl, Or.inr rfl, trivial⟩ ?_
        exact h111 _ _ H
      · refine oj_iconst (pc := 100) (v := -1) ⟨by decide, by decide⟩ (by decide +kernel) ?_
        refine oj_goto (pc := 101) (off := 10) (tgt := 111) (by decide +kernel) (by decide) ?_
        refine oj_le (lv' := [_, vu, vu, vu]) ⟨Or.inr rfl, Or.inl rfl, Or.inl rfl, Or.inr rfl, trivial⟩ ?_
        exact h111 _ _ H
    · refine oj_ald0 (pc := 90) (by decide +kernel) ?_
      refine of_Vi (pc := 91) (as := []) v_LR_87 o_36 rfl rfl (Nat.le_of_ble_eq_true rfl) (by decide +kernel) (by omega) rfl (c_LR_readDigits_0 (okp_bind H)) (fun r M H => ?_)
      exact oj_iret (pc := 94) (by decide +kernel) rfl rfl (Nat.le_refl _) (Nat.le_refl _) ⟨rfl, H⟩
  · refine oj_ld1 (pc := 14) (by decide +kernel) ?_
    refine oj_bipush (pc := 15) (v := 6) ⟨by decide, by decide⟩ (by decide +kernel) ?_
    refine oj_icmp_lt (pc := 17) (off := 12) (tgt := 29) (by decide +kernel) (by decide) H (fun _ H => ?_) (fun _ H => ?_)
    · refine oj_ald0 (pc := 29) (by decide +kernel) ?_
      refine oj_getR' (pc := 30) f_LR_9 s_36_0 (by decide +kernel) ?_
      refine of_Vv (pc := 33) (as := []) v_LR_45 o_1 rfl rfl (Nat.le_of_ble_eq_true rfl) (by decide +kernel) (by omega) rfl (c_T_step_0 (okp_bind H)) (fun M H => ?_)
      refine oj_ald0 (pc := 36) (by decide +kernel) ?_
      refine oj_ld1 (pc := 37) (by decide +kernel) ?_
      refine oj_iconst (pc := 38) (v := 1) ⟨by decide, by decide⟩ (by decide +kernel) ?_
      refine oj_iadd (pc := 39) (by decide +kernel) ?_
      refine of_Vi (pc := 40) (as := [_]) v_LR_55 o_36 rfl rfl (Nat.le_of_ble_eq_true rfl) (by decide +kernel) (by omega) rfl (hrec _ _ _ (okp_bind H)) (fun r M H => ?_)
      refine oj_st3 (pc := 43) (by decide +kernel) (by decide +kernel) ?_
      refine oj_ld3 (pc := 44) (by decide +kernel) ?_
      refine oj_if_eq (pc := 45) (off := 5) (tgt := 50) (by decide +kernel) (by decide) H (fun _ H => ?_) (fun _ H => ?_)
      · refine oj_ald0 (pc := 50) (by decide +kernel) ?_
        refine oj_getR' (pc := 51) f_LR_9 s_36_0 (by decide +kernel) ?_
        refine of_Vi (pc := 54) (as := []) v_LR_38 o_1 rfl rfl (Nat.le_of_ble_eq_true rfl) (by decide +kernel) (by omega) rfl (c_T_next_0 (okp_bind H)) (fun r M H => ?_)
        refine oj_bipush (pc := 57) (v := 93) ⟨by decide, by decide⟩ (by decide +kernel) ?_
        refine oj_icmp_eq (pc := 59) (off := 12) (tgt := 71) (by decide +kernel) (by decide) H (fun _ H => ?_) (fun _ H => ?_)
        · refine oj_ald0 (pc := 71) (by decide +kernel) ?_
          refine oj_getR' (pc := 72) f_LR_9 s_36_0 (by decide +kernel) ?_
          refine of_Vv (pc := 75) (as := []) v_LR_45 o_1 rfl rfl (Nat.le_of_ble_eq_true rfl) (by decide +kernel) (by omega) rfl (c_T_step_0 (okp_bind H)) (fun M H => ?_)
          refine oj_iconst (pc := 78) (v := 0) ⟨by decide, by decide⟩ (by decide +kernel) ?_
          exact oj_iret (pc := 79) (by decide +kernel) rfl rfl (Nat.le_refl _) (Nat.le_refl _) ⟨rfl, H⟩
        · refine oj_ald0 (pc := 62) (by decide +kernel) ?_
          refine oj_getR' (pc := 63) f_LR_9 s_36_0 (by decide +kernel) ?_
          refine oj_iconst (pc := 66) (v := 1) ⟨by decide, by decide⟩ (by decide +kernel) ?_
          refine of_Vi (pc := 67) (as := [_]) v_LR_42 o_1 rfl rfl (Nat.le_of_ble_eq_true rfl) (by decide +kernel) (by omega) rfl (c_T_fault_0 (okp_bind H)) (fun r M H => ?_)
          exact oj_iret (pc := 70) (by decide +kernel) rfl rfl (Nat.le_refl _) (Nat.le_refl _) ⟨rfl, H⟩
      · refine oj_ld3 (pc := 48) (by decide +kernel) ?_
        exact oj_iret (pc := 49) (by decide +kernel) rfl rfl (Nat.le_refl _) (Nat.le_refl _) ⟨rfl, H⟩
    · refine oj_ald0 (pc := 20) (by decide +kernel) ?_
      refine oj_getR' (pc := 21) f_LR_9 s_36_0 (by decide +kernel) ?_
      refine oj_iconst (pc := 24) (v := 5) ⟨by decide, by decide⟩ (by decide +kernel) ?_
      refine of_Vi (pc := 25) (as := [_]) v_LR_42 o_1 rfl rfl (Nat.le_of_ble_eq_true rfl) (by decide +kernel) (by omega) rfl (c_T_fault_0 (okp_bind H)) (fun r M H => ?_)
      exact oj_iret (pc := 28) (by decide +kernel) rfl rfl (Nat.le_refl _) (Nat.le_refl _) ⟨rfl, H⟩
theorem c_LR_readNumber_F_0 {l : Launch} {f d0 : Nat} {rec : Int → oM → Option (Int × oM)} {l1 : Int} {M : oM} {K : Int × oM → Prop} (hrec : ∀ (a1 : Int) (M : oM) (K : Int × oM → Prop), okp (rec a1 M) K → oKf l m_LR_readNumber d0 [vr 36, vi a1] M K) (hb : 5 ≤ d0) (H : okp (p_LR_readNumber_F f rec l1 M) K) : oKf l m_LR_readNumber (d0 + 2) [vr 36, vi l1] M K := by
  refine oK_intro (lv := [vr 36, vi l1, vu, vu, vu, vu, vu]) (by decide +kernel) (Nat.le_of_ble_eq_true rfl) rfl ?_
  have h7 : ∀ (g : Nat) (l1 l2 l3 l4 : Int) (M : oM), okp (iter (p_LR_readNumber_L7 f rec l1) g (l2, l3, l4, M)) K → oJ l m_LR_readNumber (oEf (d0 + 2) K) 0 0 7 [vr 36, vi l1, vi l2, vi l3, vi l4, vu, vu] [] WD M := by
    intro g l1 l2 l3 l4 M H
    have HL := fun hs => iter_J' (Jh := fun s => oJ l m_LR_readNumber (oEf (d0 + 2) K) 0 0 7 [vr 36, vi l1, vi s.1, vi s.2.1, vi s.2.2.1, vu, vu] [] WD s.2.2.2) (G := K) hs g (l2, l3, l4, M) H
    refine HL ?_
    intro K7 s i7 e7 H
    obtain ⟨l2, l3, l4, M⟩ := s
    show oJ l m_LR_readNumber (oEf (d0 + 2) K) 0 0 7 [vr 36, vi l1, vi l2, vi l3, vi l4, vu, vu] [] WD M
    have h117 : ∀ (l2 l3 l4 : Int) (M : oM), okp (p_LR_readNumber_B117_7 f rec l1 l2 l3 l4 M) K7 → oJ l m_LR_readNumber (oEf (d0 + 2) K) 0 0 117 [vr 36, vi l1, vi l2, vi l3, vi l4, vu, vu] [] WD M := by
      intro l2 l3 l4 M H
      refine oj_ald0 (pc := 117) (by decide +kernel) ?_
      refine oj_getR' (pc := 118) f_LR_9 s_36_0 (by decide +kernel) ?_
      refine of_Vv (pc := 121) (as := []) v_LR_45 o_1 rfl rfl (Nat.le_of_ble_eq_true rfl) (by decide +kernel) (by omega) rfl (c_T_step_0 (okp_bind H)) (fun M H => ?_)
      refine oj_inc4 (pc := 124) (d := 1) (by decide +kernel) (by decide +kernel) ?_
      have H := okp_lt H
      refine oj_goto (pc := 127) (off := -120) (tgt := 7) (by decide +kernel) (by decide) ?_
      have H := i7 _ H
      exact H
    have h77 : ∀ (l3 l4 l6 : Int) (M : oM), okp (p_LR_readNumber_B77_7 f rec l1 l3 l4 l6 M) K7 → oJ l m_LR_readNumber (oEf (d0 + 2) K) 0 0 77 [vr 36, vi l1, vu, vi l3, vi l4, vu, vi l6] [] WD M := by
      intro l3 l4 l6 M H
      refine oj_ld6 (pc := 77) (by decide +kernel) ?_
      refine oj_st2 (pc := 79) (by decide +kernel) (by decide +kernel) ?_
      refine oj_goto (pc := 80) (off := 37) (tgt := 117) (by decide +kernel) (by decide) ?_
      refine oj_le (lv' := [_, _, _, _, _, vu, vu]) ⟨Or.inr rfl, Or.inr rfl, Or.inr rfl, Or.inr rfl, Or.inr rfl, Or.inr rfl, Or.inl rfl, trivial⟩ ?_
      exact h117 _ _ _ _ H
    have h114 : ∀ (l2 l4 l6 : Int) (M : oM), okp (p_LR_readNumber_B114_7 f rec l1 l2 l4 l6 M) K7 → oJ l m_LR_readNumber (oEf (d0 + 2) K) 0 0 114 [vr 36, vi l1, vi l2, vu, vi l4, vu, vi l6] [] WD M := by
      intro l2 l4 l6 M H
      refine oj_ld6 (pc := 114) (by decide +kernel) ?_
      refine oj_st3 (pc := 116) (by decide +kernel) (by decide +kernel) ?_
      refine oj_le (lv' := [_, _, _, _, _, vu, vu]) ⟨Or.inr rfl, Or.inr rfl, Or.inr rfl, Or.inr rfl, Or.inr rfl, Or.inr rfl, Or.inl rfl, trivial⟩ ?_
      exact h117 _ _ _ _ H
    have h98 : ∀ (l2 l4 l6 : Int) (M : oM), okp (p_LR_readNumber_B98_7 f rec l1 l2 l4 l6 M) K7 → oJ l m_LR_readNumber (oEf (d0 + 2) K) 0 0 98 [vr 36, vi l1, vi l2, vu, vi l4, vu, vi l6] [] WD M := by
      intro l2 l4 l6 M H
      refine oj_ld6 (pc := 98) (by decide +kernel) ?_
      refine oj_bipush (pc := 100) (v := 43) ⟨by decide, by decide⟩ (by decide +kernel) ?_
      refine oj_icmp_eq (pc := 102) (off := 12) (tgt := 114) (by decide +kernel) (by decide) H (fun _ H => ?_) (fun _ H => ?_)
      · exact h114 _ _ _ _ H
      · refine oj_ld6 (pc := 105) (by decide +kernel) ?_
        refine oj_bipush (pc := 107) (v := 45) ⟨by decide, by decide⟩ (by decide +kernel) ?_
        refine oj_icmp_eq (pc := 109) (off := 5) (tgt := 114) (by decide +kernel) (by decide) H (fun _ H => ?_) (fun _ H => ?_)
        · exact h114 _ _ _ _ H
        · refine oj_iconst (pc := 112) (v := 0) ⟨by decide, by decide⟩ (by decide +kernel) ?_
          have H := e7 _ H
          exact oj_iret (pc := 113) (by decide +kernel) rfl rfl (Nat.le_refl _) (Nat.le_refl _) ⟨rfl, H⟩
    have h47 : ∀ (l2 l3 l4 : Int) (M : oM), okp (p_LR_readNumber_B47_7 f rec l1 l2 l3 l4 M) K7 → oJ l m_LR_readNumber (oEf (d0 + 2) K) 0 0 47 [vr 36, vi l1, vi l2, vi l3, vi l4, vu, vu] [] WD M := by
      intro l2 l3 l4 M H
      refine oj_ald0 (pc := 47) (by decide +kernel) ?_
      refine oj_getR' (pc := 48) f_LR_9 s_36_0 (by decide +kernel) ?_
      refine of_Vi (pc := 51) (as := []) v_LR_38 o_1 rfl rfl (Nat.le_of_ble_eq_true rfl) (by decide +kernel) (by omega) rfl (c_T_next_0 (okp_bind H)) (fun r M H => ?_)
      refine oj_st6 (pc := 54) (by decide +kernel) (by decide +kernel) ?_
      refine oj_ld6 (pc := 56) (by decide +kernel) ?_
      refine oj_bipush (pc := 58) (v := 42) ⟨by decide, by decide⟩ (by decide +kernel) ?_
      refine oj_icmp_eq (pc := 60) (off := 17) (tgt := 77) (by decide +kernel) (by decide) H (fun _ H => ?_) (fun _ H => ?_)
      · refine oj_le (lv' := [_, _, vu, _, _, vu, _]) ⟨Or.inr rfl, Or.inr rfl, Or.inl rfl, Or.inr rfl, Or.inr rfl, Or.inr rfl, Or.inr rfl, trivial⟩ ?_
        exact h77 _ _ _ _ H
      · refine oj_ld6 (pc := 63) (by decide +kernel) ?_
        refine oj_bipush (pc := 65) (v := 47) ⟨by decide, by decide⟩ (by decide +kernel) ?_
        refine oj_icmp_eq (pc := 67) (off := 10) (tgt := 77) (by decide +kernel) (by decide) H (fun _ H => ?_) (fun _ H => ?_)
        · refine oj_le (lv' := [_, _, vu, _, _, vu, _]) ⟨Or.inr rfl, Or.inr rfl, Or.inl rfl, Or.inr rfl, Or.inr rfl, Or.inr rfl, Or.inr rfl, trivial⟩ ?_
          exact h77 _ _ _ _ H
        · refine oj_ld6 (pc := 70) (by decide +kernel) ?_
          refine oj_bipush (pc := 72) (v := 37) ⟨by decide, by decide⟩ (by decide +kernel) ?_
          refine oj_icmp_ne (pc := 74) (off := 9) (tgt := 83) (by decide +kernel) (by decide) H (fun _ H => ?_) (fun _ H => ?_)
          · refine oj_ld3 (pc := 83) (by decide +kernel) ?_
            refine oj_iconst (pc := 84) (v := -1) ⟨by decide, by decide⟩ (by decide +kernel) ?_
            refine oj_icmp_eq (pc := 85) (off := 13) (tgt := 98) (by decide +kernel) (by decide) H (fun _ H => ?_) (fun _ H => ?_)
            · refine oj_le (lv' := [_, _, _, vu, _, vu, _]) ⟨Or.inr rfl, Or.inr rfl, Or.inr rfl, Or.inl rfl, Or.inr rfl, Or.inr rfl, Or.inr rfl, trivial⟩ ?_
              exact h98 _ _ _ _ H
            · refine oj_ald0 (pc := 88) (by decide +kernel) ?_
              refine oj_getR' (pc := 89) f_LR_15 s_36_1 (by decide +kernel) ?_
              refine oj_ld3 (pc := 92) (by decide +kernel) ?_
              refine oj_iconst (pc := 93) (v := 0) ⟨by decide, by decide⟩ (by decide +kernel) ?_
              refine of_Vi (pc := 94) (as := [_, _]) v_LR_74 o_27 rfl rfl (Nat.le_of_ble_eq_true rfl) (by decide +kernel) (by omega) rfl (c_L_put_0 (okp_bind H)) (fun r M H => ?_)
              refine oj_pop (pc := 97) (by decide +kernel) ?_
              refine oj_le (lv' := [_, _, _, vu, _, vu, _]) ⟨Or.inr rfl, Or.inr rfl, Or.inr rfl, Or.inl rfl, Or.inr rfl, Or.inr rfl, Or.inr rfl, trivial⟩ ?_
              exact h98 _ _ _ _ H
          · refine oj_le (lv' := [_, _, vu, _, _, vu, _]) ⟨Or.inr rfl, Or.inr rfl, Or.inl rfl, Or.inr rfl, Or.inr rfl, Or.inr rfl, Or.inr rfl, trivial⟩ ?_
            exact h77 _ _ _ _ H
    refine oj_ld4 (pc := 7) (by decide +kernel) ?_
    refine oj_sipush (pc := 9) (v := 240) ⟨by decide, by decide⟩ (by decide +kernel) ?_
    refine oj_icmp_ge (pc := 12) (off := 118) (tgt := 130) (by decide +kernel) (by decide) H (fun _ H => ?_) (fun _ H => ?_)
    · refine oj_ald0 (pc := 130) (by decide +kernel) ?_
      refine oj_getR' (pc := 131) f_LR_9 s_36_0 (by decide +kernel) ?_
      refine oj_iconst (pc := 134) (v := 1) ⟨by decide, by decide⟩ (by decide +kernel) ?_
      refine of_Vi (pc := 135) (as := [_]) v_LR_42 o_1 rfl rfl (Nat.le_of_ble_eq_true rfl) (by decide +kernel) (by omega) rfl (c_T_fault_0 (okp_bind H)) (fun r M H => ?_)
      have H := e7 _ H
      exact oj_iret (pc := 138) (by decide +kernel) rfl rfl (Nat.le_refl _) (Nat.le_refl _) ⟨rfl, H⟩
    · refine oj_ald0 (pc := 15) (by decide +kernel) ?_
      refine oj_ld1 (pc := 16) (by decide +kernel) ?_
      refine of_Vi (pc := 17) (as := [_]) v_LR_81 o_36 rfl rfl (Nat.le_of_ble_eq_true rfl) (by decide +kernel) (by omega) rfl (c_LR_readFactor_0 hrec hb (okp_bind H)) (fun r M H => ?_)
      refine oj_st5 (pc := 20) (by decide +kernel) (by decide +kernel) ?_
      refine oj_ld5 (pc := 22) (by decide +kernel) ?_
      refine oj_if_eq (pc := 24) (off := 6) (tgt := 30) (by decide +kernel) (by decide) H (fun _ H => ?_) (fun _ H => ?_)
      · refine oj_ld2 (pc := 30) (by decide +kernel) ?_
        refine oj_iconst (pc := 31) (v := -1) ⟨by decide, by decide⟩ (by decide +kernel) ?_
        refine oj_icmp_eq (pc := 32) (off := 15) (tgt := 47) (by decide +kernel) (by decide) H (fun _ H => ?_) (fun _ H => ?_)
        · refine oj_le (lv' := [_, _, _, _, _, vu, vu]) ⟨Or.inr rfl, Or.inr rfl, Or.inr rfl, Or.inr rfl, Or.inr rfl, Or.inl rfl, Or.inr rfl, trivial⟩ ?_
          exact h47 _ _ _ _ H
        · refine oj_ald0 (pc := 35) (by decide +kernel) ?_
          refine oj_getR' (pc := 36) f_LR_15 s_36_1 (by decide +kernel) ?_
          refine oj_ld2 (pc := 39) (by decide +kernel) ?_
          refine oj_iconst (pc := 40) (v := 0) ⟨by decide, by decide⟩ (by decide +kernel) ?_
          refine of_Vi (pc := 41) (as := [_, _]) v_LR_74 o_27 rfl rfl (Nat.le_of_ble_eq_true rfl) (by decide +kernel) (by omega) rfl (c_L_put_0 (okp_bind H)) (fun r M H => ?_)
          refine oj_pop (pc := 44) (by decide +kernel) ?_
          refine oj_iconst (pc := 45) (v := -1) ⟨by decide, by decide⟩ (by decide +kernel) ?_
          refine oj_st2 (pc := 46) (by decide +kernel) (by decide +kernel) ?_
          refine oj_le (lv' := [_, _, _, _, _, vu, vu]) ⟨Or.inr rfl, Or.inr rfl, Or.inr rfl, Or.inr rfl, Or.inr rfl, Or.inl rfl, Or.inr rfl, trivial⟩ ?_
          exact h47 _ _ _ _ H
      · refine oj_ld5 (pc := 27) (by decide +kernel) ?_
        have H := e7 _ H
        exact oj_iret (pc := 29) (by decide +kernel) rfl rfl (Nat.le_refl _) (Nat.le_refl _) ⟨rfl, H⟩
  refine oj_iconst (pc := 0) (v := -1) ⟨by decide, by decide⟩ (by decide +kernel) ?_
  refine oj_st2 (pc := 1) (by decide +kernel) (by decide +kernel) ?_
  refine oj_iconst (pc := 2) (v := -1) ⟨by decide, by decide⟩ (by decide +kernel) ?_
  refine oj_st3 (pc := 3) (by decide +kernel) (by decide +kernel) ?_
  refine oj_iconst (pc := 4) (v := 0) ⟨by decide, by decide⟩ (by decide +kernel) ?_
  refine oj_st4 (pc := 5) (by decide +kernel) (by decide +kernel) ?_
  exact h7 _ _ _ _ _ _ H
theorem c_LR_readNumber_0 {l : Launch} {f : Nat} : ∀ (n : Nat) {l1 : Int} {M : oM} {K : Int × oM → Prop}, okp (p_LR_readNumber f n l1 M) K → oKf l m_LR_readNumber (5 + 2 * n) [vr 36, vi l1] M K := by
  intro n
  induction n with
  | zero => intro l1 M K H; exact (show False from H).elim
  | succ n ih =>
    intro l1 M K H
    rw [show 5 + 2 * (n + 1) = (5 + 2 * n) + 2 from by omega]
    exact c_LR_readNumber_F_0 (rec := p_LR_readNumber f n) (fun _ M K H => ih H) (by omega) H
theorem c_LR_readPlainTest_0 {l : Launch} {f d0 : Nat} {rec : Int → oM → Option (Int × oM)} {l1 : Int} {M : oM} {K : Int × oM → Prop} (hrec : ∀ (a1 : Int) (M : oM) (K : Int × oM → Prop), okp (rec a1 M) K → oKf l m_LR_readCondition d0 [vr 36, vi a1] M K) (hb : 23 ≤ d0) (H : okp (p_LR_readPlainTest_F f rec l1 M) K) : oKf l m_LR_readPlainTest (d0 + 1) [vr 36, vi l1] M K := by
  refine oK_intro (lv := [vr 36, vi l1, vu, vu]) (by decide +kernel) (Nat.le_of_ble_eq_true rfl) rfl ?_
  have h89 : ∀ (l1 l3 : Int) (M : oM), okp (p_LR_readPlainTest_B89 f rec l1 l3 M) K → oJ l m_LR_readPlainTest (oEf (d0 + 1) K) 0 0 89 [vr 36, vi l1, vu, vi l3] [] WD M := by
    intro l1 l3 M H
    refine oj_ald0 (pc := 89) (by decide +kernel) ?_
    refine oj_getR' (pc := 90) f_LR_9 s_36_0 (by decide +kernel) ?_
    refine of_Vv (pc := 93) (as := []) v_LR_45 o_1 rfl rfl (Nat.le_of_ble_eq_true rfl) (by decide +kernel) (by omega) rfl (c_T_step_0 (okp_bind H)) (fun M H => ?_)
    refine oj_ald0 (pc := 96) (by decide +kernel) ?_
    refine oj_ld1 (pc := 97) (by decide +kernel) ?_
    refine of_Vi (pc := 98) (as := [_]) v_LR_55 o_36 rfl rfl (Nat.le_of_ble_eq_true rfl) (by decide +kernel) (by omega) rfl (c_LR_readNumber_0 9 (okp_bind H)) (fun r M H => ?_)
    refine oj_st2 (pc := 101) (by decide +kernel) (by decide +kernel) ?_
    refine oj_ald0 (pc := 102) (by decide +kernel) ?_
    refine oj_getR' (pc := 103) f_LR_15 s_36_1 (by decide +kernel) ?_
    refine oj_ld3 (pc := 106) (by decide +kernel) ?_
    refine oj_iconst (pc := 107) (v := 0) ⟨by decide, by decide⟩ (by decide +kernel) ?_
    refine of_Vi (pc := 108) (as := [_, _]) v_LR_74 o_27 rfl rfl (Nat.le_of_ble_eq_true rfl) (by decide +kernel) (by omega) rfl (c_L_put_0 (okp_bind H)) (fun r M H => ?_)
    refine oj_pop (pc := 111) (by decide +kernel) ?_
    refine oj_ld2 (pc := 112) (by decide +kernel) ?_
    exact oj_iret (pc := 113) (by decide +kernel) rfl rfl (Nat.le_refl _) (Nat.le_refl _) ⟨rfl, H⟩
  refine oj_ald0 (pc := 0) (by decide +kernel) ?_
  refine oj_getR' (pc := 1) f_LR_9 s_36_0 (by decide +kernel) ?_
  refine of_Vi (pc := 4) (as := []) v_LR_38 o_1 rfl rfl (Nat.le_of_ble_eq_true rfl) (by decide +kernel) (by omega) rfl (c_T_next_0 (okp_bind H)) (fun r M H => ?_)
  refine oj_bipush (pc := 7) (v := 40) ⟨by decide, by decide⟩ (by decide +kernel) ?_
  refine oj_icmp_ne (pc := 9) (off := 33) (tgt := 42) (by decide +kernel) (by decide) H (fun _ H => ?_) (fun _ H => ?_)
  · refine oj_ald0 (pc := 42) (by decide +kernel) ?_
    refine oj_ld1 (pc := 43) (by decide +kernel) ?_
    refine of_Vi (pc := 44) (as := [_]) v_LR_55 o_36 rfl rfl (Nat.le_of_ble_eq_true rfl) (by decide +kernel) (by omega) rfl (c_LR_readNumber_0 9 (okp_bind H)) (fun r M H => ?_)
    refine oj_st2 (pc := 47) (by decide +kernel) (by decide +kernel) ?_
    refine oj_ld2 (pc := 48) (by decide +kernel) ?_
    refine oj_if_eq (pc := 49) (off := 5) (tgt := 54) (by decide +kernel) (by decide) H (fun _ H => ?_) (fun _ H => ?_)
    · refine oj_ald0 (pc := 54) (by decide +kernel) ?_
      refine oj_getR' (pc := 55) f_LR_9 s_36_0 (by decide +kernel) ?_
      refine of_Vi (pc := 58) (as := []) v_LR_38 o_1 rfl rfl (Nat.le_of_ble_eq_true rfl) (by decide +kernel) (by omega) rfl (c_T_next_0 (okp_bind H)) (fun r M H => ?_)
      refine oj_st3 (pc := 61) (by decide +kernel) (by decide +kernel) ?_
      refine oj_ld3 (pc := 62) (by decide +kernel) ?_
      refine oj_bipush (pc := 63) (v := 60) ⟨by decide, by decide⟩ (by decide +kernel) ?_
      refine oj_icmp_eq (pc := 65) (off := 24) (tgt := 89) (by decide +kernel) (by decide) H (fun _ H => ?_) (fun _ H => ?_)
      · refine oj_le (lv' := [_, _, vu, _]) ⟨Or.inr rfl, Or.inr rfl, Or.inl rfl, Or.inr rfl, trivial⟩ ?_
        exact h89 _ _ _ H
      · refine oj_ld3 (pc := 68) (by decide +kernel) ?_
        refine oj_bipush (pc := 69) (v := 62) ⟨by decide, by decide⟩ (by decide +kernel) ?_
        refine oj_icmp_eq (pc := 71) (off := 18) (tgt := 89) (by decide +kernel) (by decide) H (fun _ H => ?_) (fun _ H => ?_)
        · refine oj_le (lv' := [_, _, vu, _]) ⟨Or.inr rfl, Or.inr rfl, Or.inl rfl, Or.inr rfl, trivial⟩ ?_
          exact h89 _ _ _ H
        · refine oj_ld3 (pc := 74) (by decide +kernel) ?_
          refine oj_bipush (pc := 75) (v := 61) ⟨by decide, by decide⟩ (by decide +kernel) ?_
          refine oj_icmp_eq (pc := 77) (off := 12) (tgt := 89) (by decide +kernel) (by decide) H (fun _ H => ?_) (fun _ H => ?_)
          · refine oj_le (lv' := [_, _, vu, _]) ⟨Or.inr rfl, Or.inr rfl, Or.inl rfl, Or.inr rfl, trivial⟩ ?_
            exact h89 _ _ _ H
          · refine oj_ald0 (pc := 80) (by decide +kernel) ?_
            refine oj_getR' (pc := 81) f_LR_9 s_36_0 (by decide +kernel) ?_
            refine oj_iconst (pc := 84) (v := 1) ⟨by decide, by decide⟩ (by decide +kernel) ?_
            refine of_Vi (pc := 85) (as := [_]) v_LR_42 o_1 rfl rfl (Nat.le_of_ble_eq_true rfl) (by decide +kernel) (by omega) rfl (c_T_fault_0 (okp_bind H)) (fun r M H => ?_)
            exact oj_iret (pc := 88) (by decide +kernel) rfl rfl (Nat.le_refl _) (Nat.le_refl _) ⟨rfl, H⟩
    · refine oj_ld2 (pc := 52) (by decide +kernel) ?_
      exact oj_iret (pc := 53) (by decide +kernel) rfl rfl (Nat.le_refl _) (Nat.le_refl _) ⟨rfl, H⟩
  · refine oj_ld1 (pc := 12) (by decide +kernel) ?_
    refine oj_bipush (pc := 13) (v := 6) ⟨by decide, by decide⟩ (by decide +kernel) ?_
    refine oj_icmp_lt (pc := 15) (off := 12) (tgt := 27) (by decide +kernel) (by decide) H (fun _ H => ?_) (fun _ H => ?_)
    · refine oj_ald0 (pc := 27) (by decide +kernel) ?_
      refine oj_getR' (pc := 28) f_LR_9 s_36_0 (by decide +kernel) ?_
      refine of_Vv (pc := 31) (as := []) v_LR_45 o_1 rfl rfl (Nat.le_of_ble_eq_true rfl) (by decide +kernel) (by omega) rfl (c_T_step_0 (okp_bind H)) (fun M H => ?_)
      refine oj_ald0 (pc := 34) (by decide +kernel) ?_
      refine oj_ld1 (pc := 35) (by decide +kernel) ?_
      refine oj_iconst (pc := 36) (v := 1) ⟨by decide, by decide⟩ (by decide +kernel) ?_
      refine oj_iadd (pc := 37) (by decide +kernel) ?_
      refine of_Vi (pc := 38) (as := [_]) v_LR_61 o_36 rfl rfl (Nat.le_of_ble_eq_true rfl) (by decide +kernel) (by omega) rfl (hrec _ _ _ (okp_bind H)) (fun r M H => ?_)
      exact oj_iret (pc := 41) (by decide +kernel) rfl rfl (Nat.le_refl _) (Nat.le_refl _) ⟨rfl, H⟩
    · refine oj_ald0 (pc := 18) (by decide +kernel) ?_
      refine oj_getR' (pc := 19) f_LR_9 s_36_0 (by decide +kernel) ?_
      refine oj_iconst (pc := 22) (v := 5) ⟨by decide, by decide⟩ (by decide +kernel) ?_
      refine of_Vi (pc := 23) (as := [_]) v_LR_42 o_1 rfl rfl (Nat.le_of_ble_eq_true rfl) (by decide +kernel) (by omega) rfl (c_T_fault_0 (okp_bind H)) (fun r M H => ?_)
      exact oj_iret (pc := 26) (by decide +kernel) rfl rfl (Nat.le_refl _) (Nat.le_refl _) ⟨rfl, H⟩
theorem c_LR_readTest_0 {l : Launch} {f d0 : Nat} {rec : Int → oM → Option (Int × oM)} {l1 : Int} {M : oM} {K : Int × oM → Prop} (hrec : ∀ (a1 : Int) (M : oM) (K : Int × oM → Prop), okp (rec a1 M) K → oKf l m_LR_readCondition d0 [vr 36, vi a1] M K) (hb : 23 ≤ d0) (H : okp (p_LR_readTest_F f rec l1 M) K) : oKf l m_LR_readTest (d0 + 2) [vr 36, vi l1] M K := by
  refine oK_intro (lv := [vr 36, vi l1, vu, vu, vu]) (by decide +kernel) (Nat.le_of_ble_eq_true rfl) rfl ?_
  have h67 : ∀ (g : Nat) (l2 l3 l4 : Int) (M : oM), okp (iter (p_LR_readTest_L67 f rec l2 l3) g (l4, M)) K → oJ l m_LR_readTest (oEf (d0 + 2) K) 0 0 67 [vr 36, vu, vi l2, vi l3, vi l4] [] WD M := by
    intro g l2 l3 l4 M H
    have HL := fun hs => iter_J' (Jh := fun s => oJ l m_LR_readTest (oEf (d0 + 2) K) 0 0 67 [vr 36, vu, vi l2, vi l3, vi s.1] [] WD s.2) (G := K) hs g (l4, M) H
    refine HL ?_
    intro K67 s i67 e67 H
    obtain ⟨l4, M⟩ := s
    show oJ l m_LR_readTest (oEf (d0 + 2) K) 0 0 67 [vr 36, vu, vi l2, vi l3, vi l4] [] WD M
    refine oj_ld4 (pc := 67) (by decide +kernel) ?_
    refine oj_ld2 (pc := 69) (by decide +kernel) ?_
    refine oj_icmp_ge (pc := 70) (off := 20) (tgt := 90) (by decide +kernel) (by decide) H (fun _ H => ?_) (fun _ H => ?_)
    · refine oj_ld3 (pc := 90) (by decide +kernel) ?_
      have H := e67 _ H
      exact oj_iret (pc := 91) (by decide +kernel) rfl rfl (Nat.le_refl _) (Nat.le_refl _) ⟨rfl, H⟩
    · refine oj_ald0 (pc := 73) (by decide +kernel) ?_
      refine oj_getR' (pc := 74) f_LR_15 s_36_1 (by decide +kernel) ?_
      refine oj_bipush (pc := 77) (v := 33) ⟨by decide, by decide⟩ (by decide +kernel) ?_
      refine oj_iconst (pc := 79) (v := 0) ⟨by decide, by decide⟩ (by decide +kernel) ?_
      refine of_Vi (pc := 80) (as := [_, _]) v_LR_74 o_27 rfl rfl (Nat.le_of_ble_eq_true rfl) (by decide +kernel) (by omega) rfl (c_L_put_0 (okp_bind H)) (fun r M H => ?_)
      refine oj_pop (pc := 83) (by decide +kernel) ?_
      refine oj_inc4 (pc := 84) (d := 1) (by decide +kernel) (by decide +kernel) ?_
      have H := okp_lt H
      refine oj_goto (pc := 87) (off := -20) (tgt := 67) (by decide +kernel) (by decide) ?_
      have H := i67 _ H
      exact H
  have x4 : ∀ (l1 l2 : Int) (M : oM), okp (p_LR_readTest_X4 f rec l1 (.inr (l2, M))) K → oJ l m_LR_readTest (oEf (d0 + 2) K) 0 0 56 [vr 36, vi l1, vi l2, vu, vu] [] WD M := by
    intro l1 l2 M H
    unfold p_LR_readTest_X4 at H
    refine oj_ald0 (pc := 56) (by decide +kernel) ?_
    refine oj_ld1 (pc := 57) (by decide +kernel) ?_
    refine oj_ld2 (pc := 58) (by decide +kernel) ?_
    refine oj_iadd (pc := 59) (by decide +kernel) ?_
    refine of_Vi (pc := 60) (as := [_]) v_LR_78 o_36 rfl rfl (Nat.le_of_ble_eq_true rfl) (by decide +kernel) (by omega) rfl (c_LR_readPlainTest_0 hrec hb (okp_bind H)) (fun r M H => ?_)
    refine oj_st3 (pc := 63) (by decide +kernel) (by decide +kernel) ?_
    refine oj_iconst (pc := 64) (v := 0) ⟨by decide, by decide⟩ (by decide +kernel) ?_
    refine oj_st4 (pc := 65) (by decide +kernel) (by decide +kernel) ?_
    refine oj_le (lv' := [_, vu, _, _, _]) ⟨Or.inr rfl, Or.inl rfl, Or.inr rfl, Or.inr rfl, Or.inr rfl, trivial⟩ ?_
    exact h67 _ _ _ _ _ H
  have h4 : ∀ (g : Nat) (l1 l2 l3 : Int) (M : oM), okp (iter (p_LR_readTest_L4 f rec l1) g (l2, l3, M)) (fun r => okp (p_LR_readTest_X4 f rec l1 r) K) → oJ l m_LR_readTest (oEf (d0 + 2) K) 0 0 4 [vr 36, vi l1, vi l2, vi l3, vu] [] WD M := by
    intro g l1 l2 l3 M H
    have HL := fun hs => iter_J' (Jh := fun s => oJ l m_LR_readTest (oEf (d0 + 2) K) 0 0 4 [vr 36, vi l1, vi s.1, vi s.2.1, vu] [] WD s.2.2) (G := (fun r => okp (p_LR_readTest_X4 f rec l1 r) K)) hs g (l2, l3, M) H
    refine HL ?_
    intro K4 s i4 e4 H
    obtain ⟨l2, l3, M⟩ := s
    show oJ l m_LR_readTest (oEf (d0 + 2) K) 0 0 4 [vr 36, vi l1, vi l2, vi l3, vu] [] WD M
    refine oj_ld3 (pc := 4) (by decide +kernel) ?_
    refine oj_sipush (pc := 5) (v := 240) ⟨by decide, by decide⟩ (by decide +kernel) ?_
    refine oj_icmp_ge (pc := 8) (off := 48) (tgt := 56) (by decide +kernel) (by decide) H (fun _ H => ?_) (fun _ H => ?_)
    · refine oj_le (lv' := [_, _, _, vu, vu]) ⟨Or.inr rfl, Or.inr rfl, Or.inr rfl, Or.inl rfl, Or.inr rfl, trivial⟩ ?_
      have H := e4 _ H
      exact x4 _ _ _ H
    · refine oj_ald0 (pc := 11) (by decide +kernel) ?_
      refine oj_getR' (pc := 12) f_LR_9 s_36_0 (by decide +kernel) ?_
      refine of_Vi (pc := 15) (as := []) v_LR_38 o_1 rfl rfl (Nat.le_of_ble_eq_true rfl) (by decide +kernel) (by omega) rfl (c_T_next_0 (okp_bind H)) (fun r M H => ?_)
      refine oj_bipush (pc := 18) (v := 33) ⟨by decide, by decide⟩ (by decide +kernel) ?_
      refine oj_icmp_ne (pc := 20) (off := 36) (tgt := 56) (by decide +kernel) (by decide) H (fun _ H => ?_) (fun _ H => ?_)
      · refine oj_le (lv' := [_, _, _, vu, vu]) ⟨Or.inr rfl, Or.inr rfl, Or.inr rfl, Or.inl rfl, Or.inr rfl, trivial⟩ ?_
        have H := e4 _ H
        exact x4 _ _ _ H
      · refine oj_ld1 (pc := 23) (by decide +kernel) ?_
        refine oj_ld2 (pc := 24) (by decide +kernel) ?_
        refine oj_iadd (pc := 25) (by decide +kernel) ?_
        refine oj_bipush (pc := 26) (v := 6) ⟨by decide, by decide⟩ (by decide +kernel) ?_
        refine oj_icmp_lt (pc := 28) (off := 12) (tgt := 40) (by decide +kernel) (by decide) H (fun _ H => ?_) (fun _ H => ?_)
        · refine oj_inc2 (pc := 40) (d := 1) (by decide +kernel) (by decide +kernel) ?_
          have H := okp_lt H
          refine oj_ald0 (pc := 43) (by decide +kernel) ?_
          refine oj_getR' (pc := 44) f_LR_9 s_36_0 (by decide +kernel) ?_
          refine of_Vv (pc := 47) (as := []) v_LR_45 o_1 rfl rfl (Nat.le_of_ble_eq_true rfl) (by decide +kernel) (by omega) rfl (c_T_step_0 (okp_bind H)) (fun M H => ?_)
          refine oj_inc3 (pc := 50) (d := 1) (by decide +kernel) (by decide +kernel) ?_
          have H := okp_lt H
          refine oj_goto (pc := 53) (off := -49) (tgt := 4) (by decide +kernel) (by decide) ?_
          have H := i4 _ H
          exact H
        · refine oj_ald0 (pc := 31) (by decide +kernel) ?_
          refine oj_getR' (pc := 32) f_LR_9 s_36_0 (by decide +kernel) ?_
          refine oj_iconst (pc := 35) (v := 5) ⟨by decide, by decide⟩ (by decide +kernel) ?_
          refine of_Vi (pc := 36) (as := [_]) v_LR_42 o_1 rfl rfl (Nat.le_of_ble_eq_true rfl) (by decide +kernel) (by omega) rfl (c_T_fault_0 (okp_bind H)) (fun r M H => ?_)
          have H := e4 _ H
          exact oj_iret (pc := 39) (by decide +kernel) rfl rfl (Nat.le_refl _) (Nat.le_refl _) ⟨rfl, H⟩
  refine oj_iconst (pc := 0) (v := 0) ⟨by decide, by decide⟩ (by decide +kernel) ?_
  refine oj_st2 (pc := 1) (by decide +kernel) (by decide +kernel) ?_
  refine oj_iconst (pc := 2) (v := 0) ⟨by decide, by decide⟩ (by decide +kernel) ?_
  refine oj_st3 (pc := 3) (by decide +kernel) (by decide +kernel) ?_
  exact h4 _ _ _ _ _ (okp_bind H)
theorem c_LR_readCondition_F_0 {l : Launch} {f d0 : Nat} {rec : Int → oM → Option (Int × oM)} {l1 : Int} {M : oM} {K : Int × oM → Prop} (hrec : ∀ (a1 : Int) (M : oM) (K : Int × oM → Prop), okp (rec a1 M) K → oKf l m_LR_readCondition d0 [vr 36, vi a1] M K) (hb : 23 ≤ d0) (H : okp (p_LR_readCondition_F f rec l1 M) K) : oKf l m_LR_readCondition (d0 + 3) [vr 36, vi l1] M K := by
  refine oK_intro (lv := [vr 36, vi l1, vu, vu, vu, vu, vu]) (by decide +kernel) (Nat.le_of_ble_eq_true rfl) rfl ?_
  have h7 : ∀ (g : Nat) (l1 l2 l3 l4 : Int) (M : oM), okp (iter (p_LR_readCondition_L7 f rec l1) g (l2, l3, l4, M)) K → oJ l m_LR_readCondition (oEf (d0 + 3) K) 0 0 7 [vr 36, vi l1, vi l2, vi l3, vi l4, vu, vu] [] WD M := by
    intro g l1 l2 l3 l4 M H
    have HL := fun hs => iter_J' (Jh := fun s => oJ l m_LR_readCondition (oEf (d0 + 3) K) 0 0 7 [vr 36, vi l1, vi s.1, vi s.2.1, vi s.2.2.1, vu, vu] [] WD s.2.2.2) (G := K) hs g (l2, l3, l4, M) H
    refine HL ?_
    intro K7 s i7 e7 H
    obtain ⟨l2, l3, l4, M⟩ := s
    show oJ l m_LR_readCondition (oEf (d0 + 3) K) 0 0 7 [vr 36, vi l1, vi l2, vi l3, vi l4, vu, vu] [] WD M
    have h147 : ∀ (l2 l3 l4 : Int) (M : oM), okp (p_LR_readCondition_B147_7 f rec l1 l2 l3 l4 M) K7 → oJ l m_LR_readCondition (oEf (d0 + 3) K) 0 0 147 [vr 36, vi l1, vi l2, vi l3, vi l4, vu, vu] [] WD M := by
      intro l2 l3 l4 M H
      refine oj_inc4 (pc := 147) (d := 1) (by decide +kernel) (by decide +kernel) ?_
      have H := okp_lt H
      refine oj_goto (pc := 150) (off := -143) (tgt := 7) (by decide +kernel) (by decide) ?_
      have H := i7 _ H
      exact H
    have h69 : ∀ (l2 l3 l4 l6 : Int) (M : oM), okp (p_LR_readCondition_B69_7 f rec l1 l2 l3 l4 l6 M) K7 → oJ l m_LR_readCondition (oEf (d0 + 3) K) 0 0 69 [vr 36, vi l1, vi l2, vi l3, vi l4, vu, vi l6] [] WD M := by
      intro l2 l3 l4 l6 M H
      refine oj_ald0 (pc := 69) (by decide +kernel) ?_
      refine oj_getR' (pc := 70) f_LR_9 s_36_0 (by decide +kernel) ?_
      refine of_Vv (pc := 73) (as := []) v_LR_45 o_1 rfl rfl (Nat.le_of_ble_eq_true rfl) (by decide +kernel) (by omega) rfl (c_T_step_0 (okp_bind H)) (fun M H => ?_)
      refine oj_ald0 (pc := 76) (by decide +kernel) ?_
      refine oj_getR' (pc := 77) f_LR_15 s_36_1 (by decide +kernel) ?_
      refine oj_ld2 (pc := 80) (by decide +kernel) ?_
      refine of_Vv (pc := 81) (as := [_]) v_LR_70 o_27 rfl rfl (Nat.le_of_ble_eq_true rfl) (by decide +kernel) (by omega) rfl (c_L_landHere_0 (okp_bind H)) (fun M H => ?_)
      refine oj_iconst (pc := 84) (v := -1) ⟨by decide, by decide⟩ (by decide +kernel) ?_
      refine oj_st2 (pc := 85) (by decide +kernel) (by decide +kernel) ?_
      refine oj_ld6 (pc := 86) (by decide +kernel) ?_
      refine oj_bipush (pc := 88) (v := 38) ⟨by decide, by decide⟩ (by decide +kernel) ?_
      refine oj_icmp_ne (pc := 90) (off := 23) (tgt := 113) (by decide +kernel) (by decide) H (fun _ H => ?_) (fun _ H => ?_)
      · refine oj_ald0 (pc := 113) (by decide +kernel) ?_
        refine oj_getR' (pc := 114) f_LR_15 s_36_1 (by decide +kernel) ?_
        refine oj_ld3 (pc := 117) (by decide +kernel) ?_
        refine of_Vv (pc := 118) (as := [_]) v_LR_70 o_27 rfl rfl (Nat.le_of_ble_eq_true rfl) (by decide +kernel) (by omega) rfl (c_L_landHere_0 (okp_bind H)) (fun M H => ?_)
        refine oj_ld6 (pc := 121) (by decide +kernel) ?_
        refine oj_bipush (pc := 123) (v := 41) ⟨by decide, by decide⟩ (by decide +kernel) ?_
        refine oj_icmp_ne (pc := 125) (off := 5) (tgt := 130) (by decide +kernel) (by decide) H (fun _ H => ?_) (fun _ H => ?_)
        · refine oj_ald0 (pc := 130) (by decide +kernel) ?_
          refine oj_getR' (pc := 131) f_LR_15 s_36_1 (by decide +kernel) ?_
          refine oj_bipush (pc := 134) (v := 124) ⟨by decide, by decide⟩ (by decide +kernel) ?_
          refine oj_ald0 (pc := 136) (by decide +kernel) ?_
          refine oj_getR' (pc := 137) f_LR_15 s_36_1 (by decide +kernel) ?_
          refine oj_getI' (pc := 140) (ki := 9) f_LR_19 s_27_9 rfl (by decide +kernel) ?_
          refine of_Vi (pc := 143) (as := [_, _]) v_LR_74 o_27 rfl rfl (Nat.le_of_ble_eq_true rfl) (by decide +kernel) (by omega) rfl (c_L_put_0 (okp_bind H)) (fun r M H => ?_)
          refine oj_st3 (pc := 146) (by decide +kernel) (by decide +kernel) ?_
          refine oj_le (lv' := [_, _, _, _, _, vu, vu]) ⟨Or.inr rfl, Or.inr rfl, Or.inr rfl, Or.inr rfl, Or.inr rfl, Or.inr rfl, Or.inl rfl, trivial⟩ ?_
          exact h147 _ _ _ _ H
        · refine oj_iconst (pc := 128) (v := 0) ⟨by decide, by decide⟩ (by decide +kernel) ?_
          have H := e7 _ H
          exact oj_iret (pc := 129) (by decide +kernel) rfl rfl (Nat.le_refl _) (Nat.le_refl _) ⟨rfl, H⟩
      · refine oj_ald0 (pc := 93) (by decide +kernel) ?_
        refine oj_getR' (pc := 94) f_LR_15 s_36_1 (by decide +kernel) ?_
        refine oj_bipush (pc := 97) (v := 38) ⟨by decide, by decide⟩ (by decide +kernel) ?_
        refine oj_ald0 (pc := 99) (by decide +kernel) ?_
        refine oj_getR' (pc := 100) f_LR_15 s_36_1 (by decide +kernel) ?_
        refine oj_getI' (pc := 103) (ki := 9) f_LR_19 s_27_9 rfl (by decide +kernel) ?_
        refine of_Vi (pc := 106) (as := [_, _]) v_LR_74 o_27 rfl rfl (Nat.le_of_ble_eq_true rfl) (by decide +kernel) (by omega) rfl (c_L_put_0 (okp_bind H)) (fun r M H => ?_)
        refine oj_st2 (pc := 109) (by decide +kernel) (by decide +kernel) ?_
        refine oj_goto (pc := 110) (off := 37) (tgt := 147) (by decide +kernel) (by decide) ?_
        refine oj_le (lv' := [_, _, _, _, _, vu, vu]) ⟨Or.inr rfl, Or.inr rfl, Or.inr rfl, Or.inr rfl, Or.inr rfl, Or.inr rfl, Or.inl rfl, trivial⟩ ?_
        exact h147 _ _ _ _ H
    refine oj_ld4 (pc := 7) (by decide +kernel) ?_
    refine oj_sipush (pc := 9) (v := 240) ⟨by decide, by decide⟩ (by decide +kernel) ?_
    refine oj_icmp_ge (pc := 12) (off := 141) (tgt := 153) (by decide +kernel) (by decide) H (fun _ H => ?_) (fun _ H => ?_)
    · refine oj_ald0 (pc := 153) (by decide +kernel) ?_
      refine oj_getR' (pc := 154) f_LR_9 s_36_0 (by decide +kernel) ?_
      refine oj_iconst (pc := 157) (v := 1) ⟨by decide, by decide⟩ (by decide +kernel) ?_
      refine of_Vi (pc := 158) (as := [_]) v_LR_42 o_1 rfl rfl (Nat.le_of_ble_eq_true rfl) (by decide +kernel) (by omega) rfl (c_T_fault_0 (okp_bind H)) (fun r M H => ?_)
      have H := e7 _ H
      exact oj_iret (pc := 161) (by decide +kernel) rfl rfl (Nat.le_refl _) (Nat.le_refl _) ⟨rfl, H⟩
    · refine oj_ald0 (pc := 15) (by decide +kernel) ?_
      refine oj_ld1 (pc := 16) (by decide +kernel) ?_
      refine of_Vi (pc := 17) (as := [_]) v_LR_67 o_36 rfl rfl (Nat.le_of_ble_eq_true rfl) (by decide +kernel) (by omega) rfl (c_LR_readTest_0 hrec hb (okp_bind H)) (fun r M H => ?_)
      refine oj_st5 (pc := 20) (by decide +kernel) (by decide +kernel) ?_
      refine oj_ld5 (pc := 22) (by decide +kernel) ?_
      refine oj_if_eq (pc := 24) (off := 6) (tgt := 30) (by decide +kernel) (by decide) H (fun _ H => ?_) (fun _ H => ?_)
      · refine oj_ald0 (pc := 30) (by decide +kernel) ?_
        refine oj_getR' (pc := 31) f_LR_9 s_36_0 (by decide +kernel) ?_
        refine of_Vi (pc := 34) (as := []) v_LR_38 o_1 rfl rfl (Nat.le_of_ble_eq_true rfl) (by decide +kernel) (by omega) rfl (c_T_next_0 (okp_bind H)) (fun r M H => ?_)
        refine oj_st6 (pc := 37) (by decide +kernel) (by decide +kernel) ?_
        refine oj_ld6 (pc := 39) (by decide +kernel) ?_
        refine oj_bipush (pc := 41) (v := 38) ⟨by decide, by decide⟩ (by decide +kernel) ?_
        refine oj_icmp_eq (pc := 43) (off := 26) (tgt := 69) (by decide +kernel) (by decide) H (fun _ H => ?_) (fun _ H => ?_)
        · refine oj_le (lv' := [_, _, _, _, _, vu, _]) ⟨Or.inr rfl, Or.inr rfl, Or.inr rfl, Or.inr rfl, Or.inr rfl, Or.inl rfl, Or.inr rfl, trivial⟩ ?_
          exact h69 _ _ _ _ _ H
        · refine oj_ld6 (pc := 46) (by decide +kernel) ?_
          refine oj_bipush (pc := 48) (v := 124) ⟨by decide, by decide⟩ (by decide +kernel) ?_
          refine oj_icmp_eq (pc := 50) (off := 19) (tgt := 69) (by decide +kernel) (by decide) H (fun _ H => ?_) (fun _ H => ?_)
          · refine oj_le (lv' := [_, _, _, _, _, vu, _]) ⟨Or.inr rfl, Or.inr rfl, Or.inr rfl, Or.inr rfl, Or.inr rfl, Or.inl rfl, Or.inr rfl, trivial⟩ ?_
            exact h69 _ _ _ _ _ H
          · refine oj_ld6 (pc := 53) (by decide +kernel) ?_
            refine oj_bipush (pc := 55) (v := 41) ⟨by decide, by decide⟩ (by decide +kernel) ?_
            refine oj_icmp_eq (pc := 57) (off := 12) (tgt := 69) (by decide +kernel) (by decide) H (fun _ H => ?_) (fun _ H => ?_)
            · refine oj_le (lv' := [_, _, _, _, _, vu, _]) ⟨Or.inr rfl, Or.inr rfl, Or.inr rfl, Or.inr rfl, Or.inr rfl, Or.inl rfl, Or.inr rfl, trivial⟩ ?_
              exact h69 _ _ _ _ _ H
            · refine oj_ald0 (pc := 60) (by decide +kernel) ?_
              refine oj_getR' (pc := 61) f_LR_9 s_36_0 (by decide +kernel) ?_
              refine oj_iconst (pc := 64) (v := 1) ⟨by decide, by decide⟩ (by decide +kernel) ?_
              refine of_Vi (pc := 65) (as := [_]) v_LR_42 o_1 rfl rfl (Nat.le_of_ble_eq_true rfl) (by decide +kernel) (by omega) rfl (c_T_fault_0 (okp_bind H)) (fun r M H => ?_)
              have H := e7 _ H
              exact oj_iret (pc := 68) (by decide +kernel) rfl rfl (Nat.le_refl _) (Nat.le_refl _) ⟨rfl, H⟩
      · refine oj_ld5 (pc := 27) (by decide +kernel) ?_
        have H := e7 _ H
        exact oj_iret (pc := 29) (by decide +kernel) rfl rfl (Nat.le_refl _) (Nat.le_refl _) ⟨rfl, H⟩
  refine oj_iconst (pc := 0) (v := -1) ⟨by decide, by decide⟩ (by decide +kernel) ?_
  refine oj_st2 (pc := 1) (by decide +kernel) (by decide +kernel) ?_
  refine oj_iconst (pc := 2) (v := -1) ⟨by decide, by decide⟩ (by decide +kernel) ?_
  refine oj_st3 (pc := 3) (by decide +kernel) (by decide +kernel) ?_
  refine oj_iconst (pc := 4) (v := 0) ⟨by decide, by decide⟩ (by decide +kernel) ?_
  refine oj_st4 (pc := 5) (by decide +kernel) (by decide +kernel) ?_
  exact h7 _ _ _ _ _ _ H
theorem c_LR_readCondition_0 {l : Launch} {f : Nat} : ∀ (n : Nat) {l1 : Int} {M : oM} {K : Int × oM → Prop}, okp (p_LR_readCondition f n l1 M) K → oKf l m_LR_readCondition (23 + 3 * n) [vr 36, vi l1] M K := by
  intro n
  induction n with
  | zero => intro l1 M K H; exact (show False from H).elim
  | succ n ih =>
    intro l1 M K H
    rw [show 23 + 3 * (n + 1) = (23 + 3 * n) + 3 from by omega]
    exact c_LR_readCondition_F_0 (rec := p_LR_readCondition f n) (fun _ M K H => ih H) (by omega) H
theorem c_LR_readRule_0 {l : Launch} {f : Nat} {l1 : Int} {M : oM} {K : Int × oM → Prop} (H : okp (p_LR_readRule f l1 M) K) : oKf l m_LR_readRule 51 [vr 36, vi l1] M K := by
  refine oK_intro (lv := [vr 36, vi l1, vu, vu]) (by decide +kernel) (Nat.le_of_ble_eq_true rfl) rfl ?_
  have h104 : ∀ (l1 s0 : Int) (M : oM), okp (p_LR_readRule_B104 f l1 s0 M) K → oJ l m_LR_readRule (oEf 51 K) 0 0 104 [vr 36, vi l1, vu, vu] [vi s0] WD M := by
    intro l1 s0 M H
    refine oj_st3 (pc := 104) (by decide +kernel) (by decide +kernel) ?_
    refine oj_ld3 (pc := 105) (by decide +kernel) ?_
    refine oj_if_eq (pc := 106) (off := 5) (tgt := 111) (by decide +kernel) (by decide) H (fun _ H => ?_) (fun _ H => ?_)
    · refine oj_ald0 (pc := 111) (by decide +kernel) ?_
      refine oj_getR' (pc := 112) f_LR_9 s_36_0 (by decide +kernel) ?_
      refine of_Vi (pc := 115) (as := []) v_LR_38 o_1 rfl rfl (Nat.le_of_ble_eq_true rfl) (by decide +kernel) (by decide) rfl (c_T_next_0 (okp_bind H)) (fun r M H => ?_)
      refine oj_bipush (pc := 118) (v := 40) ⟨by decide, by decide⟩ (by decide +kernel) ?_
      refine oj_icmp_eq (pc := 120) (off := 12) (tgt := 132) (by decide +kernel) (by decide) H (fun _ H => ?_) (fun _ H => ?_)
      · refine oj_ald0 (pc := 132) (by decide +kernel) ?_
        refine oj_getR' (pc := 133) f_LR_9 s_36_0 (by decide +kernel) ?_
        refine of_Vv (pc := 136) (as := []) v_LR_45 o_1 rfl rfl (Nat.le_of_ble_eq_true rfl) (by decide +kernel) (by decide) rfl (c_T_step_0 (okp_bind H)) (fun M H => ?_)
        refine oj_ald0 (pc := 139) (by decide +kernel) ?_
        refine oj_getR' (pc := 140) f_LR_15 s_36_1 (by decide +kernel) ?_
        refine oj_getR' (pc := 143) f_LR_58 s_27_5 (by decide +kernel) ?_
        refine oj_ld1 (pc := 146) (by decide +kernel) ?_
        refine oj_ald0 (pc := 147) (by decide +kernel) ?_
        refine oj_getR' (pc := 148) f_LR_15 s_36_1 (by decide +kernel) ?_
        refine oj_getI' (pc := 151) (ki := 9) f_LR_19 s_27_9 rfl (by decide +kernel) ?_
        refine oj_iast (pc := 154) (NN := 16) a_32 rfl (by decide +kernel) H (fun H => ?_)
        have H := okp_lt H
        refine oj_ald0 (pc := 155) (by decide +kernel) ?_
        refine oj_iconst (pc := 156) (v := 1) ⟨by decide, by decide⟩ (by decide +kernel) ?_
        refine of_Vi (pc := 157) (as := [_]) v_LR_61 o_36 rfl rfl (Nat.le_of_ble_eq_true rfl) (by decide +kernel) (by decide) rfl (c_LR_readCondition_0 9 (okp_bind H)) (fun r M H => ?_)
        refine oj_st3 (pc := 160) (by decide +kernel) (by decide +kernel) ?_
        refine oj_ld3 (pc := 161) (by decide +kernel) ?_
        refine oj_if_ne (pc := 162) (off := 29) (tgt := 191) (by decide +kernel) (by decide) H (fun _ H => ?_) (fun _ H => ?_)
        · refine oj_ld3 (pc := 191) (by decide +kernel) ?_
          exact oj_iret (pc := 192) (by decide +kernel) rfl rfl (Nat.le_refl _) (Nat.le_refl _) ⟨rfl, H⟩
        · refine oj_ald0 (pc := 165) (by decide +kernel) ?_
          refine oj_getR' (pc := 166) f_LR_15 s_36_1 (by decide +kernel) ?_
          refine oj_getR' (pc := 169) f_LR_64 s_27_6 (by decide +kernel) ?_
          refine oj_ld1 (pc := 172) (by decide +kernel) ?_
          refine oj_ald0 (pc := 173) (by decide +kernel) ?_
          refine oj_getR' (pc := 174) f_LR_15 s_36_1 (by decide +kernel) ?_
          refine oj_getI' (pc := 177) (ki := 9) f_LR_19 s_27_9 rfl (by decide +kernel) ?_
          refine oj_iast (pc := 180) (NN := 16) a_33 rfl (by decide +kernel) H (fun H => ?_)
          have H := okp_lt H
          refine oj_ald0 (pc := 181) (by decide +kernel) ?_
          refine oj_getR' (pc := 182) f_LR_15 s_36_1 (by decide +kernel) ?_
          refine oj_ld1 (pc := 185) (by decide +kernel) ?_
          refine oj_iconst (pc := 186) (v := 1) ⟨by decide, by decide⟩ (by decide +kernel) ?_
          refine oj_iadd (pc := 187) (by decide +kernel) ?_
          refine oj_putI' (pc := 188) (ki := 10) f_LR_25 s_27_10 rfl (by decide +kernel) ?_
          have H := okp_lt H
          refine oj_ld3 (pc := 191) (by decide +kernel) ?_
          exact oj_iret (pc := 192) (by decide +kernel) rfl rfl (Nat.le_refl _) (Nat.le_refl _) ⟨rfl, H⟩
      · refine oj_ald0 (pc := 123) (by decide +kernel) ?_
        refine oj_getR' (pc := 124) f_LR_9 s_36_0 (by decide +kernel) ?_
        refine oj_iconst (pc := 127) (v := 1) ⟨by decide, by decide⟩ (by decide +kernel) ?_
        refine of_Vi (pc := 128) (as := [_]) v_LR_42 o_1 rfl rfl (Nat.le_of_ble_eq_true rfl) (by decide +kernel) (by decide) rfl (c_T_fault_0 (okp_bind H)) (fun r M H => ?_)
        exact oj_iret (pc := 131) (by decide +kernel) rfl rfl (Nat.le_refl _) (Nat.le_refl _) ⟨rfl, H⟩
    · refine oj_ld3 (pc := 109) (by decide +kernel) ?_
      exact oj_iret (pc := 110) (by decide +kernel) rfl rfl (Nat.le_refl _) (Nat.le_refl _) ⟨rfl, H⟩
  have h41 : ∀ (l1 l2 : Int) (M : oM), okp (p_LR_readRule_B41 f l1 l2 M) K → oJ l m_LR_readRule (oEf 51 K) 0 0 41 [vr 36, vi l1, vi l2, vu] [] WD M := by
    intro l1 l2 M H
    refine oj_ld1 (pc := 41) (by decide +kernel) ?_
    refine oj_bipush (pc := 42) (v := 16) ⟨by decide, by decide⟩ (by decide +kernel) ?_
    refine oj_icmp_lt (pc := 44) (off := 12) (tgt := 56) (by decide +kernel) (by decide) H (fun _ H => ?_) (fun _ H => ?_)
    · refine oj_ald0 (pc := 56) (by decide +kernel) ?_
      refine oj_getR' (pc := 57) f_LR_9 s_36_0 (by decide +kernel) ?_
      refine of_Vv (pc := 60) (as := []) v_LR_45 o_1 rfl rfl (Nat.le_of_ble_eq_true rfl) (by decide +kernel) (by decide) rfl (c_T_step_0 (okp_bind H)) (fun M H => ?_)
      refine oj_ald0 (pc := 63) (by decide +kernel) ?_
      refine oj_getR' (pc := 64) f_LR_15 s_36_1 (by decide +kernel) ?_
      refine oj_getR' (pc := 67) f_LR_48 s_27_3 (by decide +kernel) ?_
      refine oj_ld1 (pc := 70) (by decide +kernel) ?_
      refine oj_ld2 (pc := 71) (by decide +kernel) ?_
      refine oj_iast (pc := 72) (NN := 16) a_30 rfl (by decide +kernel) H (fun H => ?_)
      have H := okp_lt H
      refine oj_ald0 (pc := 73) (by decide +kernel) ?_
      refine oj_getR' (pc := 74) f_LR_15 s_36_1 (by decide +kernel) ?_
      refine oj_getR' (pc := 77) f_LR_52 s_27_4 (by decide +kernel) ?_
      refine oj_ld1 (pc := 80) (by decide +kernel) ?_
      refine oj_ald0 (pc := 81) (by decide +kernel) ?_
      refine oj_getR' (pc := 82) f_LR_15 s_36_1 (by decide +kernel) ?_
      refine oj_getI' (pc := 85) (ki := 9) f_LR_19 s_27_9 rfl (by decide +kernel) ?_
      refine oj_iast (pc := 88) (NN := 16) a_31 rfl (by decide +kernel) H (fun H => ?_)
      have H := okp_lt H
      refine oj_ld2 (pc := 89) (by decide +kernel) ?_
      refine oj_bipush (pc := 90) (v := 115) ⟨by decide, by decide⟩ (by decide +kernel) ?_
      refine oj_icmp_ne (pc := 92) (off := 7) (tgt := 99) (by decide +kernel) (by decide) H (fun _ H => ?_) (fun _ H => ?_)
      · refine oj_ald0 (pc := 99) (by decide +kernel) ?_
        refine oj_iconst (pc := 100) (v := 0) ⟨by decide, by decide⟩ (by decide +kernel) ?_
        refine of_Vi (pc := 101) (as := [_]) v_LR_55 o_36 rfl rfl (Nat.le_of_ble_eq_true rfl) (by decide +kernel) (by decide) rfl (c_LR_readNumber_0 9 (okp_bind H)) (fun r M H => ?_)
        refine oj_le (lv' := [_, _, vu, vu]) ⟨Or.inr rfl, Or.inr rfl, Or.inl rfl, Or.inr rfl, trivial⟩ ?_
        exact h104 _ _ _ H
      · refine oj_iconst (pc := 95) (v := 0) ⟨by decide, by decide⟩ (by decide +kernel) ?_
        refine oj_goto (pc := 96) (off := 8) (tgt := 104) (by decide +kernel) (by decide) ?_
        refine oj_le (lv' := [_, _, vu, vu]) ⟨Or.inr rfl, Or.inr rfl, Or.inl rfl, Or.inr rfl, trivial⟩ ?_
        exact h104 _ _ _ H
    · refine oj_ald0 (pc := 47) (by decide +kernel) ?_
      refine oj_getR' (pc := 48) f_LR_9 s_36_0 (by decide +kernel) ?_
      refine oj_iconst (pc := 51) (v := 4) ⟨by decide, by decide⟩ (by decide +kernel) ?_
      refine of_Vi (pc := 52) (as := [_]) v_LR_42 o_1 rfl rfl (Nat.le_of_ble_eq_true rfl) (by decide +kernel) (by decide) rfl (c_T_fault_0 (okp_bind H)) (fun r M H => ?_)
      exact oj_iret (pc := 55) (by decide +kernel) rfl rfl (Nat.le_refl _) (Nat.le_refl _) ⟨rfl, H⟩
  refine oj_ald0 (pc := 0) (by decide +kernel) ?_
  refine oj_getR' (pc := 1) f_LR_9 s_36_0 (by decide +kernel) ?_
  refine of_Vi (pc := 4) (as := []) v_LR_38 o_1 rfl rfl (Nat.le_of_ble_eq_true rfl) (by decide +kernel) (by decide) rfl (c_T_next_0 (okp_bind H)) (fun r M H => ?_)
  refine oj_st2 (pc := 7) (by decide +kernel) (by decide +kernel) ?_
  refine oj_ld2 (pc := 8) (by decide +kernel) ?_
  refine oj_bipush (pc := 9) (v := 101) ⟨by decide, by decide⟩ (by decide +kernel) ?_
  refine oj_icmp_eq (pc := 11) (off := 30) (tgt := 41) (by decide +kernel) (by decide) H (fun _ H => ?_) (fun _ H => ?_)
  · exact h41 _ _ _ H
  · refine oj_ld2 (pc := 14) (by decide +kernel) ?_
    refine oj_bipush (pc := 15) (v := 105) ⟨by decide, by decide⟩ (by decide +kernel) ?_
    refine oj_icmp_eq (pc := 17) (off := 24) (tgt := 41) (by decide +kernel) (by decide) H (fun _ H => ?_) (fun _ H => ?_)
    · exact h41 _ _ _ H
    · refine oj_ld2 (pc := 20) (by decide +kernel) ?_
      refine oj_bipush (pc := 21) (v := 114) ⟨by decide, by decide⟩ (by decide +kernel) ?_
      refine oj_icmp_eq (pc := 23) (off := 18) (tgt := 41) (by decide +kernel) (by decide) H (fun _ H => ?_) (fun _ H => ?_)
      · exact h41 _ _ _ H
      · refine oj_ld2 (pc := 26) (by decide +kernel) ?_
        refine oj_bipush (pc := 27) (v := 115) ⟨by decide, by decide⟩ (by decide +kernel) ?_
        refine oj_icmp_eq (pc := 29) (off := 12) (tgt := 41) (by decide +kernel) (by decide) H (fun _ H => ?_) (fun _ H => ?_)
        · exact h41 _ _ _ H
        · refine oj_ald0 (pc := 32) (by decide +kernel) ?_
          refine oj_getR' (pc := 33) f_LR_9 s_36_0 (by decide +kernel) ?_
          refine oj_iconst (pc := 36) (v := 1) ⟨by decide, by decide⟩ (by decide +kernel) ?_
          refine of_Vi (pc := 37) (as := [_]) v_LR_42 o_1 rfl rfl (Nat.le_of_ble_eq_true rfl) (by decide +kernel) (by decide) rfl (c_T_fault_0 (okp_bind H)) (fun r M H => ?_)
          exact oj_iret (pc := 40) (by decide +kernel) rfl rfl (Nat.le_refl _) (Nat.le_refl _) ⟨rfl, H⟩
theorem c_T_ended_0 {l : Launch} {f : Nat} {M : oM} {K : Int × oM → Prop} (H : okp (p_T_ended f M) K) : oKf l m_T_ended 2 [vr 1] M K := by
  refine oK_intro (lv := [vr 1]) (by decide +kernel) (Nat.le_of_ble_eq_true rfl) rfl ?_
  refine oj_ald0 (pc := 0) (by decide +kernel) ?_
  refine oj_getI' (pc := 1) (ki := 3) f_T_25 s_1_3 rfl (by decide +kernel) ?_
  refine oj_ald0 (pc := 4) (by decide +kernel) ?_
  refine oj_getI' (pc := 5) (ki := 2) f_T_22 s_1_2 rfl (by decide +kernel) ?_
  refine oj_icmp_lt (pc := 8) (off := 7) (tgt := 15) (by decide +kernel) (by decide) H (fun _ H => ?_) (fun _ H => ?_)
  · refine oj_iconst (pc := 15) (v := 0) ⟨by decide, by decide⟩ (by decide +kernel) ?_
    exact oj_iret (pc := 16) (by decide +kernel) rfl rfl (Nat.le_refl _) (Nat.le_refl _) ⟨rfl, H⟩
  · refine oj_iconst (pc := 11) (v := 1) ⟨by decide, by decide⟩ (by decide +kernel) ?_
    refine oj_goto (pc := 12) (off := 4) (tgt := 16) (by decide +kernel) (by decide) ?_
    exact oj_iret (pc := 16) (by decide +kernel) rfl rfl (Nat.le_refl _) (Nat.le_refl _) ⟨rfl, H⟩
theorem c_LR_read_0 {l : Launch} {f : Nat} {M : oM} {K : Int × oM → Prop} (H : okp (p_LR_read f M) K) : oKf l m_LR_read 52 [vr 36] M K := by
  refine oK_intro (lv := [vr 36, vu, vu]) (by decide +kernel) (Nat.le_of_ble_eq_true rfl) rfl ?_
  have h18 : ∀ (g : Nat) (l1 : Int) (M : oM), okp (iter (p_LR_read_L18 f) g (l1, M)) K → oJ l m_LR_read (oEf 52 K) 0 0 18 [vr 36, vi l1, vu] [] WD M := by
    intro g l1 M H
    have HL := fun hs => iter_J' (Jh := fun s => oJ l m_LR_read (oEf 52 K) 0 0 18 [vr 36, vi s.1, vu] [] WD s.2) (G := K) hs g (l1, M) H
    refine HL ?_
    intro K18 s i18 e18 H
    obtain ⟨l1, M⟩ := s
    show oJ l m_LR_read (oEf 52 K) 0 0 18 [vr 36, vi l1, vu] [] WD M
    refine oj_ld1 (pc := 18) (by decide +kernel) ?_
    refine oj_bipush (pc := 19) (v := 16) ⟨by decide, by decide⟩ (by decide +kernel) ?_
    refine oj_icmp_gt (pc := 21) (off := 67) (tgt := 88) (by decide +kernel) (by decide) H (fun _ H => ?_) (fun _ H => ?_)
    · refine oj_ald0 (pc := 88) (by decide +kernel) ?_
      refine oj_getR' (pc := 89) f_LR_9 s_36_0 (by decide +kernel) ?_
      refine oj_iconst (pc := 92) (v := 4) ⟨by decide, by decide⟩ (by decide +kernel) ?_
      refine of_Vi (pc := 93) (as := [_]) v_LR_42 o_1 rfl rfl (Nat.le_of_ble_eq_true rfl) (by decide +kernel) (by decide) rfl (c_T_fault_0 (okp_bind H)) (fun r M H => ?_)
      have H := e18 _ H
      exact oj_iret (pc := 96) (by decide +kernel) rfl rfl (Nat.le_refl _) (Nat.le_refl _) ⟨rfl, H⟩
    · refine oj_ald0 (pc := 24) (by decide +kernel) ?_
      refine oj_ld1 (pc := 25) (by decide +kernel) ?_
      refine of_Vi (pc := 26) (as := [_]) v_LR_28 o_36 rfl rfl (Nat.le_of_ble_eq_true rfl) (by decide +kernel) (by decide) rfl (c_LR_readRule_0 (okp_bind H)) (fun r M H => ?_)
      refine oj_st2 (pc := 29) (by decide +kernel) (by decide +kernel) ?_
      refine oj_ld2 (pc := 30) (by decide +kernel) ?_
      refine oj_if_eq (pc := 31) (off := 5) (tgt := 36) (by decide +kernel) (by decide) H (fun _ H => ?_) (fun _ H => ?_)
      · refine oj_ald0 (pc := 36) (by decide +kernel) ?_
        refine oj_getR' (pc := 37) f_LR_9 s_36_0 (by decide +kernel) ?_
        refine of_Vi (pc := 40) (as := []) v_LR_32 o_1 rfl rfl (Nat.le_of_ble_eq_true rfl) (by decide +kernel) (by decide) rfl (c_T_ended_0 (okp_bind H)) (fun r M H => ?_)
        refine oj_if_eq (pc := 43) (off := 11) (tgt := 54) (by decide +kernel) (by decide) H (fun _ H => ?_) (fun _ H => ?_)
        · refine oj_ald0 (pc := 54) (by decide +kernel) ?_
          refine oj_getR' (pc := 55) f_LR_9 s_36_0 (by decide +kernel) ?_
          refine of_Vi (pc := 58) (as := []) v_LR_38 o_1 rfl rfl (Nat.le_of_ble_eq_true rfl) (by decide +kernel) (by decide) rfl (c_T_next_0 (okp_bind H)) (fun r M H => ?_)
          refine oj_bipush (pc := 61) (v := 59) ⟨by decide, by decide⟩ (by decide +kernel) ?_
          refine oj_icmp_eq (pc := 63) (off := 12) (tgt := 75) (by decide +kernel) (by decide) H (fun _ H => ?_) (fun _ H => ?_)
          · refine oj_ald0 (pc := 75) (by decide +kernel) ?_
            refine oj_getR' (pc := 76) f_LR_9 s_36_0 (by decide +kernel) ?_
            refine of_Vv (pc := 79) (as := []) v_LR_45 o_1 rfl rfl (Nat.le_of_ble_eq_true rfl) (by decide +kernel) (by decide) rfl (c_T_step_0 (okp_bind H)) (fun M H => ?_)
            refine oj_inc1 (pc := 82) (d := 1) (by decide +kernel) (by decide +kernel) ?_
            have H := okp_lt H
            refine oj_goto (pc := 85) (off := -67) (tgt := 18) (by decide +kernel) (by decide) ?_
            refine oj_le (lv' := [_, _, vu]) ⟨Or.inr rfl, Or.inr rfl, Or.inl rfl, trivial⟩ ?_
            have H := i18 _ H
            exact H
          · refine oj_ald0 (pc := 66) (by decide +kernel) ?_
            refine oj_getR' (pc := 67) f_LR_9 s_36_0 (by decide +kernel) ?_
            refine oj_iconst (pc := 70) (v := 1) ⟨by decide, by decide⟩ (by decide +kernel) ?_
            refine of_Vi (pc := 71) (as := [_]) v_LR_42 o_1 rfl rfl (Nat.le_of_ble_eq_true rfl) (by decide +kernel) (by decide) rfl (c_T_fault_0 (okp_bind H)) (fun r M H => ?_)
            have H := e18 _ H
            exact oj_iret (pc := 74) (by decide +kernel) rfl rfl (Nat.le_refl _) (Nat.le_refl _) ⟨rfl, H⟩
        · refine oj_ald0 (pc := 46) (by decide +kernel) ?_
          refine oj_getR' (pc := 47) f_LR_15 s_36_1 (by decide +kernel) ?_
          refine oj_getI' (pc := 50) (ki := 10) f_LR_25 s_27_10 rfl (by decide +kernel) ?_
          have H := e18 _ H
          exact oj_iret (pc := 53) (by decide +kernel) rfl rfl (Nat.le_refl _) (Nat.le_refl _) ⟨rfl, H⟩
      · refine oj_ld2 (pc := 34) (by decide +kernel) ?_
        have H := e18 _ H
        exact oj_iret (pc := 35) (by decide +kernel) rfl rfl (Nat.le_refl _) (Nat.le_refl _) ⟨rfl, H⟩
  refine oj_ald0 (pc := 0) (by decide +kernel) ?_
  refine oj_getR' (pc := 1) f_LR_15 s_36_1 (by decide +kernel) ?_
  refine oj_iconst (pc := 4) (v := 0) ⟨by decide, by decide⟩ (by decide +kernel) ?_
  refine oj_putI' (pc := 5) (ki := 9) f_LR_19 s_27_9 rfl (by decide +kernel) ?_
  have H := okp_lt H
  refine oj_ald0 (pc := 8) (by decide +kernel) ?_
  refine oj_getR' (pc := 9) f_LR_15 s_36_1 (by decide +kernel) ?_
  refine oj_iconst (pc := 12) (v := 0) ⟨by decide, by decide⟩ (by decide +kernel) ?_
  refine oj_putI' (pc := 13) (ki := 10) f_LR_25 s_27_10 rfl (by decide +kernel) ?_
  have H := okp_lt H
  refine oj_iconst (pc := 16) (v := 0) ⟨by decide, by decide⟩ (by decide +kernel) ?_
  refine oj_st1 (pc := 17) (by decide +kernel) (by decide +kernel) ?_
  exact h18 _ _ _ H
theorem c_T_clear_0 {l : Launch} {f : Nat} {M : oM} {K : Int × oM → Prop} (H : okp (p_T_clear f M) K) : oKf l m_T_clear 2 [vr 1] M K := by
  refine oK_intro (lv := [vr 1]) (by decide +kernel) (Nat.le_of_ble_eq_true rfl) rfl ?_
  refine oj_ald0 (pc := 0) (by decide +kernel) ?_
  refine oj_iconst (pc := 1) (v := 0) ⟨by decide, by decide⟩ (by decide +kernel) ?_
  refine oj_putI' (pc := 2) (ki := 1) f_T_19 s_1_1 rfl (by decide +kernel) ?_
  have H := okp_lt H
  exact oj_vret (pc := 5) (by decide +kernel) rfl (Nat.le_refl _) (Nat.le_refl _) ⟨rfl, H⟩
theorem c_T_opens_0 {l : Launch} {f : Nat} {l1 l2 l3 : Int} {M : oM} {K : Int × oM → Prop} (H : okp (p_T_opens f l1 l2 l3 M) K) : oKf l m_T_opens 3 [vr 1, vi l1, vi l2, vi l3] M K := by
  refine oK_intro (lv := [vr 1, vi l1, vi l2, vi l3]) (by decide +kernel) (Nat.le_of_ble_eq_true rfl) rfl ?_
  refine oj_ld1 (pc := 0) (by decide +kernel) ?_
  refine oj_ld2 (pc := 1) (by decide +kernel) ?_
  refine oj_icmp_lt (pc := 2) (off := 16) (tgt := 18) (by decide +kernel) (by decide) H (fun _ H => ?_) (fun _ H => ?_)
  · refine oj_iconst (pc := 18) (v := 0) ⟨by decide, by decide⟩ (by decide +kernel) ?_
    exact oj_iret (pc := 19) (by decide +kernel) rfl rfl (Nat.le_refl _) (Nat.le_refl _) ⟨rfl, H⟩
  · refine oj_ld1 (pc := 5) (by decide +kernel) ?_
    refine oj_ld3 (pc := 6) (by decide +kernel) ?_
    refine oj_icmp_gt (pc := 7) (off := 11) (tgt := 18) (by decide +kernel) (by decide) H (fun _ H => ?_) (fun _ H => ?_)
    · refine oj_iconst (pc := 18) (v := 0) ⟨by decide, by decide⟩ (by decide +kernel) ?_
      exact oj_iret (pc := 19) (by decide +kernel) rfl rfl (Nat.le_refl _) (Nat.le_refl _) ⟨rfl, H⟩
    · refine oj_ld1 (pc := 10) (by decide +kernel) ?_
      refine oj_ald0 (pc := 11) (by decide +kernel) ?_
      refine oj_getI' (pc := 12) (ki := 1) f_T_19 s_1_1 rfl (by decide +kernel) ?_
      refine oj_icmp_le (pc := 15) (off := 5) (tgt := 20) (by decide +kernel) (by decide) H (fun _ H => ?_) (fun _ H => ?_)
      · refine oj_ald0 (pc := 20) (by decide +kernel) ?_
        refine oj_ld1 (pc := 21) (by decide +kernel) ?_
        refine oj_putI' (pc := 22) (ki := 2) f_T_22 s_1_2 rfl (by decide +kernel) ?_
        have H := okp_lt H
        refine oj_ald0 (pc := 25) (by decide +kernel) ?_
        refine oj_iconst (pc := 26) (v := -1) ⟨by decide, by decide⟩ (by decide +kernel) ?_
        refine oj_putI' (pc := 27) (ki := 3) f_T_25 s_1_3 rfl (by decide +kernel) ?_
        have H := okp_lt H
        refine oj_ald0 (pc := 30) (by decide +kernel) ?_
        refine of_Vv (pc := 31) (as := []) v_T_28 o_1 rfl rfl (Nat.le_of_ble_eq_true rfl) (by decide +kernel) (by decide) rfl (c_T_step_0 (okp_bind H)) (fun M H => ?_)
        refine oj_iconst (pc := 34) (v := 1) ⟨by decide, by decide⟩ (by decide +kernel) ?_
        exact oj_iret (pc := 35) (by decide +kernel) rfl rfl (Nat.le_refl _) (Nat.le_refl _) ⟨rfl, H⟩
      · refine oj_iconst (pc := 18) (v := 0) ⟨by decide, by decide⟩ (by decide +kernel) ?_
        exact oj_iret (pc := 19) (by decide +kernel) rfl rfl (Nat.le_refl _) (Nat.le_refl _) ⟨rfl, H⟩
theorem c_O_law_0 {l : Launch} {f : Nat} {l1 : Int} {M : oM} {K : Int × oM → Prop} (H : okp (p_O_law f l1 M) K) : oKf l m_O_law 53 [vr 0, vi l1] M K := by
  refine oK_intro (lv := [vr 0, vi l1, vu]) (by decide +kernel) (Nat.le_of_ble_eq_true rfl) rfl ?_
  refine oj_ald0 (pc := 0) (by decide +kernel) ?_
  refine oj_getR' (pc := 1) f_O_12 s_0_0 (by decide +kernel) ?_
  refine oj_ld1 (pc := 4) (by decide +kernel) ?_
  refine oj_iconst (pc := 5) (v := 1) ⟨by decide, by decide⟩ (by decide +kernel) ?_
  refine oj_sipush (pc := 6) (v := 240) ⟨by decide, by decide⟩ (by decide +kernel) ?_
  refine of_Vi (pc := 9) (as := [_, _, _]) v_O_128 o_1 rfl rfl (Nat.le_of_ble_eq_true rfl) (by decide +kernel) (by decide) rfl (c_T_opens_0 (okp_bind H)) (fun r M H => ?_)
  refine oj_if_ne (pc := 12) (off := 5) (tgt := 17) (by decide +kernel) (by decide) H (fun _ H => ?_) (fun _ H => ?_)
  · refine oj_ald0 (pc := 17) (by decide +kernel) ?_
    refine oj_getR' (pc := 18) f_O_53 s_0_7 (by decide +kernel) ?_
    refine of_Vi (pc := 21) (as := []) v_O_132 o_36 rfl rfl (Nat.le_of_ble_eq_true rfl) (by decide +kernel) (by decide) rfl (c_LR_read_0 (okp_bind H)) (fun r M H => ?_)
    refine oj_st2 (pc := 24) (by decide +kernel) (by decide +kernel) ?_
    refine oj_ald0 (pc := 25) (by decide +kernel) ?_
    refine oj_getR' (pc := 26) f_O_12 s_0_0 (by decide +kernel) ?_
    refine of_Vv (pc := 29) (as := []) v_O_135 o_1 rfl rfl (Nat.le_of_ble_eq_true rfl) (by decide +kernel) (by decide) rfl (c_T_clear_0 (okp_bind H)) (fun M H => ?_)
    refine oj_ld2 (pc := 32) (by decide +kernel) ?_
    refine oj_if_le (pc := 33) (off := 14) (tgt := 47) (by decide +kernel) (by decide) H (fun _ H => ?_) (fun _ H => ?_)
    · refine oj_ld2 (pc := 47) (by decide +kernel) ?_
      exact oj_iret (pc := 48) (by decide +kernel) rfl rfl (Nat.le_refl _) (Nat.le_refl _) ⟨rfl, H⟩
    · refine oj_ald0 (pc := 36) (by decide +kernel) ?_
      refine oj_getR' (pc := 37) f_O_41 s_0_5 (by decide +kernel) ?_
      refine oj_ald0 (pc := 40) (by decide +kernel) ?_
      refine oj_getR' (pc := 41) f_O_45 s_0_6 (by decide +kernel) ?_
      refine of_Vv (pc := 44) (as := [_]) v_O_138 o_18 rfl rfl (Nat.le_of_ble_eq_true rfl) (by decide +kernel) (by decide) rfl (c_L_takeFrom_0 (okp_bind H)) (fun M H => ?_)
      refine oj_ld2 (pc := 47) (by decide +kernel) ?_
      exact oj_iret (pc := 48) (by decide +kernel) rfl rfl (Nat.le_refl _) (Nat.le_refl _) ⟨rfl, H⟩
  · refine oj_iconst (pc := 15) (v := -1) ⟨by decide, by decide⟩ (by decide +kernel) ?_
    exact oj_iret (pc := 16) (by decide +kernel) rfl rfl (Nat.le_refl _) (Nat.le_refl _) ⟨rfl, H⟩
theorem c_T_place_0 {l : Launch} {f : Nat} {M : oM} {K : Int × oM → Prop} (H : okp (p_T_place f M) K) : oKf l m_T_place 2 [vr 1] M K := by
  refine oK_intro (lv := [vr 1]) (by decide +kernel) (Nat.le_of_ble_eq_true rfl) rfl ?_
  refine oj_ald0 (pc := 0) (by decide +kernel) ?_
  refine oj_getI' (pc := 1) (ki := 3) f_T_25 s_1_3 rfl (by decide +kernel) ?_
  exact oj_iret (pc := 4) (by decide +kernel) rfl rfl (Nat.le_refl _) (Nat.le_refl _) ⟨rfl, H⟩
theorem c_DR_readMany_0 {l : Launch} {f : Nat} {l1 : Int} {M : oM} {K : Int × oM → Prop} (H : okp (p_DR_readMany f l1 M) K) : oKf l m_DR_readMany 3 [vr 37, vi l1] M K := by
  refine oK_intro (lv := [vr 37, vi l1, vu, vu, vu]) (by decide +kernel) (Nat.le_of_ble_eq_true rfl) rfl ?_
  have h27 : ∀ (g : Nat) (l1 l2 l3 l4 : Int) (M : oM), okp (iter (p_DR_readMany_L27 f l1 l2) g (l3, l4, M)) K → oJ l m_DR_readMany (oEf 3 K) 0 0 27 [vr 37, vi l1, vi l2, vi l3, vi l4] [] WD M := by
    intro g l1 l2 l3 l4 M H
    have HL := fun hs => iter_J' (Jh := fun s => oJ l m_DR_readMany (oEf 3 K) 0 0 27 [vr 37, vi l1, vi l2, vi s.1, vi s.2.1] [] WD s.2.2) (G := K) hs g (l3, l4, M) H
    refine HL ?_
    intro K27 s i27 e27 H
    obtain ⟨l3, l4, M⟩ := s
    show oJ l m_DR_readMany (oEf 3 K) 0 0 27 [vr 37, vi l1, vi l2, vi l3, vi l4] [] WD M
    have h72 : ∀ (l3 : Int) (M : oM), okp (p_DR_readMany_B72_27 f l1 l2 l3 M) K27 → oJ l m_DR_readMany (oEf 3 K) 0 0 72 [vr 37, vi l1, vi l2, vi l3, vu] [] WD M := by
      intro l3 M H
      refine oj_ld3 (pc := 72) (by decide +kernel) ?_
      refine oj_if_ne (pc := 73) (off := 13) (tgt := 86) (by decide +kernel) (by decide) H (fun _ H => ?_) (fun _ H => ?_)
      · refine oj_ald0 (pc := 86) (by decide +kernel) ?_
        refine oj_getR' (pc := 87) f_DR_9 s_37_2 (by decide +kernel) ?_
        refine oj_ld1 (pc := 90) (by decide +kernel) ?_
        refine oj_bipush (pc := 91) (v := 99) ⟨by decide, by decide⟩ (by decide +kernel) ?_
        refine oj_ald0 (pc := 93) (by decide +kernel) ?_
        refine oj_getR' (pc := 94) f_DR_9 s_37_2 (by decide +kernel) ?_
        refine oj_ld1 (pc := 97) (by decide +kernel) ?_
        refine oj_iald (pc := 98) (NN := 100) a_38 rfl (by decide +kernel) H (fun H => ?_)
        refine oj_ld3 (pc := 99) (by decide +kernel) ?_
        refine oj_iadd (pc := 100) (by decide +kernel) ?_
        refine oj_mmin (pc := 101) q_DR_71 mm_min (Nat.le_of_ble_eq_true rfl) (Nat.le_of_ble_eq_true rfl) (Nat.zero_le _) (Nat.zero_le _) (by decide +kernel) ?_
        refine oj_iast (pc := 104) (NN := 100) a_38 rfl (by decide +kernel) H (fun H => ?_)
        have H := okp_lt H
        refine oj_iconst (pc := 105) (v := 0) ⟨by decide, by decide⟩ (by decide +kernel) ?_
        have H := e27 _ H
        exact oj_iret (pc := 106) (by decide +kernel) rfl rfl (Nat.le_refl _) (Nat.le_refl _) ⟨rfl, H⟩
      · refine oj_ald0 (pc := 76) (by decide +kernel) ?_
        refine oj_getR' (pc := 77) f_DR_15 s_37_0 (by decide +kernel) ?_
        refine oj_iconst (pc := 80) (v := 3) ⟨by decide, by decide⟩ (by decide +kernel) ?_
        refine oj_ld2 (pc := 81) (by decide +kernel) ?_
        refine of_Vi (pc := 82) (as := [_, _]) v_DR_67 o_1 rfl rfl (Nat.le_of_ble_eq_true rfl) (by decide +kernel) (by decide) rfl (c_T_faultAt_0 (okp_bind H)) (fun r M H => ?_)
        have H := e27 _ H
        exact oj_iret (pc := 85) (by decide +kernel) rfl rfl (Nat.le_refl _) (Nat.le_refl _) ⟨rfl, H⟩
    refine oj_ld4 (pc := 27) (by decide +kernel) ?_
    refine oj_iconst (pc := 29) (v := 2) ⟨by decide, by decide⟩ (by decide +kernel) ?_
    refine oj_icmp_ge (pc := 30) (off := 42) (tgt := 72) (by decide +kernel) (by decide) H (fun _ H => ?_) (fun _ H => ?_)
    · refine oj_le (lv' := [_, _, _, _, vu]) ⟨Or.inr rfl, Or.inr rfl, Or.inr rfl, Or.inr rfl, Or.inl rfl, trivial⟩ ?_
      exact h72 _ _ H
    · refine oj_ald0 (pc := 33) (by decide +kernel) ?_
      refine oj_getR' (pc := 34) f_DR_15 s_37_0 (by decide +kernel) ?_
      refine of_Vi (pc := 37) (as := []) v_DR_64 o_1 rfl rfl (Nat.le_of_ble_eq_true rfl) (by decide +kernel) (by decide) rfl (c_T_nextIsDigit_0 (okp_bind H)) (fun r M H => ?_)
      refine oj_if_eq (pc := 40) (off := 32) (tgt := 72) (by decide +kernel) (by decide) H (fun _ H => ?_) (fun _ H => ?_)
      · refine oj_le (lv' := [_, _, _, _, vu]) ⟨Or.inr rfl, Or.inr rfl, Or.inr rfl, Or.inr rfl, Or.inl rfl, trivial⟩ ?_
        exact h72 _ _ H
      · refine oj_ld3 (pc := 43) (by decide +kernel) ?_
        refine oj_bipush (pc := 44) (v := 10) ⟨by decide, by decide⟩ (by decide +kernel) ?_
        refine oj_imul (pc := 46) (by decide +kernel) ?_
        refine oj_ald0 (pc := 47) (by decide +kernel) ?_
        refine oj_getR' (pc := 48) f_DR_15 s_37_0 (by decide +kernel) ?_
        refine of_Vi (pc := 51) (as := []) v_DR_39 o_1 rfl rfl (Nat.le_of_ble_eq_true rfl) (by decide +kernel) (by decide) rfl (c_T_next_0 (okp_bind H)) (fun r M H => ?_)
        refine oj_iadd (pc := 54) (by decide +kernel) ?_
        refine oj_bipush (pc := 55) (v := 48) ⟨by decide, by decide⟩ (by decide +kernel) ?_
        refine oj_isub (pc := 57) (by decide +kernel) ?_
        refine oj_st3 (pc := 58) (by decide +kernel) (by decide +kernel) ?_
        have H := okp_lt H
        refine oj_ald0 (pc := 59) (by decide +kernel) ?_
        refine oj_getR' (pc := 60) f_DR_15 s_37_0 (by decide +kernel) ?_
        refine of_Vv (pc := 63) (as := []) v_DR_46 o_1 rfl rfl (Nat.le_of_ble_eq_true rfl) (by decide +kernel) (by decide) rfl (c_T_step_0 (okp_bind H)) (fun M H => ?_)
        refine oj_inc4 (pc := 66) (d := 1) (by decide +kernel) (by decide +kernel) ?_
        have H := okp_lt H
        refine oj_goto (pc := 69) (off := -42) (tgt := 27) (by decide +kernel) (by decide) ?_
        have H := i27 _ H
        exact H
  have h23 : ∀ (l1 l2 s0 : Int) (M : oM), okp (p_DR_readMany_B23 f l1 l2 s0 M) K → oJ l m_DR_readMany (oEf 3 K) 0 0 23 [vr 37, vi l1, vi l2, vu, vu] [vi s0] WD M := by
    intro l1 l2 s0 M H
    refine oj_st3 (pc := 23) (by decide +kernel) (by decide +kernel) ?_
    refine oj_iconst (pc := 24) (v := 0) ⟨by decide, by decide⟩ (by decide +kernel) ?_
    refine oj_st4 (pc := 25) (by decide +kernel) (by decide +kernel) ?_
    exact h27 _ _ _ _ _ _ H
  refine oj_ald0 (pc := 0) (by decide +kernel) ?_
  refine oj_getR' (pc := 1) f_DR_15 s_37_0 (by decide +kernel) ?_
  refine of_Vi (pc := 4) (as := []) v_DR_61 o_1 rfl rfl (Nat.le_of_ble_eq_true rfl) (by decide +kernel) (by decide) rfl (c_T_place_0 (okp_bind H)) (fun r M H => ?_)
  refine oj_st2 (pc := 7) (by decide +kernel) (by decide +kernel) ?_
  refine oj_ald0 (pc := 8) (by decide +kernel) ?_
  refine oj_getR' (pc := 9) f_DR_15 s_37_0 (by decide +kernel) ?_
  refine of_Vi (pc := 12) (as := []) v_DR_64 o_1 rfl rfl (Nat.le_of_ble_eq_true rfl) (by decide +kernel) (by decide) rfl (c_T_nextIsDigit_0 (okp_bind H)) (fun r M H => ?_)
  refine oj_if_eq (pc := 15) (off := 7) (tgt := 22) (by decide +kernel) (by decide) H (fun _ H => ?_) (fun _ H => ?_)
  · refine oj_iconst (pc := 22) (v := 1) ⟨by decide, by decide⟩ (by decide +kernel) ?_
    exact h23 _ _ _ _ H
  · refine oj_iconst (pc := 18) (v := 0) ⟨by decide, by decide⟩ (by decide +kernel) ?_
    refine oj_goto (pc := 19) (off := 4) (tgt := 23) (by decide +kernel) (by decide) ?_
    exact h23 _ _ _ _ H
theorem c_T_nextOne_0 {l : Launch} {f : Nat} {M : oM} {K : Int × oM → Prop} (H : okp (p_T_nextOne f M) K) : oKf l m_T_nextOne 3 [vr 1] M K := by
  refine oK_intro (lv := [vr 1, vu]) (by decide +kernel) (Nat.le_of_ble_eq_true rfl) rfl ?_
  refine oj_ald0 (pc := 0) (by decide +kernel) ?_
  refine oj_getI' (pc := 1) (ki := 4) f_T_15 s_1_4 rfl (by decide +kernel) ?_
  refine oj_bipush (pc := 4) (v := 97) ⟨by decide, by decide⟩ (by decide +kernel) ?_
  refine oj_isub (pc := 6) (by decide +kernel) ?_
  refine oj_st1 (pc := 7) (by decide +kernel) (by decide +kernel) ?_
  have H := okp_lt H
  refine oj_ld1 (pc := 8) (by decide +kernel) ?_
  refine of_Si (pc := 9) (as := [_]) v_T_31 rfl rfl (Nat.le_of_ble_eq_true rfl) (by decide +kernel) (by decide) rfl (c_O_isOne_0 (okp_bind H)) (fun r M H => ?_)
  refine oj_if_eq (pc := 12) (off := 7) (tgt := 19) (by decide +kernel) (by decide) H (fun _ H => ?_) (fun _ H => ?_)
  · refine oj_iconst (pc := 19) (v := -1) ⟨by decide, by decide⟩ (by decide +kernel) ?_
    exact oj_iret (pc := 20) (by decide +kernel) rfl rfl (Nat.le_refl _) (Nat.le_refl _) ⟨rfl, H⟩
  · refine oj_ld1 (pc := 15) (by decide +kernel) ?_
    refine oj_goto (pc := 16) (off := 4) (tgt := 20) (by decide +kernel) (by decide) ?_
    exact oj_iret (pc := 20) (by decide +kernel) rfl rfl (Nat.le_refl _) (Nat.le_refl _) ⟨rfl, H⟩
theorem c_DR_readLine_0 {l : Launch} {f : Nat} {l1 : Int} {M : oM} {K : Int × oM → Prop} (H : okp (p_DR_readLine f l1 M) K) : oKf l m_DR_readLine 4 [vr 37, vi l1] M K := by
  refine oK_intro (lv := [vr 37, vi l1, vu, vu]) (by decide +kernel) (Nat.le_of_ble_eq_true rfl) rfl ?_
  refine oj_ald0 (pc := 0) (by decide +kernel) ?_
  refine oj_getR' (pc := 1) f_DR_15 s_37_0 (by decide +kernel) ?_
  refine of_Vi (pc := 4) (as := []) v_DR_49 o_1 rfl rfl (Nat.le_of_ble_eq_true rfl) (by decide +kernel) (by decide) rfl (c_T_nextOne_0 (okp_bind H)) (fun r M H => ?_)
  refine oj_st2 (pc := 7) (by decide +kernel) (by decide +kernel) ?_
  refine oj_ld2 (pc := 8) (by decide +kernel) ?_
  refine oj_if_ge (pc := 9) (off := 12) (tgt := 21) (by decide +kernel) (by decide) H (fun _ H => ?_) (fun _ H => ?_)
  · refine oj_ld1 (pc := 21) (by decide +kernel) ?_
    refine oj_bipush (pc := 22) (v := 30) ⟨by decide, by decide⟩ (by decide +kernel) ?_
    refine oj_icmp_lt (pc := 24) (off := 12) (tgt := 36) (by decide +kernel) (by decide) H (fun _ H => ?_) (fun _ H => ?_)
    · refine oj_ald0 (pc := 36) (by decide +kernel) ?_
      refine oj_getR' (pc := 37) f_DR_19 s_37_1 (by decide +kernel) ?_
      refine oj_ld2 (pc := 40) (by decide +kernel) ?_
      refine of_Vi (pc := 41) (as := [_]) v_DR_52 o_3 rfl rfl (Nat.le_of_ble_eq_true rfl) (by decide +kernel) (by decide) rfl (c_P_has_0 (okp_bind H)) (fun r M H => ?_)
      refine oj_if_ne (pc := 44) (off := 13) (tgt := 57) (by decide +kernel) (by decide) H (fun _ H => ?_) (fun _ H => ?_)
      · refine oj_ald0 (pc := 57) (by decide +kernel) ?_
        refine oj_getR' (pc := 58) f_DR_15 s_37_0 (by decide +kernel) ?_
        refine of_Vv (pc := 61) (as := []) v_DR_46 o_1 rfl rfl (Nat.le_of_ble_eq_true rfl) (by decide +kernel) (by decide) rfl (c_T_step_0 (okp_bind H)) (fun M H => ?_)
        refine oj_ald0 (pc := 64) (by decide +kernel) ?_
        refine oj_getR' (pc := 65) f_DR_15 s_37_0 (by decide +kernel) ?_
        refine of_Vi (pc := 68) (as := []) v_DR_39 o_1 rfl rfl (Nat.le_of_ble_eq_true rfl) (by decide +kernel) (by decide) rfl (c_T_next_0 (okp_bind H)) (fun r M H => ?_)
        refine oj_bipush (pc := 71) (v := 62) ⟨by decide, by decide⟩ (by decide +kernel) ?_
        refine oj_icmp_eq (pc := 73) (off := 12) (tgt := 85) (by decide +kernel) (by decide) H (fun _ H => ?_) (fun _ H => ?_)
        · refine oj_ald0 (pc := 85) (by decide +kernel) ?_
          refine oj_getR' (pc := 86) f_DR_15 s_37_0 (by decide +kernel) ?_
          refine of_Vv (pc := 89) (as := []) v_DR_46 o_1 rfl rfl (Nat.le_of_ble_eq_true rfl) (by decide +kernel) (by decide) rfl (c_T_step_0 (okp_bind H)) (fun M H => ?_)
          refine oj_ald0 (pc := 92) (by decide +kernel) ?_
          refine oj_getR' (pc := 93) f_DR_15 s_37_0 (by decide +kernel) ?_
          refine of_Vi (pc := 96) (as := []) v_DR_49 o_1 rfl rfl (Nat.le_of_ble_eq_true rfl) (by decide +kernel) (by decide) rfl (c_T_nextOne_0 (okp_bind H)) (fun r M H => ?_)
          refine oj_st3 (pc := 99) (by decide +kernel) (by decide +kernel) ?_
          refine oj_ld3 (pc := 100) (by decide +kernel) ?_
          refine oj_if_ge (pc := 101) (off := 12) (tgt := 113) (by decide +kernel) (by decide) H (fun _ H => ?_) (fun _ H => ?_)
          · refine oj_ald0 (pc := 113) (by decide +kernel) ?_
            refine oj_getR' (pc := 114) f_DR_19 s_37_1 (by decide +kernel) ?_
            refine oj_ld3 (pc := 117) (by decide +kernel) ?_
            refine of_Vi (pc := 118) (as := [_]) v_DR_52 o_3 rfl rfl (Nat.le_of_ble_eq_true rfl) (by decide +kernel) (by decide) rfl (c_P_has_0 (okp_bind H)) (fun r M H => ?_)
            refine oj_if_ne (pc := 121) (off := 13) (tgt := 134) (by decide +kernel) (by decide) H (fun _ H => ?_) (fun _ H => ?_)
            · refine oj_ld3 (pc := 134) (by decide +kernel) ?_
              refine oj_ld2 (pc := 135) (by decide +kernel) ?_
              refine oj_icmp_ne (pc := 136) (off := 13) (tgt := 149) (by decide +kernel) (by decide) H (fun _ H => ?_) (fun _ H => ?_)
              · refine oj_ald0 (pc := 149) (by decide +kernel) ?_
                refine oj_getR' (pc := 150) f_DR_15 s_37_0 (by decide +kernel) ?_
                refine of_Vv (pc := 153) (as := []) v_DR_46 o_1 rfl rfl (Nat.le_of_ble_eq_true rfl) (by decide +kernel) (by decide) rfl (c_T_step_0 (okp_bind H)) (fun M H => ?_)
                refine oj_ald0 (pc := 156) (by decide +kernel) ?_
                refine oj_ld2 (pc := 157) (by decide +kernel) ?_
                refine oj_bipush (pc := 158) (v := 10) ⟨by decide, by decide⟩ (by decide +kernel) ?_
                refine oj_imul (pc := 160) (by decide +kernel) ?_
                refine oj_ld3 (pc := 161) (by decide +kernel) ?_
                refine oj_iadd (pc := 162) (by decide +kernel) ?_
                refine of_Vi (pc := 163) (as := [_]) v_DR_58 o_37 rfl rfl (Nat.le_of_ble_eq_true rfl) (by decide +kernel) (by decide) rfl (c_DR_readMany_0 (okp_bind H)) (fun r M H => ?_)
                exact oj_iret (pc := 166) (by decide +kernel) rfl rfl (Nat.le_refl _) (Nat.le_refl _) ⟨rfl, H⟩
              · refine oj_ald0 (pc := 139) (by decide +kernel) ?_
                refine oj_getR' (pc := 140) f_DR_15 s_37_0 (by decide +kernel) ?_
                refine oj_bipush (pc := 143) (v := 6) ⟨by decide, by decide⟩ (by decide +kernel) ?_
                refine of_Vi (pc := 145) (as := [_]) v_DR_43 o_1 rfl rfl (Nat.le_of_ble_eq_true rfl) (by decide +kernel) (by decide) rfl (c_T_fault_0 (okp_bind H)) (fun r M H => ?_)
                exact oj_iret (pc := 148) (by decide +kernel) rfl rfl (Nat.le_refl _) (Nat.le_refl _) ⟨rfl, H⟩
            · refine oj_ald0 (pc := 124) (by decide +kernel) ?_
              refine oj_getR' (pc := 125) f_DR_15 s_37_0 (by decide +kernel) ?_
              refine oj_bipush (pc := 128) (v := 7) ⟨by decide, by decide⟩ (by decide +kernel) ?_
              refine of_Vi (pc := 130) (as := [_]) v_DR_43 o_1 rfl rfl (Nat.le_of_ble_eq_true rfl) (by decide +kernel) (by decide) rfl (c_T_fault_0 (okp_bind H)) (fun r M H => ?_)
              exact oj_iret (pc := 133) (by decide +kernel) rfl rfl (Nat.le_refl _) (Nat.le_refl _) ⟨rfl, H⟩
          · refine oj_ald0 (pc := 104) (by decide +kernel) ?_
            refine oj_getR' (pc := 105) f_DR_15 s_37_0 (by decide +kernel) ?_
            refine oj_iconst (pc := 108) (v := 1) ⟨by decide, by decide⟩ (by decide +kernel) ?_
            refine of_Vi (pc := 109) (as := [_]) v_DR_43 o_1 rfl rfl (Nat.le_of_ble_eq_true rfl) (by decide +kernel) (by decide) rfl (c_T_fault_0 (okp_bind H)) (fun r M H => ?_)
            exact oj_iret (pc := 112) (by decide +kernel) rfl rfl (Nat.le_refl _) (Nat.le_refl _) ⟨rfl, H⟩
        · refine oj_ald0 (pc := 76) (by decide +kernel) ?_
          refine oj_getR' (pc := 77) f_DR_15 s_37_0 (by decide +kernel) ?_
          refine oj_iconst (pc := 80) (v := 1) ⟨by decide, by decide⟩ (by decide +kernel) ?_
          refine of_Vi (pc := 81) (as := [_]) v_DR_43 o_1 rfl rfl (Nat.le_of_ble_eq_true rfl) (by decide +kernel) (by decide) rfl (c_T_fault_0 (okp_bind H)) (fun r M H => ?_)
          exact oj_iret (pc := 84) (by decide +kernel) rfl rfl (Nat.le_refl _) (Nat.le_refl _) ⟨rfl, H⟩
      · refine oj_ald0 (pc := 47) (by decide +kernel) ?_
        refine oj_getR' (pc := 48) f_DR_15 s_37_0 (by decide +kernel) ?_
        refine oj_bipush (pc := 51) (v := 7) ⟨by decide, by decide⟩ (by decide +kernel) ?_
        refine of_Vi (pc := 53) (as := [_]) v_DR_43 o_1 rfl rfl (Nat.le_of_ble_eq_true rfl) (by decide +kernel) (by decide) rfl (c_T_fault_0 (okp_bind H)) (fun r M H => ?_)
        exact oj_iret (pc := 56) (by decide +kernel) rfl rfl (Nat.le_refl _) (Nat.le_refl _) ⟨rfl, H⟩
    · refine oj_ald0 (pc := 27) (by decide +kernel) ?_
      refine oj_getR' (pc := 28) f_DR_15 s_37_0 (by decide +kernel) ?_
      refine oj_iconst (pc := 31) (v := 4) ⟨by decide, by decide⟩ (by decide +kernel) ?_
      refine of_Vi (pc := 32) (as := [_]) v_DR_43 o_1 rfl rfl (Nat.le_of_ble_eq_true rfl) (by decide +kernel) (by decide) rfl (c_T_fault_0 (okp_bind H)) (fun r M H => ?_)
      exact oj_iret (pc := 35) (by decide +kernel) rfl rfl (Nat.le_refl _) (Nat.le_refl _) ⟨rfl, H⟩
  · refine oj_ald0 (pc := 12) (by decide +kernel) ?_
    refine oj_getR' (pc := 13) f_DR_15 s_37_0 (by decide +kernel) ?_
    refine oj_iconst (pc := 16) (v := 1) ⟨by decide, by decide⟩ (by decide +kernel) ?_
    refine of_Vi (pc := 17) (as := [_]) v_DR_43 o_1 rfl rfl (Nat.le_of_ble_eq_true rfl) (by decide +kernel) (by decide) rfl (c_T_fault_0 (okp_bind H)) (fun r M H => ?_)
    exact oj_iret (pc := 20) (by decide +kernel) rfl rfl (Nat.le_refl _) (Nat.le_refl _) ⟨rfl, H⟩
theorem c_JA_fill_0 {l : Launch} {f : Nat} {l1 : Int} {M : oM} {K : Int × oM → Prop} (H : okp (p_JA_fill f 38 100 l1 M) K) : oKf l m_JA_fill 2 [vr 38, vi l1] M K := by
  refine oK_intro (lv := [vr 38, vi l1, vu, vu]) (by decide +kernel) (Nat.le_of_ble_eq_true rfl) rfl ?_
  have h5 : ∀ (g : Nat) (l1 l2 l3 : Int) (M : oM), okp (iter (p_JA_fill_L5 f 38 100 l1 l3) g (l2, M)) K → oJ l m_JA_fill (oEf 2 K) 0 0 5 [vr 38, vi l1, vi l2, vi l3] [] WD M := by
    intro g l1 l2 l3 M H
    have HL := fun hs => iter_J' (Jh := fun s => oJ l m_JA_fill (oEf 2 K) 0 0 5 [vr 38, vi l1, vi s.1, vi l3] [] WD s.2) (G := K) hs g (l2, M) H
    refine HL ?_
    intro K5 s i5 e5 H
    obtain ⟨l2, M⟩ := s
    show oJ l m_JA_fill (oEf 2 K) 0 0 5 [vr 38, vi l1, vi l2, vi l3] [] WD M
    refine oj_ld2 (pc := 5) (by decide +kernel) ?_
    refine oj_ld3 (pc := 6) (by decide +kernel) ?_
    refine oj_icmp_ge (pc := 7) (off := 13) (tgt := 20) (by decide +kernel) (by decide) H (fun _ H => ?_) (fun _ H => ?_)
    · have H := e5 _ H
      exact oj_vret (pc := 20) (by decide +kernel) rfl (Nat.le_refl _) (Nat.le_refl _) ⟨rfl, H⟩
    · refine oj_ald0 (pc := 10) (by decide +kernel) ?_
      refine oj_ld2 (pc := 11) (by decide +kernel) ?_
      refine oj_ld1 (pc := 12) (by decide +kernel) ?_
      refine oj_iast (pc := 13) (NN := 100) a_38 rfl (by decide +kernel) H (fun H => ?_)
      have H := okp_lt H
      refine oj_inc2 (pc := 14) (d := 1) (by decide +kernel) (by decide +kernel) ?_
      have H := okp_lt H
      refine oj_goto (pc := 17) (off := -12) (tgt := 5) (by decide +kernel) (by decide) ?_
      have H := i5 _ H
      exact H
  refine oj_iconst (pc := 0) (v := 0) ⟨by decide, by decide⟩ (by decide +kernel) ?_
  refine oj_st2 (pc := 1) (by decide +kernel) (by decide +kernel) ?_
  refine oj_ald0 (pc := 2) (by decide +kernel) ?_
  refine oj_alen (pc := 3) (NN := 100) a_38 rfl (by decide) (by decide +kernel) ?_
  refine oj_st3 (pc := 4) (by decide +kernel) (by decide +kernel) ?_
  exact h5 _ _ _ _ _ H
theorem c_JA_fill_1 {l : Launch} {f : Nat} {l1 : Int} {M : oM} {K : Int × oM → Prop} (H : okp (p_JA_fill f 46 10 l1 M) K) : oKf l m_JA_fill 2 [vr 46, vi l1] M K := by
  refine oK_intro (lv := [vr 46, vi l1, vu, vu]) (by decide +kernel) (Nat.le_of_ble_eq_true rfl) rfl ?_
  have h5 : ∀ (g : Nat) (l1 l2 l3 : Int) (M : oM), okp (iter (p_JA_fill_L5 f 46 10 l1 l3) g (l2, M)) K → oJ l m_JA_fill (oEf 2 K) 0 0 5 [vr 46, vi l1, vi l2, vi l3] [] WD M := by
    intro g l1 l2 l3 M H
    have HL := fun hs => iter_J' (Jh := fun s => oJ l m_JA_fill (oEf 2 K) 0 0 5 [vr 46, vi l1, vi s.1, vi l3] [] WD s.2) (G := K) hs g (l2, M) H
    refine HL ?_
    intro K5 s i5 e5 H
    obtain ⟨l2, M⟩ := s
    show oJ l m_JA_fill (oEf 2 K) 0 0 5 [vr 46, vi l1, vi l2, vi l3] [] WD M
    refine oj_ld2 (pc := 5) (by decide +kernel) ?_
    refine oj_ld3 (pc := 6) (by decide +kernel) ?_
    refine oj_icmp_ge (pc := 7) (off := 13) (tgt := 20) (by decide +kernel) (by decide) H (fun _ H => ?_) (fun _ H => ?_)
    · have H := e5 _ H
      exact oj_vret (pc := 20) (by decide +kernel) rfl (Nat.le_refl _) (Nat.le_refl _) ⟨rfl, H⟩
    · refine oj_ald0 (pc := 10) (by decide +kernel) ?_
      refine oj_ld2 (pc := 11) (by decide +kernel) ?_
      refine oj_ld1 (pc := 12) (by decide +kernel) ?_
      refine oj_iast (pc := 13) (NN := 10) a_46 rfl (by decide +kernel) H (fun H => ?_)
      have H := okp_lt H
      refine oj_inc2 (pc := 14) (d := 1) (by decide +kernel) (by decide +kernel) ?_
      have H := okp_lt H
      refine oj_goto (pc := 17) (off := -12) (tgt := 5) (by decide +kernel) (by decide) ?_
      have H := i5 _ H
      exact H
  refine oj_iconst (pc := 0) (v := 0) ⟨by decide, by decide⟩ (by decide +kernel) ?_
  refine oj_st2 (pc := 1) (by decide +kernel) (by decide +kernel) ?_
  refine oj_ald0 (pc := 2) (by decide +kernel) ?_
  refine oj_alen (pc := 3) (NN := 10) a_46 rfl (by decide) (by decide +kernel) ?_
  refine oj_st3 (pc := 4) (by decide +kernel) (by decide +kernel) ?_
  exact h5 _ _ _ _ _ H
theorem c_JA_fill_2 {l : Launch} {f : Nat} {l1 : Int} {M : oM} {K : Int × oM → Prop} (H : okp (p_JA_fill f 25 8 l1 M) K) : oKf l m_JA_fill 2 [vr 25, vi l1] M K := by
  refine oK_intro (lv := [vr 25, vi l1, vu, vu]) (by decide +kernel) (Nat.le_of_ble_eq_true rfl) rfl ?_
  have h5 : ∀ (g : Nat) (l1 l2 l3 : Int) (M : oM), okp (iter (p_JA_fill_L5 f 25 8 l1 l3) g (l2, M)) K → oJ l m_JA_fill (oEf 2 K) 0 0 5 [vr 25, vi l1, vi l2, vi l3] [] WD M := by
    intro g l1 l2 l3 M H
    have HL := fun hs => iter_J' (Jh := fun s => oJ l m_JA_fill (oEf 2 K) 0 0 5 [vr 25, vi l1, vi s.1, vi l3] [] WD s.2) (G := K) hs g (l2, M) H
    refine HL ?_
    intro K5 s i5 e5 H
    obtain ⟨l2, M⟩ := s
    show oJ l m_JA_fill (oEf 2 K) 0 0 5 [vr 25, vi l1, vi l2, vi l3] [] WD M
    refine oj_ld2 (pc := 5) (by decide +kernel) ?_
    refine oj_ld3 (pc := 6) (by decide +kernel) ?_
    refine oj_icmp_ge (pc := 7) (off := 13) (tgt := 20) (by decide +kernel) (by decide) H (fun _ H => ?_) (fun _ H => ?_)
    · have H := e5 _ H
      exact oj_vret (pc := 20) (by decide +kernel) rfl (Nat.le_refl _) (Nat.le_refl _) ⟨rfl, H⟩
    · refine oj_ald0 (pc := 10) (by decide +kernel) ?_
      refine oj_ld2 (pc := 11) (by decide +kernel) ?_
      refine oj_ld1 (pc := 12) (by decide +kernel) ?_
      refine oj_iast (pc := 13) (NN := 8) a_25 rfl (by decide +kernel) H (fun H => ?_)
      have H := okp_lt H
      refine oj_inc2 (pc := 14) (d := 1) (by decide +kernel) (by decide +kernel) ?_
      have H := okp_lt H
      refine oj_goto (pc := 17) (off := -12) (tgt := 5) (by decide +kernel) (by decide) ?_
      have H := i5 _ H
      exact H
  refine oj_iconst (pc := 0) (v := 0) ⟨by decide, by decide⟩ (by decide +kernel) ?_
  refine oj_st2 (pc := 1) (by decide +kernel) (by decide +kernel) ?_
  refine oj_ald0 (pc := 2) (by decide +kernel) ?_
  refine oj_alen (pc := 3) (NN := 8) a_25 rfl (by decide) (by decide +kernel) ?_
  refine oj_st3 (pc := 4) (by decide +kernel) (by decide +kernel) ?_
  exact h5 _ _ _ _ _ H
theorem c_JA_fill_3 {l : Launch} {f : Nat} {l1 : Int} {M : oM} {K : Int × oM → Prop} (H : okp (p_JA_fill f 43 100 l1 M) K) : oKf l m_JA_fill 2 [vr 43, vi l1] M K := by
  refine oK_intro (lv := [vr 43, vi l1, vu, vu]) (by decide +kernel) (Nat.le_of_ble_eq_true rfl) rfl ?_
  have h5 : ∀ (g : Nat) (l1 l2 l3 : Int) (M : oM), okp (iter (p_JA_fill_L5 f 43 100 l1 l3) g (l2, M)) K → oJ l m_JA_fill (oEf 2 K) 0 0 5 [vr 43, vi l1, vi l2, vi l3] [] WD M := by
    intro g l1 l2 l3 M H
    have HL := fun hs => iter_J' (Jh := fun s => oJ l m_JA_fill (oEf 2 K) 0 0 5 [vr 43, vi l1, vi s.1, vi l3] [] WD s.2) (G := K) hs g (l2, M) H
    refine HL ?_
    intro K5 s i5 e5 H
    obtain ⟨l2, M⟩ := s
    show oJ l m_JA_fill (oEf 2 K) 0 0 5 [vr 43, vi l1, vi l2, vi l3] [] WD M
    refine oj_ld2 (pc := 5) (by decide +kernel) ?_
    refine oj_ld3 (pc := 6) (by decide +kernel) ?_
    refine oj_icmp_ge (pc := 7) (off := 13) (tgt := 20) (by decide +kernel) (by decide) H (fun _ H => ?_) (fun _ H => ?_)
    · have H := e5 _ H
      exact oj_vret (pc := 20) (by decide +kernel) rfl (Nat.le_refl _) (Nat.le_refl _) ⟨rfl, H⟩
    · refine oj_ald0 (pc := 10) (by decide +kernel) ?_
      refine oj_ld2 (pc := 11) (by decide +kernel) ?_
      refine oj_ld1 (pc := 12) (by decide +kernel) ?_
      refine oj_iast (pc := 13) (NN := 100) a_43 rfl (by decide +kernel) H (fun H => ?_)
      have H := okp_lt H
      refine oj_inc2 (pc := 14) (d := 1) (by decide +kernel) (by decide +kernel) ?_
      have H := okp_lt H
      refine oj_goto (pc := 17) (off := -12) (tgt := 5) (by decide +kernel) (by decide) ?_
      have H := i5 _ H
      exact H
  refine oj_iconst (pc := 0) (v := 0) ⟨by decide, by decide⟩ (by decide +kernel) ?_
  refine oj_st2 (pc := 1) (by decide +kernel) (by decide +kernel) ?_
  refine oj_ald0 (pc := 2) (by decide +kernel) ?_
  refine oj_alen (pc := 3) (NN := 100) a_43 rfl (by decide) (by decide +kernel) ?_
  refine oj_st3 (pc := 4) (by decide +kernel) (by decide +kernel) ?_
  exact h5 _ _ _ _ _ H
theorem c_JA_fill_4 {l : Launch} {f : Nat} {l1 : Int} {M : oM} {K : Int × oM → Prop} (H : okp (p_JA_fill f 44 100 l1 M) K) : oKf l m_JA_fill 2 [vr 44, vi l1] M K := by
  refine oK_intro (lv := [vr 44, vi l1, vu, vu]) (by decide +kernel) (Nat.le_of_ble_eq_true rfl) rfl ?_
  have h5 : ∀ (g : Nat) (l1 l2 l3 : Int) (M : oM), okp (iter (p_JA_fill_L5 f 44 100 l1 l3) g (l2, M)) K → oJ l m_JA_fill (oEf 2 K) 0 0 5 [vr 44, vi l1, vi l2, vi l3] [] WD M := by
    intro g l1 l2 l3 M H
    have HL := fun hs => iter_J' (Jh := fun s => oJ l m_JA_fill (oEf 2 K) 0 0 5 [vr 44, vi l1, vi s.1, vi l3] [] WD s.2) (G := K) hs g (l2, M) H
    refine HL ?_
    intro K5 s i5 e5 H
    obtain ⟨l2, M⟩ := s
    show oJ l m_JA_fill (oEf 2 K) 0 0 5 [vr 44, vi l1, vi l2, vi l3] [] WD M
    refine oj_ld2 (pc := 5) (by decide +kernel) ?_
    refine oj_ld3 (pc := 6) (by decide +kernel) ?_
    refine oj_icmp_ge (pc := 7) (off := 13) (tgt := 20) (by decide +kernel) (by decide) H (fun _ H => ?_) (fun _ H => ?_)
    · have H := e5 _ H
      exact oj_vret (pc := 20) (by decide +kernel) rfl (Nat.le_refl _) (Nat.le_refl _) ⟨rfl, H⟩
    · refine oj_ald0 (pc := 10) (by decide +kernel) ?_
      refine oj_ld2 (pc := 11) (by decide +kernel) ?_
      refine oj_ld1 (pc := 12) (by decide +kernel) ?_
      refine oj_iast (pc := 13) (NN := 100) a_44 rfl (by decide +kernel) H (fun H => ?_)
      have H := okp_lt H
      refine oj_inc2 (pc := 14) (d := 1) (by decide +kernel) (by decide +kernel) ?_
      have H := okp_lt H
      refine oj_goto (pc := 17) (off := -12) (tgt := 5) (by decide +kernel) (by decide) ?_
      have H := i5 _ H
      exact H
  refine oj_iconst (pc := 0) (v := 0) ⟨by decide, by decide⟩ (by decide +kernel) ?_
  refine oj_st2 (pc := 1) (by decide +kernel) (by decide +kernel) ?_
  refine oj_ald0 (pc := 2) (by decide +kernel) ?_
  refine oj_alen (pc := 3) (NN := 100) a_44 rfl (by decide) (by decide +kernel) ?_
  refine oj_st3 (pc := 4) (by decide +kernel) (by decide +kernel) ?_
  exact h5 _ _ _ _ _ H
theorem c_DR_read_0 {l : Launch} {f : Nat} {M : oM} {K : Int × oM → Prop} (H : okp (p_DR_read f M) K) : oKf l m_DR_read 5 [vr 37] M K := by
  refine oK_intro (lv := [vr 37, vu, vu]) (by decide +kernel) (Nat.le_of_ble_eq_true rfl) rfl ?_
  have h10 : ∀ (g : Nat) (l1 : Int) (M : oM), okp (iter (p_DR_read_L10 f) g (l1, M)) K → oJ l m_DR_read (oEf 5 K) 0 0 10 [vr 37, vi l1, vu] [] WD M := by
    intro g l1 M H
    have HL := fun hs => iter_J' (Jh := fun s => oJ l m_DR_read (oEf 5 K) 0 0 10 [vr 37, vi s.1, vu] [] WD s.2) (G := K) hs g (l1, M) H
    refine HL ?_
    intro K10 s i10 e10 H
    obtain ⟨l1, M⟩ := s
    show oJ l m_DR_read (oEf 5 K) 0 0 10 [vr 37, vi l1, vu] [] WD M
    refine oj_ld1 (pc := 10) (by decide +kernel) ?_
    refine oj_bipush (pc := 11) (v := 30) ⟨by decide, by decide⟩ (by decide +kernel) ?_
    refine oj_icmp_gt (pc := 13) (off := 59) (tgt := 72) (by decide +kernel) (by decide) H (fun _ H => ?_) (fun _ H => ?_)
    · refine oj_ald0 (pc := 72) (by decide +kernel) ?_
      refine oj_getR' (pc := 73) f_DR_15 s_37_0 (by decide +kernel) ?_
      refine oj_iconst (pc := 76) (v := 4) ⟨by decide, by decide⟩ (by decide +kernel) ?_
      refine of_Vi (pc := 77) (as := [_]) v_DR_43 o_1 rfl rfl (Nat.le_of_ble_eq_true rfl) (by decide +kernel) (by decide) rfl (c_T_fault_0 (okp_bind H)) (fun r M H => ?_)
      have H := e10 _ H
      exact oj_iret (pc := 80) (by decide +kernel) rfl rfl (Nat.le_refl _) (Nat.le_refl _) ⟨rfl, H⟩
    · refine oj_ald0 (pc := 16) (by decide +kernel) ?_
      refine oj_ld1 (pc := 17) (by decide +kernel) ?_
      refine of_Vi (pc := 18) (as := [_]) v_DR_29 o_37 rfl rfl (Nat.le_of_ble_eq_true rfl) (by decide +kernel) (by decide) rfl (c_DR_readLine_0 (okp_bind H)) (fun r M H => ?_)
      refine oj_st2 (pc := 21) (by decide +kernel) (by decide +kernel) ?_
      refine oj_ld2 (pc := 22) (by decide +kernel) ?_
      refine oj_if_ne (pc := 23) (off := 13) (tgt := 36) (by decide +kernel) (by decide) H (fun _ H => ?_) (fun _ H => ?_)
      · refine oj_ld2 (pc := 36) (by decide +kernel) ?_
        have H := e10 _ H
        exact oj_iret (pc := 37) (by decide +kernel) rfl rfl (Nat.le_refl _) (Nat.le_refl _) ⟨rfl, H⟩
      · refine oj_ald0 (pc := 26) (by decide +kernel) ?_
        refine oj_getR' (pc := 27) f_DR_15 s_37_0 (by decide +kernel) ?_
        refine of_Vi (pc := 30) (as := []) v_DR_33 o_1 rfl rfl (Nat.le_of_ble_eq_true rfl) (by decide +kernel) (by decide) rfl (c_T_ended_0 (okp_bind H)) (fun r M H => ?_)
        refine oj_if_eq (pc := 33) (off := 5) (tgt := 38) (by decide +kernel) (by decide) H (fun _ H => ?_) (fun _ H => ?_)
        · refine oj_ald0 (pc := 38) (by decide +kernel) ?_
          refine oj_getR' (pc := 39) f_DR_15 s_37_0 (by decide +kernel) ?_
          refine of_Vi (pc := 42) (as := []) v_DR_39 o_1 rfl rfl (Nat.le_of_ble_eq_true rfl) (by decide +kernel) (by decide) rfl (c_T_next_0 (okp_bind H)) (fun r M H => ?_)
          refine oj_bipush (pc := 45) (v := 59) ⟨by decide, by decide⟩ (by decide +kernel) ?_
          refine oj_icmp_eq (pc := 47) (off := 12) (tgt := 59) (by decide +kernel) (by decide) H (fun _ H => ?_) (fun _ H => ?_)
          · refine oj_ald0 (pc := 59) (by decide +kernel) ?_
            refine oj_getR' (pc := 60) f_DR_15 s_37_0 (by decide +kernel) ?_
            refine of_Vv (pc := 63) (as := []) v_DR_46 o_1 rfl rfl (Nat.le_of_ble_eq_true rfl) (by decide +kernel) (by decide) rfl (c_T_step_0 (okp_bind H)) (fun M H => ?_)
            refine oj_inc1 (pc := 66) (d := 1) (by decide +kernel) (by decide +kernel) ?_
            have H := okp_lt H
            refine oj_goto (pc := 69) (off := -59) (tgt := 10) (by decide +kernel) (by decide) ?_
            refine oj_le (lv' := [_, _, vu]) ⟨Or.inr rfl, Or.inr rfl, Or.inl rfl, trivial⟩ ?_
            have H := i10 _ H
            exact H
          · refine oj_ald0 (pc := 50) (by decide +kernel) ?_
            refine oj_getR' (pc := 51) f_DR_15 s_37_0 (by decide +kernel) ?_
            refine oj_iconst (pc := 54) (v := 1) ⟨by decide, by decide⟩ (by decide +kernel) ?_
            refine of_Vi (pc := 55) (as := [_]) v_DR_43 o_1 rfl rfl (Nat.le_of_ble_eq_true rfl) (by decide +kernel) (by decide) rfl (c_T_fault_0 (okp_bind H)) (fun r M H => ?_)
            have H := e10 _ H
            exact oj_iret (pc := 58) (by decide +kernel) rfl rfl (Nat.le_refl _) (Nat.le_refl _) ⟨rfl, H⟩
        · refine oj_ld2 (pc := 36) (by decide +kernel) ?_
          have H := e10 _ H
          exact oj_iret (pc := 37) (by decide +kernel) rfl rfl (Nat.le_refl _) (Nat.le_refl _) ⟨rfl, H⟩
  refine oj_ald0 (pc := 0) (by decide +kernel) ?_
  refine oj_getR' (pc := 1) f_DR_9 s_37_2 (by decide +kernel) ?_
  refine oj_iconst (pc := 4) (v := 0) ⟨by decide, by decide⟩ (by decide +kernel) ?_
  refine of_Sv (pc := 5) (as := [_, _]) v_DR_23 rfl rfl (Nat.le_of_ble_eq_true rfl) (by decide +kernel) (by decide) rfl (c_JA_fill_0 (okp_bind H)) (fun M H => ?_)
  refine oj_iconst (pc := 8) (v := 0) ⟨by decide, by decide⟩ (by decide +kernel) ?_
  refine oj_st1 (pc := 9) (by decide +kernel) (by decide +kernel) ?_
  exact h10 _ _ _ H
