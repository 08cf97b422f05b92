/-! walks (by program) -/
theorem c_M_two_0 {l : Launch} {f : Nat} {l1 : Int} {M : oM} {K : Int × oM → Prop} (H : okp (p_M_two f l1 M) K) : oKf l m_M_two 6 [vr 57, vi l1] M K := by
  refine oK_intro (lv := [vr 57, vi l1, vu, vu, vu, vu]) (by decide +kernel) (Nat.le_of_ble_eq_true rfl) rfl ?_
  have h52 : ∀ (g : Nat) (l1 l2 l3 l4 : Int) (M : oM), okp (iter (p_M_two_L52 f l1 l2) g (l3, l4, M)) K → oJ l m_M_two (oEf 6 K) 0 0 52 [vr 57, vi l1, vi l2, vi l3, vi l4, vu] [] WD M := by
    intro g l1 l2 l3 l4 M H
    have HL := fun hs => iter_J' (Jh := fun s => oJ l m_M_two (oEf 6 K) 0 0 52 [vr 57, vi l1, vi l2, vi s.1, vi s.2.1, vu] [] WD s.2.2) (G := K) hs g (l3, l4, M) H
    refine HL ?_
    intro K52 s i52 e52 H
    obtain ⟨l3, l4, M⟩ := s
    show oJ l m_M_two (oEf 6 K) 0 0 52 [vr 57, vi l1, vi l2, vi l3, vi l4, vu] [] WD M
    have h119 : ∀ (l3 l4 : Int) (M : oM), okp (p_M_two_B119_52 f l1 l2 l3 l4 M) K52 → oJ l m_M_two (oEf 6 K) 0 0 119 [vr 57, vi l1, vi l2, vi l3, vi l4, vu] [] WD M := by
      intro l3 l4 M H
      refine oj_inc4 (pc := 119) (d := 1) (by decide +kernel) (by decide +kernel) ?_
      have H := okp_lt H
      refine oj_goto (pc := 122) (off := -70) (tgt := 52) (by decide +kernel) (by decide) ?_
      have H := i52 _ H
      exact H
    refine oj_ld4 (pc := 52) (by decide +kernel) ?_
    refine oj_ld2 (pc := 54) (by decide +kernel) ?_
    refine oj_icmp_gt (pc := 55) (off := 70) (tgt := 125) (by decide +kernel) (by decide) H (fun _ H => ?_) (fun _ H => ?_)
    · refine oj_ld3 (pc := 125) (by decide +kernel) ?_
      refine oj_ldcw (pc := 126) (v := 1000000) k_M_412 ⟨by decide, by decide⟩ (by decide +kernel) ?_
      refine oj_icmp_ne (pc := 129) (off := 8) (tgt := 137) (by decide +kernel) (by decide) H (fun _ H => ?_) (fun _ H => ?_)
      · refine oj_ld3 (pc := 137) (by decide +kernel) ?_
        have H := e52 _ H
        exact oj_iret (pc := 138) (by decide +kernel) rfl rfl (Nat.le_refl _) (Nat.le_refl _) ⟨rfl, H⟩
      · refine oj_bipush (pc := 132) (v := -4) ⟨by decide, by decide⟩ (by decide +kernel) ?_
        refine oj_goto (pc := 134) (off := 4) (tgt := 138) (by decide +kernel) (by decide) ?_
        have H := e52 _ H
        exact oj_iret (pc := 138) (by decide +kernel) rfl rfl (Nat.le_refl _) (Nat.le_refl _) ⟨rfl, H⟩
    · refine oj_ald0 (pc := 58) (by decide +kernel) ?_
      refine oj_ld4 (pc := 59) (by decide +kernel) ?_
      refine of_Vi (pc := 61) (as := [_]) v_M_447 o_57 rfl rfl (Nat.le_of_ble_eq_true rfl) (by decide +kernel) (by decide) rfl (c_M_hoursOf_0 (okp_bind H)) (fun r M H => ?_)
      refine oj_ald0 (pc := 64) (by decide +kernel) ?_
      refine oj_ld2 (pc := 65) (by decide +kernel) ?_
      refine oj_ld4 (pc := 66) (by decide +kernel) ?_
      refine oj_iconst (pc := 68) (v := -1) ⟨by decide, by decide⟩ (by decide +kernel) ?_
      refine oj_ixor (pc := 69) (by decide +kernel) ?_
      refine oj_iand (pc := 70) (by decide +kernel) ?_
      refine of_Vi (pc := 71) (as := [_]) v_M_447 o_57 rfl rfl (Nat.le_of_ble_eq_true rfl) (by decide +kernel) (by decide) rfl (c_M_hoursOf_0 (okp_bind H)) (fun r M H => ?_)
      refine of_Si (pc := 74) (as := [_, _]) v_M_143 rfl rfl (Nat.le_of_ble_eq_true rfl) (by decide +kernel) (by decide) rfl (c_M_max_0 (okp_bind H)) (fun r M H => ?_)
      refine oj_st5 (pc := 77) (by decide +kernel) (by decide +kernel) ?_
      refine oj_ld5 (pc := 79) (by decide +kernel) ?_
      refine oj_ld3 (pc := 81) (by decide +kernel) ?_
      refine oj_icmp_ge (pc := 82) (off := 37) (tgt := 119) (by decide +kernel) (by decide) H (fun _ H => ?_) (fun _ H => ?_)
      · refine oj_le (lv' := [_, _, _, _, _, vu]) ⟨Or.inr rfl, Or.inr rfl, Or.inr rfl, Or.inr rfl, Or.inr rfl, Or.inl rfl, trivial⟩ ?_
        exact h119 _ _ _ H
      · refine oj_ald0 (pc := 85) (by decide +kernel) ?_
        refine oj_ld4 (pc := 86) (by decide +kernel) ?_
        refine oj_ald0 (pc := 88) (by decide +kernel) ?_
        refine oj_getR' (pc := 89) f_M_7 s_57_0 (by decide +kernel) ?_
        refine oj_sipush (pc := 92) (v := 151) ⟨by decide, by decide⟩ (by decide +kernel) ?_
        refine oj_iald (pc := 95) (NN := 159) a_58 rfl (by decide +kernel) H (fun H => ?_)
        refine of_Vi (pc := 96) (as := [_, _]) v_M_450 o_57 rfl rfl (Nat.le_of_ble_eq_true rfl) (by decide +kernel) (by decide) rfl (c_M_isRowOf_0 (okp_bind H)) (fun r M H => ?_)
        refine oj_if_eq (pc := 99) (off := 20) (tgt := 119) (by decide +kernel) (by decide) H (fun _ H => ?_) (fun _ H => ?_)
        · refine oj_le (lv' := [_, _, _, _, _, vu]) ⟨Or.inr rfl, Or.inr rfl, Or.inr rfl, Or.inr rfl, Or.inr rfl, Or.inl rfl, trivial⟩ ?_
          exact h119 _ _ _ H
        · refine oj_ald0 (pc := 102) (by decide +kernel) ?_
          refine oj_ld2 (pc := 103) (by decide +kernel) ?_
          refine oj_ld4 (pc := 104) (by decide +kernel) ?_
          refine oj_iconst (pc := 106) (v := -1) ⟨by decide, by decide⟩ (by decide +kernel) ?_
          refine oj_ixor (pc := 107) (by decide +kernel) ?_
          refine oj_iand (pc := 108) (by decide +kernel) ?_
          refine oj_ld1 (pc := 109) (by decide +kernel) ?_
          refine of_Vi (pc := 110) (as := [_, _]) v_M_450 o_57 rfl rfl (Nat.le_of_ble_eq_true rfl) (by decide +kernel) (by decide) rfl (c_M_isRowOf_0 (okp_bind H)) (fun r M H => ?_)
          refine oj_if_eq (pc := 113) (off := 6) (tgt := 119) (by decide +kernel) (by decide) H (fun _ H => ?_) (fun _ H => ?_)
          · refine oj_le (lv' := [_, _, _, _, _, vu]) ⟨Or.inr rfl, Or.inr rfl, Or.inr rfl, Or.inr rfl, Or.inr rfl, Or.inl rfl, trivial⟩ ?_
            exact h119 _ _ _ H
          · refine oj_ld5 (pc := 116) (by decide +kernel) ?_
            refine oj_st3 (pc := 118) (by decide +kernel) (by decide +kernel) ?_
            refine oj_le (lv' := [_, _, _, _, _, vu]) ⟨Or.inr rfl, Or.inr rfl, Or.inr rfl, Or.inr rfl, Or.inr rfl, Or.inl rfl, trivial⟩ ?_
            exact h119 _ _ _ H
  refine oj_ald0 (pc := 0) (by decide +kernel) ?_
  refine oj_ld1 (pc := 1) (by decide +kernel) ?_
  refine of_Vi (pc := 2) (as := [_]) v_M_135 o_57 rfl rfl (Nat.le_of_ble_eq_true rfl) (by decide +kernel) (by decide) rfl (c_M_isPerson_0 (okp_bind H)) (fun r M H => ?_)
  refine oj_if_ne (pc := 5) (off := 5) (tgt := 10) (by decide +kernel) (by decide) H (fun _ H => ?_) (fun _ H => ?_)
  · refine oj_ald0 (pc := 10) (by decide +kernel) ?_
    refine oj_getR' (pc := 11) f_M_7 s_57_0 (by decide +kernel) ?_
    refine oj_sipush (pc := 14) (v := 151) ⟨by decide, by decide⟩ (by decide +kernel) ?_
    refine oj_iald (pc := 17) (NN := 159) a_58 rfl (by decide +kernel) H (fun H => ?_)
    refine oj_if_ge (pc := 18) (off := 6) (tgt := 24) (by decide +kernel) (by decide) H (fun _ H => ?_) (fun _ H => ?_)
    · refine oj_ald0 (pc := 24) (by decide +kernel) ?_
      refine oj_bipush (pc := 25) (v := 8) ⟨by decide, by decide⟩ (by decide +kernel) ?_
      refine of_Vi (pc := 27) (as := [_]) v_M_403 o_57 rfl rfl (Nat.le_of_ble_eq_true rfl) (by decide +kernel) (by decide) rfl (c_M_laysCoins_0 (okp_bind H)) (fun r M H => ?_)
      refine oj_if_ne (pc := 30) (off := 6) (tgt := 36) (by decide +kernel) (by decide) H (fun _ H => ?_) (fun _ H => ?_)
      · refine oj_iconst (pc := 36) (v := 1) ⟨by decide, by decide⟩ (by decide +kernel) ?_
        refine oj_ald0 (pc := 37) (by decide +kernel) ?_
        refine oj_getI' (pc := 38) (ki := 50) f_M_400 s_57_50 rfl (by decide +kernel) ?_
        refine oj_ishl (pc := 41) (by decide +kernel) ?_
        refine oj_iconst (pc := 42) (v := 1) ⟨by decide, by decide⟩ (by decide +kernel) ?_
        refine oj_isub (pc := 43) (by decide +kernel) ?_
        refine oj_st2 (pc := 44) (by decide +kernel) (by decide +kernel) ?_
        have H := okp_lt H
        refine oj_ldcw (pc := 45) (v := 1000000) k_M_412 ⟨by decide, by decide⟩ (by decide +kernel) ?_
        refine oj_st3 (pc := 48) (by decide +kernel) (by decide +kernel) ?_
        refine oj_iconst (pc := 49) (v := 0) ⟨by decide, by decide⟩ (by decide +kernel) ?_
        refine oj_st4 (pc := 50) (by decide +kernel) (by decide +kernel) ?_
        exact h52 _ _ _ _ _ _ H
      · refine oj_bipush (pc := 33) (v := -3) ⟨by decide, by decide⟩ (by decide +kernel) ?_
        exact oj_iret (pc := 35) (by decide +kernel) rfl rfl (Nat.le_refl _) (Nat.le_refl _) ⟨rfl, H⟩
    · refine oj_bipush (pc := 21) (v := -2) ⟨by decide, by decide⟩ (by decide +kernel) ?_
      exact oj_iret (pc := 23) (by decide +kernel) rfl rfl (Nat.le_refl _) (Nat.le_refl _) ⟨rfl, H⟩
  · refine oj_iconst (pc := 8) (v := -1) ⟨by decide, by decide⟩ (by decide +kernel) ?_
    exact oj_iret (pc := 9) (by decide +kernel) rfl rfl (Nat.le_refl _) (Nat.le_refl _) ⟨rfl, H⟩
theorem c_M_gcd_0 {l : Launch} {f : Nat} {l0 l1 : Int} {M : oM} {K : Int × oM → Prop} (H : okp (p_M_gcd f l0 l1 M) K) : oKf l m_M_gcd 2 [vi l0, vi l1] M K := by
  refine oK_intro (lv := [vi l0, vi l1, vu, vu, vu]) (by decide +kernel) (Nat.le_of_ble_eq_true rfl) rfl ?_
  have h4 : ∀ (g : Nat) (l2 l3 : Int) (M : oM), okp (iter (p_M_gcd_L4 f) g (l2, l3, M)) K → oJ l m_M_gcd (oEf 2 K) 0 0 4 [vu, vu, vi l2, vi l3, vu] [] WD M := by
    intro g l2 l3 M H
    have HL := fun hs => iter_J' (Jh := fun s => oJ l m_M_gcd (oEf 2 K) 0 0 4 [vu, vu, vi s.1, vi s.2.1, vu] [] WD s.2.2) (G := K) hs g (l2, l3, M) H
    refine HL ?_
    intro K4 s i4 e4 H
    obtain ⟨l2, l3, M⟩ := s
    show oJ l m_M_gcd (oEf 2 K) 0 0 4 [vu, vu, vi l2, vi l3, vu] [] WD M
    refine oj_ld3 (pc := 4) (by decide +kernel) ?_
    refine oj_if_eq (pc := 5) (off := 16) (tgt := 21) (by decide +kernel) (by decide) H (fun _ H => ?_) (fun _ H => ?_)
    · refine oj_ld2 (pc := 21) (by decide +kernel) ?_
      have H := e4 _ H
      exact oj_iret (pc := 22) (by decide +kernel) rfl rfl (Nat.le_refl _) (Nat.le_refl _) ⟨rfl, H⟩
    · refine oj_ld2 (pc := 8) (by decide +kernel) ?_
      refine oj_ld3 (pc := 9) (by decide +kernel) ?_
      refine oj_irem (pc := 10) (by decide +kernel) H (fun _ H => ?_)
      refine oj_st4 (pc := 11) (by decide +kernel) (by decide +kernel) ?_
      have H := okp_lt H
      refine oj_ld3 (pc := 13) (by decide +kernel) ?_
      refine oj_st2 (pc := 14) (by decide +kernel) (by decide +kernel) ?_
      refine oj_ld4 (pc := 15) (by decide +kernel) ?_
      refine oj_st3 (pc := 17) (by decide +kernel) (by decide +kernel) ?_
      refine oj_goto (pc := 18) (off := -14) (tgt := 4) (by decide +kernel) (by decide) ?_
      refine oj_le (lv' := [vu, vu, _, _, vu]) ⟨Or.inr rfl, Or.inr rfl, Or.inr rfl, Or.inr rfl, Or.inl rfl, trivial⟩ ?_
      have H := i4 _ H
      exact H
  refine oj_ld0 (pc := 0) (by decide +kernel) ?_
  refine oj_st2 (pc := 1) (by decide +kernel) (by decide +kernel) ?_
  refine oj_ld1 (pc := 2) (by decide +kernel) ?_
  refine oj_st3 (pc := 3) (by decide +kernel) (by decide +kernel) ?_
  refine oj_le (lv' := [vu, vu, _, _, vu]) ⟨Or.inl rfl, Or.inl rfl, Or.inr rfl, Or.inr rfl, Or.inr rfl, trivial⟩ ?_
  exact h4 _ _ _ _ H
theorem c_M_dry_0 {l : Launch} {f : Nat} {l1 l2 : Int} {M : oM} {K : Int × oM → Prop} (H : okp (p_M_dry f l1 l2 M) K) : oKf l m_M_dry 6 [vr 57, vi l1, vi l2] M K := by
  refine oK_intro (lv := [vr 57, vi l1, vi l2, vu, vu, vu, vu]) (by decide +kernel) (Nat.le_of_ble_eq_true rfl) rfl ?_
  have h38 : ∀ (g : Nat) (l1 l2 l3 l4 l5 l6 : Int) (M : oM), okp (iter (p_M_dry_L38 f l1 l2 l3) g (l4, l5, l6, M)) K → oJ l m_M_dry (oEf 6 K) 0 0 38 [vr 57, vi l1, vi l2, vi l3, vi l4, vi l5, vi l6] [] WD M := by
    intro g l1 l2 l3 l4 l5 l6 M H
    have HL := fun hs => iter_J' (Jh := fun s => oJ l m_M_dry (oEf 6 K) 0 0 38 [vr 57, vi l1, vi l2, vi l3, vi s.1, vi s.2.1, vi s.2.2.1] [] WD s.2.2.2) (G := K) hs g (l4, l5, l6, M) H
    refine HL ?_
    intro K38 s i38 e38 H
    obtain ⟨l4, l5, l6, M⟩ := s
    show oJ l m_M_dry (oEf 6 K) 0 0 38 [vr 57, vi l1, vi l2, vi l3, vi l4, vi l5, vi l6] [] WD M
    refine oj_ld6 (pc := 38) (by decide +kernel) ?_
    refine oj_ld1 (pc := 40) (by decide +kernel) ?_
    refine oj_icmp_ge (pc := 41) (off := 22) (tgt := 63) (by decide +kernel) (by decide) H (fun _ H => ?_) (fun _ H => ?_)
    · refine oj_ld4 (pc := 63) (by decide +kernel) ?_
      refine oj_ld5 (pc := 65) (by decide +kernel) ?_
      refine of_Si (pc := 67) (as := [_, _]) v_M_453 rfl rfl (Nat.le_of_ble_eq_true rfl) (by decide +kernel) (by decide) rfl (c_M_gcd_0 (okp_bind H)) (fun r M H => ?_)
      refine oj_st6 (pc := 70) (by decide +kernel) (by decide +kernel) ?_
      refine oj_ld2 (pc := 72) (by decide +kernel) ?_
      refine oj_if_ne (pc := 73) (off := 11) (tgt := 84) (by decide +kernel) (by decide) H (fun _ H => ?_) (fun _ H => ?_)
      · refine oj_ld5 (pc := 84) (by decide +kernel) ?_
        refine oj_ld6 (pc := 86) (by decide +kernel) ?_
        refine oj_idiv (pc := 88) (by decide +kernel) H (fun _ H => ?_)
        have H := e38 _ H
        exact oj_iret (pc := 89) (by decide +kernel) rfl rfl (Nat.le_refl _) (Nat.le_refl _) ⟨rfl, H⟩
      · refine oj_ld4 (pc := 76) (by decide +kernel) ?_
        refine oj_ld6 (pc := 78) (by decide +kernel) ?_
        refine oj_idiv (pc := 80) (by decide +kernel) H (fun _ H => ?_)
        refine oj_goto (pc := 81) (off := 8) (tgt := 89) (by decide +kernel) (by decide) ?_
        have H := e38 _ H
        exact oj_iret (pc := 89) (by decide +kernel) rfl rfl (Nat.le_refl _) (Nat.le_refl _) ⟨rfl, H⟩
    · refine oj_ld4 (pc := 44) (by decide +kernel) ?_
      refine oj_ld3 (pc := 46) (by decide +kernel) ?_
      refine oj_imul (pc := 47) (by decide +kernel) ?_
      refine oj_st4 (pc := 48) (by decide +kernel) (by decide +kernel) ?_
      have H := okp_lt H
      refine oj_ld5 (pc := 50) (by decide +kernel) ?_
      refine oj_bipush (pc := 52) (v := 10) ⟨by decide, by decide⟩ (by decide +kernel) ?_
      refine oj_imul (pc := 54) (by decide +kernel) ?_
      refine oj_st5 (pc := 55) (by decide +kernel) (by decide +kernel) ?_
      have H := okp_lt H
      refine oj_inc6 (pc := 57) (d := 1) (by decide +kernel) (by decide +kernel) ?_
      have H := okp_lt H
      refine oj_goto (pc := 60) (off := -22) (tgt := 38) (by decide +kernel) (by decide) ?_
      have H := i38 _ H
      exact H
  refine oj_ld1 (pc := 0) (by decide +kernel) ?_
  refine oj_iconst (pc := 1) (v := 1) ⟨by decide, by decide⟩ (by decide +kernel) ?_
  refine oj_bipush (pc := 2) (v := 9) ⟨by decide, by decide⟩ (by decide +kernel) ?_
  refine of_Si (pc := 4) (as := [_, _, _]) v_M_123 rfl rfl (Nat.le_of_ble_eq_true rfl) (by decide +kernel) (by decide) rfl (c_M_in_0 (okp_bind H)) (fun r M H => ?_)
  refine oj_if_eq (pc := 7) (off := 12) (tgt := 19) (by decide +kernel) (by decide) H (fun _ H => ?_) (fun _ H => ?_)
  · refine oj_iconst (pc := 19) (v := -1) ⟨by decide, by decide⟩ (by decide +kernel) ?_
    exact oj_iret (pc := 20) (by decide +kernel) rfl rfl (Nat.le_refl _) (Nat.le_refl _) ⟨rfl, H⟩
  · refine oj_ld2 (pc := 10) (by decide +kernel) ?_
    refine oj_iconst (pc := 11) (v := 0) ⟨by decide, by decide⟩ (by decide +kernel) ?_
    refine oj_iconst (pc := 12) (v := 1) ⟨by decide, by decide⟩ (by decide +kernel) ?_
    refine of_Si (pc := 13) (as := [_, _, _]) v_M_123 rfl rfl (Nat.le_of_ble_eq_true rfl) (by decide +kernel) (by decide) rfl (c_M_in_0 (okp_bind H)) (fun r M H => ?_)
    refine oj_if_ne (pc := 16) (off := 5) (tgt := 21) (by decide +kernel) (by decide) H (fun _ H => ?_) (fun _ H => ?_)
    · refine oj_bipush (pc := 21) (v := 10) ⟨by decide, by decide⟩ (by decide +kernel) ?_
      refine oj_ald0 (pc := 23) (by decide +kernel) ?_
      refine of_Vi (pc := 24) (as := []) v_M_303 o_57 rfl rfl (Nat.le_of_ble_eq_true rfl) (by decide +kernel) (by decide) rfl (c_M_rainBy_0 (okp_bind H)) (fun r M H => ?_)
      refine oj_isub (pc := 27) (by decide +kernel) ?_
      refine oj_st3 (pc := 28) (by decide +kernel) (by decide +kernel) ?_
      have H := okp_lt H
      refine oj_iconst (pc := 29) (v := 1) ⟨by decide, by decide⟩ (by decide +kernel) ?_
      refine oj_st4 (pc := 30) (by decide +kernel) (by decide +kernel) ?_
      refine oj_iconst (pc := 32) (v := 1) ⟨by decide, by decide⟩ (by decide +kernel) ?_
      refine oj_st5 (pc := 33) (by decide +kernel) (by decide +kernel) ?_
      refine oj_iconst (pc := 35) (v := 0) ⟨by decide, by decide⟩ (by decide +kernel) ?_
      refine oj_st6 (pc := 36) (by decide +kernel) (by decide +kernel) ?_
      exact h38 _ _ _ _ _ _ _ _ H
    · refine oj_iconst (pc := 19) (v := -1) ⟨by decide, by decide⟩ (by decide +kernel) ?_
      exact oj_iret (pc := 20) (by decide +kernel) rfl rfl (Nat.le_refl _) (Nat.le_refl _) ⟨rfl, H⟩
theorem c_M_seed_0 {l : Launch} {f : Nat} {l1 : Int} {M : oM} {K : Int × oM → Prop} (H : okp (p_M_seed f l1 M) K) : oKf l m_M_seed 3 [vr 57, vi l1] M K := by
  refine oK_intro (lv := [vr 57, vi l1]) (by decide +kernel) (Nat.le_of_ble_eq_true rfl) rfl ?_
  refine oj_ld1 (pc := 0) (by decide +kernel) ?_
  refine oj_iconst (pc := 1) (v := 0) ⟨by decide, by decide⟩ (by decide +kernel) ?_
  refine oj_ldcw (pc := 2) (v := 65535) k_M_456 ⟨by decide, by decide⟩ (by decide +kernel) ?_
  refine of_Si (pc := 5) (as := [_, _, _]) v_M_123 rfl rfl (Nat.le_of_ble_eq_true rfl) (by decide +kernel) (by decide) rfl (c_M_in_0 (okp_bind H)) (fun r M H => ?_)
  refine oj_if_ne (pc := 8) (off := 5) (tgt := 13) (by decide +kernel) (by decide) H (fun _ H => ?_) (fun _ H => ?_)
  · refine oj_ald0 (pc := 13) (by decide +kernel) ?_
    refine oj_getR' (pc := 14) f_M_7 s_57_0 (by decide +kernel) ?_
    refine oj_sipush (pc := 17) (v := 158) ⟨by decide, by decide⟩ (by decide +kernel) ?_
    refine oj_ld1 (pc := 20) (by decide +kernel) ?_
    refine oj_iast (pc := 21) (NN := 159) a_58 rfl (by decide +kernel) H (fun H => ?_)
    have H := okp_lt H
    refine oj_iconst (pc := 22) (v := 1) ⟨by decide, by decide⟩ (by decide +kernel) ?_
    exact oj_iret (pc := 23) (by decide +kernel) rfl rfl (Nat.le_refl _) (Nat.le_refl _) ⟨rfl, H⟩
  · refine oj_iconst (pc := 11) (v := 0) ⟨by decide, by decide⟩ (by decide +kernel) ?_
    exact oj_iret (pc := 12) (by decide +kernel) rfl rfl (Nat.le_refl _) (Nat.le_refl _) ⟨rfl, H⟩
theorem c_M_keep_0 {l : Launch} {f : Nat} {M : oM} {K : Int × oM → Prop} (H : okp (p_M_keep f M) K) : oKf l m_M_keep 5 [vr 57] M K := by
  refine oK_intro (lv := [vr 57]) (by decide +kernel) (Nat.le_of_ble_eq_true rfl) rfl ?_
  refine oj_ald0 (pc := 0) (by decide +kernel) ?_
  refine oj_iconst (pc := 1) (v := 1) ⟨by decide, by decide⟩ (by decide +kernel) ?_
  refine oj_putC' (pc := 2) (ki := 61) f_M_457 s_57_61 rfl rfl rfl (by decide +kernel) ?_
  have H := okp_lt H
  refine oj_ald0 (pc := 5) (by decide +kernel) ?_
  refine oj_getR' (pc := 6) f_M_7 s_57_0 (by decide +kernel) ?_
  refine oj_ald0 (pc := 9) (by decide +kernel) ?_
  refine oj_getR' (pc := 10) f_M_16 s_57_2 (by decide +kernel) ?_
  refine of_Sv (pc := 13) (as := [_, _]) v_M_345 rfl rfl (Nat.le_of_ble_eq_true rfl) (by decide +kernel) (by decide) rfl (c_M_copies_2 (okp_bind H)) (fun M H => ?_)
  refine oj_ald0 (pc := 16) (by decide +kernel) ?_
  refine of_Vi (pc := 17) (as := []) v_M_296 o_57 rfl rfl (Nat.le_of_ble_eq_true rfl) (by decide +kernel) (by decide) rfl (c_M_owedInAll_0 (okp_bind H)) (fun r M H => ?_)
  exact oj_iret (pc := 20) (by decide +kernel) rfl rfl (Nat.le_refl _) (Nat.le_refl _) ⟨rfl, H⟩
theorem c_M_undo_0 {l : Launch} {f : Nat} {M : oM} {K : Int × oM → Prop} (H : okp (p_M_undo f M) K) : oKf l m_M_undo 3 [vr 57] M K := by
  refine oK_intro (lv := [vr 57]) (by decide +kernel) (Nat.le_of_ble_eq_true rfl) rfl ?_
  refine oj_ald0 (pc := 0) (by decide +kernel) ?_
  refine oj_getI' (pc := 1) (ki := 61) f_M_457 s_57_61 rfl (by decide +kernel) ?_
  refine oj_if_ne (pc := 4) (off := 5) (tgt := 9) (by decide +kernel) (by decide) H (fun _ H => ?_) (fun _ H => ?_)
  · refine oj_ald0 (pc := 9) (by decide +kernel) ?_
    refine oj_getR' (pc := 10) f_M_16 s_57_2 (by decide +kernel) ?_
    refine oj_ald0 (pc := 13) (by decide +kernel) ?_
    refine oj_getR' (pc := 14) f_M_7 s_57_0 (by decide +kernel) ?_
    refine of_Sv (pc := 17) (as := [_, _]) v_M_345 rfl rfl (Nat.le_of_ble_eq_true rfl) (by decide +kernel) (by decide) rfl (c_M_copies_3 (okp_bind H)) (fun M H => ?_)
    refine oj_iconst (pc := 20) (v := 1) ⟨by decide, by decide⟩ (by decide +kernel) ?_
    exact oj_iret (pc := 21) (by decide +kernel) rfl rfl (Nat.le_refl _) (Nat.le_refl _) ⟨rfl, H⟩
  · refine oj_iconst (pc := 7) (v := 0) ⟨by decide, by decide⟩ (by decide +kernel) ?_
    exact oj_iret (pc := 8) (by decide +kernel) rfl rfl (Nat.le_refl _) (Nat.le_refl _) ⟨rfl, H⟩
theorem c_M_check_0 {l : Launch} {f : Nat} {l1 : Int} {M : oM} {K : Int × oM → Prop} (H : okp (p_M_check f l1 M) K) : oKf l m_M_check 4 [vr 57, vi l1] M K := by
  refine oK_intro (lv := [vr 57, vi l1, vu]) (by decide +kernel) (Nat.le_of_ble_eq_true rfl) rfl ?_
  have h28 : ∀ (g : Nat) (l1 l2 : Int) (M : oM), okp (iter (p_M_check_L28 f l1) g (l2, M)) K → oJ l m_M_check (oEf 4 K) 0 0 28 [vr 57, vi l1, vi l2] [] WD M := by
    intro g l1 l2 M H
    have HL := fun hs => iter_J' (Jh := fun s => oJ l m_M_check (oEf 4 K) 0 0 28 [vr 57, vi l1, vi s.1] [] WD s.2) (G := K) hs g (l2, M) H
    refine HL ?_
    intro K28 s i28 e28 H
    obtain ⟨l2, M⟩ := s
    show oJ l m_M_check (oEf 4 K) 0 0 28 [vr 57, vi l1, vi l2] [] WD M
    have h66 : ∀ (l2 s0 s1 : Int) (M : oM), okp (p_M_check_B66_28 f l1 l2 s0 s1 M) K28 → oJ l m_M_check (oEf 4 K) 0 0 66 [vr 57, vi l1, vi l2] [vi s1, vi s0] WD M := by
      intro l2 s0 s1 M H
      refine oj_icmp_eq (pc := 66) (off := 5) (tgt := 71) (by decide +kernel) (by decide) H (fun _ H => ?_) (fun _ H => ?_)
      · refine oj_inc2 (pc := 71) (d := 1) (by decide +kernel) (by decide +kernel) ?_
        have H := okp_lt H
        refine oj_goto (pc := 74) (off := -46) (tgt := 28) (by decide +kernel) (by decide) ?_
        have H := i28 _ H
        exact H
      · refine oj_ld2 (pc := 69) (by decide +kernel) ?_
        have H := e28 _ H
        exact oj_iret (pc := 70) (by decide +kernel) rfl rfl (Nat.le_refl _) (Nat.le_refl _) ⟨rfl, H⟩
    refine oj_ld2 (pc := 28) (by decide +kernel) ?_
    refine oj_ld1 (pc := 29) (by decide +kernel) ?_
    refine oj_icmp_ge (pc := 30) (off := 47) (tgt := 77) (by decide +kernel) (by decide) H (fun _ H => ?_) (fun _ H => ?_)
    · refine oj_iconst (pc := 77) (v := -1) ⟨by decide, by decide⟩ (by decide +kernel) ?_
      have H := e28 _ H
      exact oj_iret (pc := 78) (by decide +kernel) rfl rfl (Nat.le_refl _) (Nat.le_refl _) ⟨rfl, H⟩
    · refine oj_ald0 (pc := 33) (by decide +kernel) ?_
      refine oj_getR' (pc := 34) f_M_25 s_57_6 (by decide +kernel) ?_
      refine oj_ld2 (pc := 37) (by decide +kernel) ?_
      refine oj_bald (pc := 38) (NN := 260) a_63 rfl (by decide +kernel) H (fun H => ?_)
      refine oj_sipush (pc := 39) (v := 255) ⟨by decide, by decide⟩ (by decide +kernel) ?_
      refine oj_iand (pc := 42) (by decide +kernel) ?_
      refine oj_ald0 (pc := 43) (by decide +kernel) ?_
      refine oj_ld2 (pc := 44) (by decide +kernel) ?_
      refine of_Vi (pc := 45) (as := [_]) v_M_135 o_57 rfl rfl (Nat.le_of_ble_eq_true rfl) (by decide +kernel) (by decide) rfl (c_M_isPerson_0 (okp_bind H)) (fun r M H => ?_)
      refine oj_if_eq (pc := 48) (off := 17) (tgt := 65) (by decide +kernel) (by decide) H (fun _ H => ?_) (fun _ H => ?_)
      · refine oj_iconst (pc := 65) (v := 0) ⟨by decide, by decide⟩ (by decide +kernel) ?_
        exact h66 _ _ _ _ H
      · refine oj_sipush (pc := 51) (v := 255) ⟨by decide, by decide⟩ (by decide +kernel) ?_
        refine oj_ald0 (pc := 54) (by decide +kernel) ?_
        refine oj_ld2 (pc := 55) (by decide +kernel) ?_
        refine of_Vi (pc := 56) (as := [_]) v_M_150 o_57 rfl rfl (Nat.le_of_ble_eq_true rfl) (by decide +kernel) (by decide) rfl (c_M_owesAll_0 (okp_bind H)) (fun r M H => ?_)
        refine of_Si (pc := 59) (as := [_, _]) v_M_290 rfl rfl (Nat.le_of_ble_eq_true rfl) (by decide +kernel) (by decide) rfl (c_M_min_0 (okp_bind H)) (fun r M H => ?_)
        refine oj_goto (pc := 62) (off := 4) (tgt := 66) (by decide +kernel) (by decide) ?_
        exact h66 _ _ _ _ H
  refine oj_ld1 (pc := 0) (by decide +kernel) ?_
  refine oj_iconst (pc := 1) (v := 0) ⟨by decide, by decide⟩ (by decide +kernel) ?_
  refine oj_bipush (pc := 2) (v := 10) ⟨by decide, by decide⟩ (by decide +kernel) ?_
  refine of_Si (pc := 4) (as := [_, _, _]) v_M_123 rfl rfl (Nat.le_of_ble_eq_true rfl) (by decide +kernel) (by decide) rfl (c_M_in_0 (okp_bind H)) (fun r M H => ?_)
  refine oj_if_eq (pc := 7) (off := 11) (tgt := 18) (by decide +kernel) (by decide) H (fun _ H => ?_) (fun _ H => ?_)
  · refine oj_bipush (pc := 18) (v := -2) ⟨by decide, by decide⟩ (by decide +kernel) ?_
    exact oj_iret (pc := 20) (by decide +kernel) rfl rfl (Nat.le_refl _) (Nat.le_refl _) ⟨rfl, H⟩
  · refine oj_ld1 (pc := 10) (by decide +kernel) ?_
    refine oj_ald0 (pc := 11) (by decide +kernel) ?_
    refine oj_getI' (pc := 12) (ki := 7) f_M_160 s_57_7 rfl (by decide +kernel) ?_
    refine oj_icmp_le (pc := 15) (off := 6) (tgt := 21) (by decide +kernel) (by decide) H (fun _ H => ?_) (fun _ H => ?_)
    · refine oj_ald0 (pc := 21) (by decide +kernel) ?_
      refine oj_iconst (pc := 22) (v := 0) ⟨by decide, by decide⟩ (by decide +kernel) ?_
      refine oj_putI' (pc := 23) (ki := 7) f_M_160 s_57_7 rfl (by decide +kernel) ?_
      have H := okp_lt H
      refine oj_iconst (pc := 26) (v := 0) ⟨by decide, by decide⟩ (by decide +kernel) ?_
      refine oj_st2 (pc := 27) (by decide +kernel) (by decide +kernel) ?_
      exact h28 _ _ _ _ H
    · refine oj_bipush (pc := 18) (v := -2) ⟨by decide, by decide⟩ (by decide +kernel) ?_
      exact oj_iret (pc := 20) (by decide +kernel) rfl rfl (Nat.le_refl _) (Nat.le_refl _) ⟨rfl, H⟩
theorem c_M_count_0 {l : Launch} {f : Nat} {l1 : Int} {M : oM} {K : Int × oM → Prop} (H : okp (p_M_count f l1 M) K) : oKf l m_M_count 5 [vr 57, vi l1] M K := by
  refine oK_intro (lv := [vr 57, vi l1]) (by decide +kernel) (Nat.le_of_ble_eq_true rfl) rfl ?_
  refine oj_ld1 (pc := 0) (by decide +kernel) ?_
  refine oj_case (c := _ = 0) H (fun c0 H => ?_) (fun c0 H => ?_)
  · refine oj_tin (pc := 1) (dflt := 155) (lo := 0) (hi := 11) (offs := #[63, 68, 73, 82, 91, 100, 109, 118, 127, 136, 141, 146]) (len := 63) (off := 63) (tgt := 64) 0 c0 (by decide +kernel) ⟨by decide, by decide⟩ (by decide +kernel) (by decide) ?_
    refine oj_ald0 (pc := 64) (by decide +kernel) ?_
    refine oj_getI' (pc := 65) (ki := 5) f_M_127 s_57_5 rfl (by decide +kernel) ?_
    exact oj_iret (pc := 68) (by decide +kernel) rfl rfl (Nat.le_refl _) (Nat.le_refl _) ⟨rfl, H⟩
  refine oj_case (c := _ = 1) H (fun c1 H => ?_) (fun c1 H => ?_)
  · refine oj_tin (pc := 1) (dflt := 155) (lo := 0) (hi := 11) (offs := #[63, 68, 73, 82, 91, 100, 109, 118, 127, 136, 141, 146]) (len := 63) (off := 68) (tgt := 69) 1 c1 (by decide +kernel) ⟨by decide, by decide⟩ (by decide +kernel) (by decide) ?_
    refine oj_ald0 (pc := 69) (by decide +kernel) ?_
    refine of_Vi (pc := 70) (as := []) v_M_296 o_57 rfl rfl (Nat.le_of_ble_eq_true rfl) (by decide +kernel) (by decide) rfl (c_M_owedInAll_0 (okp_bind H)) (fun r M H => ?_)
    exact oj_iret (pc := 73) (by decide +kernel) rfl rfl (Nat.le_refl _) (Nat.le_refl _) ⟨rfl, H⟩
  refine oj_case (c := _ = 2) H (fun c2 H => ?_) (fun c2 H => ?_)
  · refine oj_tin (pc := 1) (dflt := 155) (lo := 0) (hi := 11) (offs := #[63, 68, 73, 82, 91, 100, 109, 118, 127, 136, 141, 146]) (len := 63) (off := 73) (tgt := 74) 2 c2 (by decide +kernel) ⟨by decide, by decide⟩ (by decide +kernel) (by decide) ?_
    refine oj_ald0 (pc := 74) (by decide +kernel) ?_
    refine oj_getR' (pc := 75) f_M_7 s_57_0 (by decide +kernel) ?_
    refine oj_sipush (pc := 78) (v := 151) ⟨by decide, by decide⟩ (by decide +kernel) ?_
    refine oj_iald (pc := 81) (NN := 159) a_58 rfl (by decide +kernel) H (fun H => ?_)
    exact oj_iret (pc := 82) (by decide +kernel) rfl rfl (Nat.le_refl _) (Nat.le_refl _) ⟨rfl, H⟩
  refine oj_case (c := _ = 3) H (fun c3 H => ?_) (fun c3 H => ?_)
  · refine oj_tin (pc := 1) (dflt := 155) (lo := 0) (hi := 11) (offs := #[63, 68, 73, 82, 91, 100, 109, 118, 127, 136, 141, 146]) (len := 63) (off := 82) (tgt := 83) 3 c3 (by decide +kernel) ⟨by decide, by decide⟩ (by decide +kernel) (by decide) ?_
    refine oj_ald0 (pc := 83) (by decide +kernel) ?_
    refine oj_getR' (pc := 84) f_M_7 s_57_0 (by decide +kernel) ?_
    refine oj_sipush (pc := 87) (v := 153) ⟨by decide, by decide⟩ (by decide +kernel) ?_
    refine oj_iald (pc := 90) (NN := 159) a_58 rfl (by decide +kernel) H (fun H => ?_)
    exact oj_iret (pc := 91) (by decide +kernel) rfl rfl (Nat.le_refl _) (Nat.le_refl _) ⟨rfl, H⟩
  refine oj_case (c := _ = 4) H (fun c4 H => ?_) (fun c4 H => ?_)
  · refine oj_tin (pc := 1) (dflt := 155) (lo := 0) (hi := 11) (offs := #[63, 68, 73, 82, 91, 100, 109, 118, 127, 136, 141, 146]) (len := 63) (off := 91) (tgt := 92) 4 c4 (by decide +kernel) ⟨by decide, by decide⟩ (by decide +kernel) (by decide) ?_
    refine oj_ald0 (pc := 92) (by decide +kernel) ?_
    refine oj_getR' (pc := 93) f_M_7 s_57_0 (by decide +kernel) ?_
    refine oj_sipush (pc := 96) (v := 154) ⟨by decide, by decide⟩ (by decide +kernel) ?_
    refine oj_iald (pc := 99) (NN := 159) a_58 rfl (by decide +kernel) H (fun H => ?_)
    exact oj_iret (pc := 100) (by decide +kernel) rfl rfl (Nat.le_refl _) (Nat.le_refl _) ⟨rfl, H⟩
  refine oj_case (c := _ = 5) H (fun c5 H => ?_) (fun c5 H => ?_)
  · refine oj_tin (pc := 1) (dflt := 155) (lo := 0) (hi := 11) (offs := #[63, 68, 73, 82, 91, 100, 109, 118, 127, 136, 141, 146]) (len := 63) (off := 100) (tgt := 101) 5 c5 (by decide +kernel) ⟨by decide, by decide⟩ (by decide +kernel) (by decide) ?_
    refine oj_ald0 (pc := 101) (by decide +kernel) ?_
    refine oj_getR' (pc := 102) f_M_7 s_57_0 (by decide +kernel) ?_
    refine oj_sipush (pc := 105) (v := 155) ⟨by decide, by decide⟩ (by decide +kernel) ?_
    refine oj_iald (pc := 108) (NN := 159) a_58 rfl (by decide +kernel) H (fun H => ?_)
    exact oj_iret (pc := 109) (by decide +kernel) rfl rfl (Nat.le_refl _) (Nat.le_refl _) ⟨rfl, H⟩
  refine oj_case (c := _ = 6) H (fun c6 H => ?_) (fun c6 H => ?_)
  · refine oj_tin (pc := 1) (dflt := 155) (lo := 0) (hi := 11) (offs := #[63, 68, 73, 82, 91, 100, 109, 118, 127, 136, 141, 146]) (len := 63) (off := 109) (tgt := 110) 6 c6 (by decide +kernel) ⟨by decide, by decide⟩ (by decide +kernel) (by decide) ?_
    refine oj_ald0 (pc := 110) (by decide +kernel) ?_
    refine oj_getR' (pc := 111) f_M_7 s_57_0 (by decide +kernel) ?_
    refine oj_sipush (pc := 114) (v := 156) ⟨by decide, by decide⟩ (by decide +kernel) ?_
    refine oj_iald (pc := 117) (NN := 159) a_58 rfl (by decide +kernel) H (fun H => ?_)
    exact oj_iret (pc := 118) (by decide +kernel) rfl rfl (Nat.le_refl _) (Nat.le_refl _) ⟨rfl, H⟩
  refine oj_case (c := _ = 7) H (fun c7 H => ?_) (fun c7 H => ?_)
  · refine oj_tin (pc := 1) (dflt := 155) (lo := 0) (hi := 11) (offs := #[63, 68, 73, 82, 91, 100, 109, 118, 127, 136, 141, 146]) (len := 63) (off := 118) (tgt := 119) 7 c7 (by decide +kernel) ⟨by decide, by decide⟩ (by decide +kernel) (by decide) ?_
    refine oj_ald0 (pc := 119) (by decide +kernel) ?_
    refine oj_getR' (pc := 120) f_M_7 s_57_0 (by decide +kernel) ?_
    refine oj_sipush (pc := 123) (v := 157) ⟨by decide, by decide⟩ (by decide +kernel) ?_
    refine oj_iald (pc := 126) (NN := 159) a_58 rfl (by decide +kernel) H (fun H => ?_)
    exact oj_iret (pc := 127) (by decide +kernel) rfl rfl (Nat.le_refl _) (Nat.le_refl _) ⟨rfl, H⟩
  refine oj_case (c := _ = 8) H (fun c8 H => ?_) (fun c8 H => ?_)
  · refine oj_tin (pc := 1) (dflt := 155) (lo := 0) (hi := 11) (offs := #[63, 68, 73, 82, 91, 100, 109, 118, 127, 136, 141, 146]) (len := 63) (off := 127) (tgt := 128) 8 c8 (by decide +kernel) ⟨by decide, by decide⟩ (by decide +kernel) (by decide) ?_
    refine oj_ald0 (pc := 128) (by decide +kernel) ?_
    refine oj_getR' (pc := 129) f_M_7 s_57_0 (by decide +kernel) ?_
    refine oj_sipush (pc := 132) (v := 150) ⟨by decide, by decide⟩ (by decide +kernel) ?_
    refine oj_iald (pc := 135) (NN := 159) a_58 rfl (by decide +kernel) H (fun H => ?_)
    exact oj_iret (pc := 136) (by decide +kernel) rfl rfl (Nat.le_refl _) (Nat.le_refl _) ⟨rfl, H⟩
  refine oj_case (c := _ = 9) H (fun c9 H => ?_) (fun c9 H => ?_)
  · refine oj_tin (pc := 1) (dflt := 155) (lo := 0) (hi := 11) (offs := #[63, 68, 73, 82, 91, 100, 109, 118, 127, 136, 141, 146]) (len := 63) (off := 136) (tgt := 137) 9 c9 (by decide +kernel) ⟨by decide, by decide⟩ (by decide +kernel) (by decide) ?_
    refine oj_ald0 (pc := 137) (by decide +kernel) ?_
    refine oj_getI' (pc := 138) (ki := 16) f_M_255 s_57_16 rfl (by decide +kernel) ?_
    exact oj_iret (pc := 141) (by decide +kernel) rfl rfl (Nat.le_refl _) (Nat.le_refl _) ⟨rfl, H⟩
  refine oj_case (c := _ = 10) H (fun c10 H => ?_) (fun c10 H => ?_)
  · refine oj_tin (pc := 1) (dflt := 155) (lo := 0) (hi := 11) (offs := #[63, 68, 73, 82, 91, 100, 109, 118, 127, 136, 141, 146]) (len := 63) (off := 141) (tgt := 142) 10 c10 (by decide +kernel) ⟨by decide, by decide⟩ (by decide +kernel) (by decide) ?_
    refine oj_ald0 (pc := 142) (by decide +kernel) ?_
    refine oj_getI' (pc := 143) (ki := 7) f_M_160 s_57_7 rfl (by decide +kernel) ?_
    exact oj_iret (pc := 146) (by decide +kernel) rfl rfl (Nat.le_refl _) (Nat.le_refl _) ⟨rfl, H⟩
  refine oj_case (c := _ = 11) H (fun c11 H => ?_) (fun c11 H => ?_)
  · refine oj_tin (pc := 1) (dflt := 155) (lo := 0) (hi := 11) (offs := #[63, 68, 73, 82, 91, 100, 109, 118, 127, 136, 141, 146]) (len := 63) (off := 146) (tgt := 147) 11 c11 (by decide +kernel) ⟨by decide, by decide⟩ (by decide +kernel) (by decide) ?_
    refine oj_ald0 (pc := 147) (by decide +kernel) ?_
    refine oj_getR' (pc := 148) f_M_7 s_57_0 (by decide +kernel) ?_
    refine oj_sipush (pc := 151) (v := 158) ⟨by decide, by decide⟩ (by decide +kernel) ?_
    refine oj_iald (pc := 154) (NN := 159) a_58 rfl (by decide +kernel) H (fun H => ?_)
    exact oj_iret (pc := 155) (by decide +kernel) rfl rfl (Nat.le_refl _) (Nat.le_refl _) ⟨rfl, H⟩
  refine oj_tout (pc := 1) (dflt := 155) (lo := 0) (hi := 11) (offs := #[63, 68, 73, 82, 91, 100, 109, 118, 127, 136, 141, 146]) (len := 63) (tgt := 156) (by decide +kernel) (by omega) (by decide) ?_
  refine oj_iconst (pc := 156) (v := -1) ⟨by decide, by decide⟩ (by decide +kernel) ?_
  exact oj_iret (pc := 157) (by decide +kernel) rfl rfl (Nat.le_refl _) (Nat.le_refl _) ⟨rfl, H⟩
