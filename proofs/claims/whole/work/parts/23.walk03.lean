/-! walks (by program) -/
theorem c_R_leastNext_0 {l : Launch} {f : Nat} {l1 : Int} {M : oM} {K : Int × oM → Prop} (H : okp (p_R_leastNext f l1 M) K) : oKf l m_R_leastNext 5 [vr 42, vi l1] M K := by
  refine oK_intro (lv := [vr 42, vi l1, vu, vu]) (by decide +kernel) (Nat.le_of_ble_eq_true rfl) rfl ?_
  have h2 : ∀ (g : Nat) (l1 l2 : Int) (M : oM), okp (iter (p_R_leastNext_L2 f l1) g (l2, M)) K → oJ l m_R_leastNext (oEf 5 K) 0 0 2 [vr 42, vi l1, vi l2, vu] [] WD M := by
    intro g l1 l2 M H
    have HL := fun hs => iter_J' (Jh := fun s => oJ l m_R_leastNext (oEf 5 K) 0 0 2 [vr 42, vi l1, vi s.1, vu] [] WD s.2) (G := K) hs g (l2, M) H
    refine HL ?_
    intro K2 s i2 e2 H
    obtain ⟨l2, M⟩ := s
    show oJ l m_R_leastNext (oEf 5 K) 0 0 2 [vr 42, vi l1, vi l2, vu] [] WD M
    have h57 : ∀ (l2 : Int) (M : oM), okp (p_R_leastNext_B57_2 f l1 l2 M) K2 → oJ l m_R_leastNext (oEf 5 K) 0 0 57 [vr 42, vi l1, vi l2, vu] [] WD M := by
      intro l2 M H
      refine oj_inc2 (pc := 57) (d := 1) (by decide +kernel) (by decide +kernel) ?_
      have H := okp_lt H
      refine oj_goto (pc := 60) (off := -58) (tgt := 2) (by decide +kernel) (by decide) ?_
      have H := i2 _ H
      exact H
    refine oj_ld2 (pc := 2) (by decide +kernel) ?_
    refine oj_bipush (pc := 3) (v := 10) ⟨by decide, by decide⟩ (by decide +kernel) ?_
    refine oj_icmp_ge (pc := 5) (off := 58) (tgt := 63) (by decide +kernel) (by decide) H (fun _ H => ?_) (fun _ H => ?_)
    · refine oj_iconst (pc := 63) (v := -1) ⟨by decide, by decide⟩ (by decide +kernel) ?_
      have H := e2 _ H
      exact oj_iret (pc := 64) (by decide +kernel) rfl rfl (Nat.le_refl _) (Nat.le_refl _) ⟨rfl, H⟩
    · refine oj_ld1 (pc := 8) (by decide +kernel) ?_
      refine oj_bipush (pc := 9) (v := 10) ⟨by decide, by decide⟩ (by decide +kernel) ?_
      refine oj_imul (pc := 11) (by decide +kernel) ?_
      refine oj_ld2 (pc := 12) (by decide +kernel) ?_
      refine oj_iadd (pc := 13) (by decide +kernel) ?_
      refine oj_st3 (pc := 14) (by decide +kernel) (by decide +kernel) ?_
      have H := okp_lt H
      refine oj_ald0 (pc := 15) (by decide +kernel) ?_
      refine oj_getR' (pc := 16) f_R_9 s_42_1 (by decide +kernel) ?_
      refine oj_ld3 (pc := 19) (by decide +kernel) ?_
      refine oj_iald (pc := 20) (NN := 100) a_43 rfl (by decide +kernel) H (fun H => ?_)
      refine oj_if_le (pc := 21) (off := 36) (tgt := 57) (by decide +kernel) (by decide) H (fun _ H => ?_) (fun _ H => ?_)
      · refine oj_le (lv' := [_, _, _, vu]) ⟨Or.inr rfl, Or.inr rfl, Or.inr rfl, Or.inl rfl, trivial⟩ ?_
        exact h57 _ _ H
      · refine oj_ald0 (pc := 24) (by decide +kernel) ?_
        refine oj_getR' (pc := 25) f_R_9 s_42_1 (by decide +kernel) ?_
        refine oj_ld3 (pc := 28) (by decide +kernel) ?_
        refine oj_dup2 (pc := 29) (by decide +kernel) ?_
        refine oj_iald (pc := 30) (NN := 100) a_43 rfl (by decide +kernel) H (fun H => ?_)
        refine oj_iconst (pc := 31) (v := 1) ⟨by decide, by decide⟩ (by decide +kernel) ?_
        refine oj_isub (pc := 32) (by decide +kernel) ?_
        refine oj_iast (pc := 33) (NN := 100) a_43 rfl (by decide +kernel) H (fun H => ?_)
        have H := okp_lt H
        refine oj_ald0 (pc := 34) (by decide +kernel) ?_
        refine oj_getR' (pc := 35) f_R_9 s_42_1 (by decide +kernel) ?_
        refine oj_ld2 (pc := 38) (by decide +kernel) ?_
        refine of_Si (pc := 39) (as := [_, _]) v_R_51 rfl rfl (Nat.le_of_ble_eq_true rfl) (by decide +kernel) (by decide) rfl (c_R_isOneRow_1 (okp_bind H)) (fun r M H => ?_)
        refine oj_if_eq (pc := 42) (off := 5) (tgt := 47) (by decide +kernel) (by decide) H (fun _ H => ?_) (fun _ H => ?_)
        · refine oj_ald0 (pc := 47) (by decide +kernel) ?_
          refine oj_getR' (pc := 48) f_R_9 s_42_1 (by decide +kernel) ?_
          refine oj_ld3 (pc := 51) (by decide +kernel) ?_
          refine oj_dup2 (pc := 52) (by decide +kernel) ?_
          refine oj_iald (pc := 53) (NN := 100) a_43 rfl (by decide +kernel) H (fun H => ?_)
          refine oj_iconst (pc := 54) (v := 1) ⟨by decide, by decide⟩ (by decide +kernel) ?_
          refine oj_iadd (pc := 55) (by decide +kernel) ?_
          refine oj_iast (pc := 56) (NN := 100) a_43 rfl (by decide +kernel) H (fun H => ?_)
          have H := okp_lt H
          refine oj_le (lv' := [_, _, _, vu]) ⟨Or.inr rfl, Or.inr rfl, Or.inr rfl, Or.inl rfl, trivial⟩ ?_
          exact h57 _ _ H
        · refine oj_ld2 (pc := 45) (by decide +kernel) ?_
          have H := e2 _ H
          exact oj_iret (pc := 46) (by decide +kernel) rfl rfl (Nat.le_refl _) (Nat.le_refl _) ⟨rfl, H⟩
  refine oj_iconst (pc := 0) (v := 0) ⟨by decide, by decide⟩ (by decide +kernel) ?_
  refine oj_st2 (pc := 1) (by decide +kernel) (by decide +kernel) ?_
  exact h2 _ _ _ _ H
theorem c_R_planTour_0 {l : Launch} {f : Nat} {l2 l3 : Int} {M : oM} {K : Int × oM → Prop} (H : okp (p_R_planTour f l2 l3 M) K) : oKf l m_R_planTour 6 [vr 42, vr 7, vi l2, vi l3] M K := by
  refine oK_intro (lv := [vr 42, vr 7, vi l2, vi l3, vu, vu, vu]) (by decide +kernel) (Nat.le_of_ble_eq_true rfl) rfl ?_
  have h18 : ∀ (g : Nat) (l3 l4 l5 : Int) (M : oM), okp (iter (p_R_planTour_L18 f l3) g (l4, l5, M)) K → oJ l m_R_planTour (oEf 6 K) 0 0 18 [vr 42, vr 7, vu, vi l3, vi l4, vi l5, vu] [] WD M := by
    intro g l3 l4 l5 M H
    have HL := fun hs => iter_J' (Jh := fun s => oJ l m_R_planTour (oEf 6 K) 0 0 18 [vr 42, vr 7, vu, vi l3, vi s.1, vi s.2.1, vu] [] WD s.2.2) (G := K) hs g (l4, l5, M) H
    refine HL ?_
    intro K18 s i18 e18 H
    obtain ⟨l4, l5, M⟩ := s
    show oJ l m_R_planTour (oEf 6 K) 0 0 18 [vr 42, vr 7, vu, vi l3, vi l4, vi l5, vu] [] WD M
    refine oj_ld5 (pc := 18) (by decide +kernel) ?_
    refine oj_ld3 (pc := 20) (by decide +kernel) ?_
    refine oj_icmp_ge (pc := 21) (off := 43) (tgt := 64) (by decide +kernel) (by decide) H (fun _ H => ?_) (fun _ H => ?_)
    · have H := e18 _ H
      exact oj_vret (pc := 64) (by decide +kernel) rfl (Nat.le_refl _) (Nat.le_refl _) ⟨rfl, H⟩
    · refine oj_ld5 (pc := 24) (by decide +kernel) ?_
      refine oj_bipush (pc := 26) (v := 60) ⟨by decide, by decide⟩ (by decide +kernel) ?_
      refine oj_icmp_ge (pc := 28) (off := 36) (tgt := 64) (by decide +kernel) (by decide) H (fun _ H => ?_) (fun _ H => ?_)
      · have H := e18 _ H
        exact oj_vret (pc := 64) (by decide +kernel) rfl (Nat.le_refl _) (Nat.le_refl _) ⟨rfl, H⟩
      · refine oj_ald0 (pc := 31) (by decide +kernel) ?_
        refine oj_ld4 (pc := 32) (by decide +kernel) ?_
        refine of_Vi (pc := 34) (as := [_]) v_R_47 o_42 rfl rfl (Nat.le_of_ble_eq_true rfl) (by decide +kernel) (by decide) rfl (c_R_leastNext_0 (okp_bind H)) (fun r M H => ?_)
        refine oj_st6 (pc := 37) (by decide +kernel) (by decide +kernel) ?_
        refine oj_ld6 (pc := 39) (by decide +kernel) ?_
        refine oj_if_ge (pc := 41) (off := 4) (tgt := 45) (by decide +kernel) (by decide) H (fun _ H => ?_) (fun _ H => ?_)
        · refine oj_ald0 (pc := 45) (by decide +kernel) ?_
          refine oj_getR' (pc := 46) f_R_24 s_42_5 (by decide +kernel) ?_
          refine oj_ld5 (pc := 49) (by decide +kernel) ?_
          refine oj_ld6 (pc := 51) (by decide +kernel) ?_
          refine oj_iast (pc := 53) (NN := 60) a_47 rfl (by decide +kernel) H (fun H => ?_)
          have H := okp_lt H
          refine oj_ld6 (pc := 54) (by decide +kernel) ?_
          refine oj_st4 (pc := 56) (by decide +kernel) (by decide +kernel) ?_
          refine oj_inc5 (pc := 58) (d := 1) (by decide +kernel) (by decide +kernel) ?_
          have H := okp_lt H
          refine oj_goto (pc := 61) (off := -43) (tgt := 18) (by decide +kernel) (by decide) ?_
          refine oj_le (lv' := [_, _, vu, _, _, _, vu]) ⟨Or.inr rfl, Or.inr rfl, Or.inr rfl, Or.inr rfl, Or.inr rfl, Or.inr rfl, Or.inl rfl, trivial⟩ ?_
          have H := i18 _ H
          exact H
        · have H := e18 _ H
          exact oj_vret (pc := 44) (by decide +kernel) rfl (Nat.le_refl _) (Nat.le_refl _) ⟨rfl, H⟩
  refine oj_ald1 (pc := 0) (by decide +kernel) ?_
  refine oj_iconst (pc := 1) (v := 0) ⟨by decide, by decide⟩ (by decide +kernel) ?_
  refine oj_ald0 (pc := 2) (by decide +kernel) ?_
  refine oj_getR' (pc := 3) f_R_9 s_42_1 (by decide +kernel) ?_
  refine oj_iconst (pc := 6) (v := 0) ⟨by decide, by decide⟩ (by decide +kernel) ?_
  refine oj_bipush (pc := 7) (v := 100) ⟨by decide, by decide⟩ (by decide +kernel) ?_
  refine oj_copy (pc := 9) (n0 := 100) (n1 := 100) l_R_41 acn.1 acn.2.1 acn.2.2 a_7 a_43 rfl rfl (Nat.le_of_ble_eq_true rfl) (Nat.le_of_ble_eq_true rfl) (by decide +kernel) H (fun H => ?_)
  have H := okp_lt H
  refine oj_ld2 (pc := 12) (by decide +kernel) ?_
  refine oj_st4 (pc := 13) (by decide +kernel) (by decide +kernel) ?_
  refine oj_iconst (pc := 15) (v := 0) ⟨by decide, by decide⟩ (by decide +kernel) ?_
  refine oj_st5 (pc := 16) (by decide +kernel) (by decide +kernel) ?_
  refine oj_le (lv' := [_, _, vu, _, _, _, vu]) ⟨Or.inr rfl, Or.inr rfl, Or.inl rfl, Or.inr rfl, Or.inr rfl, Or.inr rfl, Or.inr rfl, trivial⟩ ?_
  exact h18 _ _ _ _ _ H
theorem c_O_tour_0 {l : Launch} {f : Nat} {l1 : Int} {M : oM} {K : Int × oM → Prop} (H : okp (p_O_tour f l1 M) K) : oKf l m_O_tour 7 [vr 0, vi l1] M K := by
  refine oK_intro (lv := [vr 0, vi l1, vu, vu, vu]) (by decide +kernel) (Nat.le_of_ble_eq_true rfl) rfl ?_
  have h184 : ∀ (M : oM), okp (p_O_tour_B184 f M) K → oJ l m_O_tour (oEf 7 K) 0 0 184 [vr 0, vu, vu, vu, vu] [] WD M := by
    intro  M H
    refine oj_iconst (pc := 184) (v := 1) ⟨by decide, by decide⟩ (by decide +kernel) ?_
    refine oj_goto (pc := 185) (off := 4) (tgt := 189) (by decide +kernel) (by decide) ?_
    exact oj_iret (pc := 189) (by decide +kernel) rfl rfl (Nat.le_refl _) (Nat.le_refl _) ⟨rfl, H⟩
  have h131 : ∀ (l1 l3 : Int) (M : oM), okp (p_O_tour_B131 f l1 l3 M) K → oJ l m_O_tour (oEf 7 K) 0 0 131 [vr 0, vi l1, vu, vi l3, vu] [] WD M := by
    intro l1 l3 M H
    refine oj_ald0 (pc := 131) (by decide +kernel) ?_
    refine oj_getR' (pc := 132) f_O_87 s_0_11 (by decide +kernel) ?_
    refine oj_ald0 (pc := 135) (by decide +kernel) ?_
    refine oj_getR' (pc := 136) f_O_26 s_0_2 (by decide +kernel) ?_
    refine oj_getR' (pc := 139) f_O_110 s_6_0 (by decide +kernel) ?_
    refine oj_ald0 (pc := 142) (by decide +kernel) ?_
    refine oj_getR' (pc := 143) f_O_26 s_0_2 (by decide +kernel) ?_
    refine oj_getI' (pc := 146) (ki := 4) f_O_168 s_6_4 rfl (by decide +kernel) ?_
    refine oj_ld3 (pc := 149) (by decide +kernel) ?_
    refine of_Vv (pc := 150) (as := [_, _, _]) v_O_225 o_42 rfl rfl (Nat.le_of_ble_eq_true rfl) (by decide +kernel) (by decide) rfl (c_R_planTour_0 (okp_bind H)) (fun M H => ?_)
    refine oj_ld1 (pc := 153) (by decide +kernel) ?_
    refine oj_bipush (pc := 154) (v := 102) ⟨by decide, by decide⟩ (by decide +kernel) ?_
    refine oj_icmp_ne (pc := 156) (off := 34) (tgt := 190) (by decide +kernel) (by decide) H (fun _ H => ?_) (fun _ H => ?_)
    · refine oj_ald0 (pc := 190) (by decide +kernel) ?_
      refine oj_getR' (pc := 191) f_O_87 s_0_11 (by decide +kernel) ?_
      refine oj_getR' (pc := 194) f_O_229 s_42_5 (by decide +kernel) ?_
      refine oj_ld1 (pc := 197) (by decide +kernel) ?_
      refine oj_iald (pc := 198) (NN := 60) a_47 rfl (by decide +kernel) H (fun H => ?_)
      exact oj_iret (pc := 199) (by decide +kernel) rfl rfl (Nat.le_refl _) (Nat.le_refl _) ⟨rfl, H⟩
    · refine oj_ld3 (pc := 159) (by decide +kernel) ?_
      refine oj_if_eq (pc := 160) (off := 24) (tgt := 184) (by decide +kernel) (by decide) H (fun _ H => ?_) (fun _ H => ?_)
      · refine oj_le (lv' := [_, vu, vu, vu, vu]) ⟨Or.inr rfl, Or.inl rfl, Or.inr rfl, Or.inl rfl, Or.inr rfl, trivial⟩ ?_
        exact h184  _ H
      · refine oj_ald0 (pc := 163) (by decide +kernel) ?_
        refine oj_getR' (pc := 164) f_O_87 s_0_11 (by decide +kernel) ?_
        refine oj_getR' (pc := 167) f_O_229 s_42_5 (by decide +kernel) ?_
        refine oj_ld3 (pc := 170) (by decide +kernel) ?_
        refine oj_iconst (pc := 171) (v := 1) ⟨by decide, by decide⟩ (by decide +kernel) ?_
        refine oj_isub (pc := 172) (by decide +kernel) ?_
        refine oj_iald (pc := 173) (NN := 60) a_47 rfl (by decide +kernel) H (fun H => ?_)
        refine oj_ald0 (pc := 174) (by decide +kernel) ?_
        refine oj_getR' (pc := 175) f_O_26 s_0_2 (by decide +kernel) ?_
        refine oj_getI' (pc := 178) (ki := 4) f_O_168 s_6_4 rfl (by decide +kernel) ?_
        refine oj_icmp_ne (pc := 181) (off := 7) (tgt := 188) (by decide +kernel) (by decide) H (fun _ H => ?_) (fun _ H => ?_)
        · refine oj_iconst (pc := 188) (v := 0) ⟨by decide, by decide⟩ (by decide +kernel) ?_
          exact oj_iret (pc := 189) (by decide +kernel) rfl rfl (Nat.le_refl _) (Nat.le_refl _) ⟨rfl, H⟩
        · refine oj_le (lv' := [_, vu, vu, vu, vu]) ⟨Or.inr rfl, Or.inl rfl, Or.inr rfl, Or.inl rfl, Or.inr rfl, trivial⟩ ?_
          exact h184  _ H
  have h40 : ∀ (l1 l2 : Int) (M : oM), okp (p_O_tour_B40 f l1 l2 M) K → oJ l m_O_tour (oEf 7 K) 0 0 40 [vr 0, vi l1, vi l2, vu, vu] [] WD M := by
    intro l1 l2 M H
    refine oj_ald0 (pc := 40) (by decide +kernel) ?_
    refine oj_getR' (pc := 41) f_O_26 s_0_2 (by decide +kernel) ?_
    refine oj_getI' (pc := 44) (ki := 4) f_O_168 s_6_4 rfl (by decide +kernel) ?_
    refine oj_if_ge (pc := 47) (off := 6) (tgt := 53) (by decide +kernel) (by decide) H (fun _ H => ?_) (fun _ H => ?_)
    · refine oj_ald0 (pc := 53) (by decide +kernel) ?_
      refine oj_getR' (pc := 54) f_O_26 s_0_2 (by decide +kernel) ?_
      refine of_Vi (pc := 57) (as := []) v_O_151 o_6 rfl rfl (Nat.le_of_ble_eq_true rfl) (by decide +kernel) (by decide) rfl (c_D_owedInAll_0 (okp_bind H)) (fun r M H => ?_)
      refine oj_st3 (pc := 60) (by decide +kernel) (by decide +kernel) ?_
      refine oj_ld3 (pc := 61) (by decide +kernel) ?_
      refine oj_bipush (pc := 62) (v := 60) ⟨by decide, by decide⟩ (by decide +kernel) ?_
      refine oj_icmp_le (pc := 64) (off := 6) (tgt := 70) (by decide +kernel) (by decide) H (fun _ H => ?_) (fun _ H => ?_)
      · refine oj_ld1 (pc := 70) (by decide +kernel) ?_
        refine oj_bipush (pc := 71) (v := 101) ⟨by decide, by decide⟩ (by decide +kernel) ?_
        refine oj_icmp_ne (pc := 73) (off := 5) (tgt := 78) (by decide +kernel) (by decide) H (fun _ H => ?_) (fun _ H => ?_)
        · refine oj_ald0 (pc := 78) (by decide +kernel) ?_
          refine oj_getR' (pc := 79) f_O_26 s_0_2 (by decide +kernel) ?_
          refine oj_getR' (pc := 82) f_O_110 s_6_0 (by decide +kernel) ?_
          refine oj_ald0 (pc := 85) (by decide +kernel) ?_
          refine oj_getR' (pc := 86) f_O_26 s_0_2 (by decide +kernel) ?_
          refine oj_getI' (pc := 89) (ki := 4) f_O_168 s_6_4 rfl (by decide +kernel) ?_
          refine of_Si (pc := 92) (as := [_, _]) v_O_221 rfl rfl (Nat.le_of_ble_eq_true rfl) (by decide +kernel) (by decide) rfl (c_R_isOneRow_0 (okp_bind H)) (fun r M H => ?_)
          refine oj_st4 (pc := 95) (by decide +kernel) (by decide +kernel) ?_
          refine oj_ld1 (pc := 97) (by decide +kernel) ?_
          refine oj_bipush (pc := 98) (v := 100) ⟨by decide, by decide⟩ (by decide +kernel) ?_
          refine oj_icmp_ne (pc := 100) (off := 14) (tgt := 114) (by decide +kernel) (by decide) H (fun _ H => ?_) (fun _ H => ?_)
          · refine oj_ld4 (pc := 114) (by decide +kernel) ?_
            refine oj_if_eq (pc := 116) (off := 12) (tgt := 128) (by decide +kernel) (by decide) H (fun _ H => ?_) (fun _ H => ?_)
            · refine oj_bipush (pc := 128) (v := -4) ⟨by decide, by decide⟩ (by decide +kernel) ?_
              exact oj_iret (pc := 130) (by decide +kernel) rfl rfl (Nat.le_refl _) (Nat.le_refl _) ⟨rfl, H⟩
            · refine oj_ld2 (pc := 119) (by decide +kernel) ?_
              refine oj_if_eq (pc := 120) (off := 11) (tgt := 131) (by decide +kernel) (by decide) H (fun _ H => ?_) (fun _ H => ?_)
              · refine oj_le (lv' := [_, _, vu, _, vu]) ⟨Or.inr rfl, Or.inr rfl, Or.inl rfl, Or.inr rfl, Or.inl rfl, trivial⟩ ?_
                exact h131 _ _ _ H
              · refine oj_ld1 (pc := 123) (by decide +kernel) ?_
                refine oj_ld3 (pc := 124) (by decide +kernel) ?_
                refine oj_icmp_lt (pc := 125) (off := 6) (tgt := 131) (by decide +kernel) (by decide) H (fun _ H => ?_) (fun _ H => ?_)
                · refine oj_le (lv' := [_, _, vu, _, vu]) ⟨Or.inr rfl, Or.inr rfl, Or.inl rfl, Or.inr rfl, Or.inl rfl, trivial⟩ ?_
                  exact h131 _ _ _ H
                · refine oj_bipush (pc := 128) (v := -4) ⟨by decide, by decide⟩ (by decide +kernel) ?_
                  exact oj_iret (pc := 130) (by decide +kernel) rfl rfl (Nat.le_refl _) (Nat.le_refl _) ⟨rfl, H⟩
          · refine oj_ld4 (pc := 103) (by decide +kernel) ?_
            refine oj_if_eq (pc := 105) (off := 7) (tgt := 112) (by decide +kernel) (by decide) H (fun _ H => ?_) (fun _ H => ?_)
            · refine oj_iconst (pc := 112) (v := 0) ⟨by decide, by decide⟩ (by decide +kernel) ?_
              exact oj_iret (pc := 113) (by decide +kernel) rfl rfl (Nat.le_refl _) (Nat.le_refl _) ⟨rfl, H⟩
            · refine oj_iconst (pc := 108) (v := 1) ⟨by decide, by decide⟩ (by decide +kernel) ?_
              refine oj_goto (pc := 109) (off := 4) (tgt := 113) (by decide +kernel) (by decide) ?_
              exact oj_iret (pc := 113) (by decide +kernel) rfl rfl (Nat.le_refl _) (Nat.le_refl _) ⟨rfl, H⟩
        · refine oj_ld3 (pc := 76) (by decide +kernel) ?_
          exact oj_iret (pc := 77) (by decide +kernel) rfl rfl (Nat.le_refl _) (Nat.le_refl _) ⟨rfl, H⟩
      · refine oj_bipush (pc := 67) (v := -3) ⟨by decide, by decide⟩ (by decide +kernel) ?_
        exact oj_iret (pc := 69) (by decide +kernel) rfl rfl (Nat.le_refl _) (Nat.le_refl _) ⟨rfl, H⟩
    · refine oj_bipush (pc := 50) (v := -2) ⟨by decide, by decide⟩ (by decide +kernel) ?_
      exact oj_iret (pc := 52) (by decide +kernel) rfl rfl (Nat.le_refl _) (Nat.le_refl _) ⟨rfl, H⟩
  have h15 : ∀ (l1 s0 : Int) (M : oM), okp (p_O_tour_B15 f l1 s0 M) K → oJ l m_O_tour (oEf 7 K) 0 0 15 [vr 0, vi l1, vu, vu, vu] [vi s0] WD M := by
    intro l1 s0 M H
    refine oj_st2 (pc := 15) (by decide +kernel) (by decide +kernel) ?_
    refine oj_ld2 (pc := 16) (by decide +kernel) ?_
    refine oj_if_ne (pc := 17) (off := 23) (tgt := 40) (by decide +kernel) (by decide) H (fun _ H => ?_) (fun _ H => ?_)
    · exact h40 _ _ _ H
    · refine oj_ld1 (pc := 20) (by decide +kernel) ?_
      refine oj_bipush (pc := 21) (v := 100) ⟨by decide, by decide⟩ (by decide +kernel) ?_
      refine oj_icmp_eq (pc := 23) (off := 17) (tgt := 40) (by decide +kernel) (by decide) H (fun _ H => ?_) (fun _ H => ?_)
      · exact h40 _ _ _ H
      · refine oj_ld1 (pc := 26) (by decide +kernel) ?_
        refine oj_bipush (pc := 27) (v := 101) ⟨by decide, by decide⟩ (by decide +kernel) ?_
        refine oj_icmp_eq (pc := 29) (off := 11) (tgt := 40) (by decide +kernel) (by decide) H (fun _ H => ?_) (fun _ H => ?_)
        · exact h40 _ _ _ H
        · refine oj_ld1 (pc := 32) (by decide +kernel) ?_
          refine oj_bipush (pc := 33) (v := 102) ⟨by decide, by decide⟩ (by decide +kernel) ?_
          refine oj_icmp_eq (pc := 35) (off := 5) (tgt := 40) (by decide +kernel) (by decide) H (fun _ H => ?_) (fun _ H => ?_)
          · exact h40 _ _ _ H
          · refine oj_iconst (pc := 38) (v := -1) ⟨by decide, by decide⟩ (by decide +kernel) ?_
            exact oj_iret (pc := 39) (by decide +kernel) rfl rfl (Nat.le_refl _) (Nat.le_refl _) ⟨rfl, H⟩
  have h14 : ∀ (l1 : Int) (M : oM), okp (p_O_tour_B14 f l1 M) K → oJ l m_O_tour (oEf 7 K) 0 0 14 [vr 0, vi l1, vu, vu, vu] [] WD M := by
    intro l1 M H
    refine oj_iconst (pc := 14) (v := 0) ⟨by decide, by decide⟩ (by decide +kernel) ?_
    exact h15 _ _ _ H
  refine oj_ld1 (pc := 0) (by decide +kernel) ?_
  refine oj_if_lt (pc := 1) (off := 13) (tgt := 14) (by decide +kernel) (by decide) H (fun _ H => ?_) (fun _ H => ?_)
  · exact h14 _ _ H
  · refine oj_ld1 (pc := 4) (by decide +kernel) ?_
    refine oj_bipush (pc := 5) (v := 60) ⟨by decide, by decide⟩ (by decide +kernel) ?_
    refine oj_icmp_ge (pc := 7) (off := 7) (tgt := 14) (by decide +kernel) (by decide) H (fun _ H => ?_) (fun _ H => ?_)
    · exact h14 _ _ H
    · refine oj_iconst (pc := 10) (v := 1) ⟨by decide, by decide⟩ (by decide +kernel) ?_
      refine oj_goto (pc := 11) (off := 4) (tgt := 15) (by decide +kernel) (by decide) ?_
      exact h15 _ _ _ H
theorem c_R_lengthen_F_0 {l : Launch} {f d0 : Nat} {rec : Int → Int → oM → Option (Int × oM)} {l1 l2 : Int} {M : oM} {K : Int × oM → Prop} (hrec : ∀ (a1 a2 : Int) (M : oM) (K : Int × oM → Prop), okp (rec a1 a2 M) K → oKf l m_R_lengthen d0 [vr 42, vi a1, vi a2] M K) (hb : 1 ≤ d0) (H : okp (p_R_lengthen_F f rec l1 l2 M) K) : oKf l m_R_lengthen (d0 + 1) [vr 42, vi l1, vi l2] M K := by
  refine oK_intro (lv := [vr 42, vi l1, vi l2, vu, vu]) (by decide +kernel) (Nat.le_of_ble_eq_true rfl) rfl ?_
  have h36 : ∀ (g : Nat) (l1 l2 l3 : Int) (M : oM), okp (iter (p_R_lengthen_L36 f rec l1 l2) g (l3, M)) K → oJ l m_R_lengthen (oEf (d0 + 1) K) 0 0 36 [vr 42, vi l1, vi l2, vi l3, vu] [] WD M := by
    intro g l1 l2 l3 M H
    have HL := fun hs => iter_J' (Jh := fun s => oJ l m_R_lengthen (oEf (d0 + 1) K) 0 0 36 [vr 42, vi l1, vi l2, vi s.1, vu] [] WD s.2) (G := K) hs g (l3, M) H
    refine HL ?_
    intro K36 s i36 e36 H
    obtain ⟨l3, M⟩ := s
    show oJ l m_R_lengthen (oEf (d0 + 1) K) 0 0 36 [vr 42, vi l1, vi l2, vi l3, vu] [] WD M
    have h97 : ∀ (l3 : Int) (M : oM), okp (p_R_lengthen_B97_36 f rec l1 l2 l3 M) K36 → oJ l m_R_lengthen (oEf (d0 + 1) K) 0 0 97 [vr 42, vi l1, vi l2, vi l3, vu] [] WD M := by
      intro l3 M H
      refine oj_inc3 (pc := 97) (d := 1) (by decide +kernel) (by decide +kernel) ?_
      have H := okp_lt H
      refine oj_goto (pc := 100) (off := -64) (tgt := 36) (by decide +kernel) (by decide) ?_
      have H := i36 _ H
      exact H
    refine oj_ld3 (pc := 36) (by decide +kernel) ?_
    refine oj_bipush (pc := 37) (v := 10) ⟨by decide, by decide⟩ (by decide +kernel) ?_
    refine oj_icmp_ge (pc := 39) (off := 64) (tgt := 103) (by decide +kernel) (by decide) H (fun _ H => ?_) (fun _ H => ?_)
    · have H := e36 _ H
      exact oj_vret (pc := 103) (by decide +kernel) rfl (Nat.le_refl _) (Nat.le_refl _) ⟨rfl, H⟩
    · refine oj_ld1 (pc := 42) (by decide +kernel) ?_
      refine oj_bipush (pc := 43) (v := 10) ⟨by decide, by decide⟩ (by decide +kernel) ?_
      refine oj_imul (pc := 45) (by decide +kernel) ?_
      refine oj_ld3 (pc := 46) (by decide +kernel) ?_
      refine oj_iadd (pc := 47) (by decide +kernel) ?_
      refine oj_st4 (pc := 48) (by decide +kernel) (by decide +kernel) ?_
      have H := okp_lt H
      refine oj_ald0 (pc := 50) (by decide +kernel) ?_
      refine oj_getR' (pc := 51) f_R_9 s_42_1 (by decide +kernel) ?_
      refine oj_ld4 (pc := 54) (by decide +kernel) ?_
      refine oj_iald (pc := 56) (NN := 100) a_43 rfl (by decide +kernel) H (fun H => ?_)
      refine oj_if_le (pc := 57) (off := 40) (tgt := 97) (by decide +kernel) (by decide) H (fun _ H => ?_) (fun _ H => ?_)
      · refine oj_le (lv' := [_, _, _, _, vu]) ⟨Or.inr rfl, Or.inr rfl, Or.inr rfl, Or.inr rfl, Or.inl rfl, trivial⟩ ?_
        exact h97 _ _ H
      · refine oj_ald0 (pc := 60) (by decide +kernel) ?_
        refine oj_getR' (pc := 61) f_R_9 s_42_1 (by decide +kernel) ?_
        refine oj_ld4 (pc := 64) (by decide +kernel) ?_
        refine oj_dup2 (pc := 66) (by decide +kernel) ?_
        refine oj_iald (pc := 67) (NN := 100) a_43 rfl (by decide +kernel) H (fun H => ?_)
        refine oj_iconst (pc := 68) (v := 1) ⟨by decide, by decide⟩ (by decide +kernel) ?_
        refine oj_isub (pc := 69) (by decide +kernel) ?_
        refine oj_iast (pc := 70) (NN := 100) a_43 rfl (by decide +kernel) H (fun H => ?_)
        have H := okp_lt H
        refine oj_ald0 (pc := 71) (by decide +kernel) ?_
        refine oj_getR' (pc := 72) f_R_24 s_42_5 (by decide +kernel) ?_
        refine oj_ld2 (pc := 75) (by decide +kernel) ?_
        refine oj_ld3 (pc := 76) (by decide +kernel) ?_
        refine oj_iast (pc := 77) (NN := 60) a_47 rfl (by decide +kernel) H (fun H => ?_)
        have H := okp_lt H
        refine oj_ald0 (pc := 78) (by decide +kernel) ?_
        refine oj_ld3 (pc := 79) (by decide +kernel) ?_
        refine oj_ld2 (pc := 80) (by decide +kernel) ?_
        refine oj_iconst (pc := 81) (v := 1) ⟨by decide, by decide⟩ (by decide +kernel) ?_
        refine oj_iadd (pc := 82) (by decide +kernel) ?_
        refine of_Sv (pc := 83) (as := [_, _, _]) v_R_59 rfl rfl (Nat.le_of_ble_eq_true rfl) (by decide +kernel) (by omega) rfl (hrec _ _ _ _ (okp_bind H)) (fun M H => ?_)
        refine oj_ald0 (pc := 86) (by decide +kernel) ?_
        refine oj_getR' (pc := 87) f_R_9 s_42_1 (by decide +kernel) ?_
        refine oj_ld4 (pc := 90) (by decide +kernel) ?_
        refine oj_dup2 (pc := 92) (by decide +kernel) ?_
        refine oj_iald (pc := 93) (NN := 100) a_43 rfl (by decide +kernel) H (fun H => ?_)
        refine oj_iconst (pc := 94) (v := 1) ⟨by decide, by decide⟩ (by decide +kernel) ?_
        refine oj_iadd (pc := 95) (by decide +kernel) ?_
        refine oj_iast (pc := 96) (NN := 100) a_43 rfl (by decide +kernel) H (fun H => ?_)
        have H := okp_lt H
        refine oj_le (lv' := [_, _, _, _, vu]) ⟨Or.inr rfl, Or.inr rfl, Or.inr rfl, Or.inr rfl, Or.inl rfl, trivial⟩ ?_
        exact h97 _ _ H
  have h27 : ∀ (l1 l2 : Int) (M : oM), okp (p_R_lengthen_B27 f rec l1 l2 M) K → oJ l m_R_lengthen (oEf (d0 + 1) K) 0 0 27 [vr 42, vi l1, vi l2, vu, vu] [] WD M := by
    intro l1 l2 M H
    refine oj_ld2 (pc := 27) (by decide +kernel) ?_
    refine oj_bipush (pc := 28) (v := 12) ⟨by decide, by decide⟩ (by decide +kernel) ?_
    refine oj_icmp_lt (pc := 30) (off := 4) (tgt := 34) (by decide +kernel) (by decide) H (fun _ H => ?_) (fun _ H => ?_)
    · refine oj_iconst (pc := 34) (v := 0) ⟨by decide, by decide⟩ (by decide +kernel) ?_
      refine oj_st3 (pc := 35) (by decide +kernel) (by decide +kernel) ?_
      exact h36 _ _ _ _ _ H
    · exact oj_vret (pc := 33) (by decide +kernel) rfl (Nat.le_refl _) (Nat.le_refl _) ⟨rfl, H⟩
  refine oj_ld2 (pc := 0) (by decide +kernel) ?_
  refine oj_ald0 (pc := 1) (by decide +kernel) ?_
  refine oj_getI' (pc := 2) (ki := 7) f_R_55 s_42_7 rfl (by decide +kernel) ?_
  refine oj_icmp_le (pc := 5) (off := 22) (tgt := 27) (by decide +kernel) (by decide) H (fun _ H => ?_) (fun _ H => ?_)
  · exact h27 _ _ _ H
  · refine oj_ald0 (pc := 8) (by decide +kernel) ?_
    refine oj_ld2 (pc := 9) (by decide +kernel) ?_
    refine oj_putI' (pc := 10) (ki := 7) f_R_55 s_42_7 rfl (by decide +kernel) ?_
    have H := okp_lt H
    refine oj_ald0 (pc := 13) (by decide +kernel) ?_
    refine oj_getR' (pc := 14) f_R_24 s_42_5 (by decide +kernel) ?_
    refine oj_iconst (pc := 17) (v := 0) ⟨by decide, by decide⟩ (by decide +kernel) ?_
    refine oj_ald0 (pc := 18) (by decide +kernel) ?_
    refine oj_getR' (pc := 19) f_R_27 s_42_6 (by decide +kernel) ?_
    refine oj_iconst (pc := 22) (v := 0) ⟨by decide, by decide⟩ (by decide +kernel) ?_
    refine oj_ld2 (pc := 23) (by decide +kernel) ?_
    refine oj_copy (pc := 24) (n0 := 60) (n1 := 12) l_R_41 acn.1 acn.2.1 acn.2.2 a_47 a_48 rfl rfl (Nat.le_of_ble_eq_true rfl) (show 1 ≤ d0 + 1 from by omega) (by decide +kernel) H (fun H => ?_)
    have H := okp_lt H
    exact h27 _ _ _ H
theorem c_R_lengthen_0 {l : Launch} {f : Nat} : ∀ (n : Nat) {l1 l2 : Int} {M : oM} {K : Int × oM → Prop}, okp (p_R_lengthen f n l1 l2 M) K → oKf l m_R_lengthen (1 + 1 * n) [vr 42, vi l1, vi l2] M K := by
  intro n
  induction n with
  | zero => intro l1 l2 M K H; exact (show False from H).elim
  | succ n ih =>
    intro l1 l2 M K H
    rw [show 1 + 1 * (n + 1) = (1 + 1 * n) + 1 from by omega]
    exact c_R_lengthen_F_0 (rec := p_R_lengthen f n) (fun _ _ M K H => ih H) (by omega) H
theorem c_R_planMost_0 {l : Launch} {f : Nat} {l2 : Int} {M : oM} {K : Int × oM → Prop} (H : okp (p_R_planMost f l2 M) K) : oKf l m_R_planMost 16 [vr 42, vr 7, vi l2] M K := by
  refine oK_intro (lv := [vr 42, vr 7, vi l2]) (by decide +kernel) (Nat.le_of_ble_eq_true rfl) rfl ?_
  refine oj_ald1 (pc := 0) (by decide +kernel) ?_
  refine oj_iconst (pc := 1) (v := 0) ⟨by decide, by decide⟩ (by decide +kernel) ?_
  refine oj_ald0 (pc := 2) (by decide +kernel) ?_
  refine oj_getR' (pc := 3) f_R_9 s_42_1 (by decide +kernel) ?_
  refine oj_iconst (pc := 6) (v := 0) ⟨by decide, by decide⟩ (by decide +kernel) ?_
  refine oj_bipush (pc := 7) (v := 100) ⟨by decide, by decide⟩ (by decide +kernel) ?_
  refine oj_copy (pc := 9) (n0 := 100) (n1 := 100) l_R_41 acn.1 acn.2.1 acn.2.2 a_7 a_43 rfl rfl (Nat.le_of_ble_eq_true rfl) (Nat.le_of_ble_eq_true rfl) (by decide +kernel) H (fun H => ?_)
  have H := okp_lt H
  refine oj_ald0 (pc := 12) (by decide +kernel) ?_
  refine oj_iconst (pc := 13) (v := 0) ⟨by decide, by decide⟩ (by decide +kernel) ?_
  refine oj_putI' (pc := 14) (ki := 7) f_R_55 s_42_7 rfl (by decide +kernel) ?_
  have H := okp_lt H
  refine oj_ald0 (pc := 17) (by decide +kernel) ?_
  refine oj_ld2 (pc := 18) (by decide +kernel) ?_
  refine oj_iconst (pc := 19) (v := 0) ⟨by decide, by decide⟩ (by decide +kernel) ?_
  refine of_Sv (pc := 20) (as := [_, _, _]) v_R_59 rfl rfl (Nat.le_of_ble_eq_true rfl) (by decide +kernel) (by decide) rfl (c_R_lengthen_0 14 (okp_bind H)) (fun M H => ?_)
  refine oj_ald0 (pc := 23) (by decide +kernel) ?_
  refine oj_getI' (pc := 24) (ki := 7) f_R_55 s_42_7 rfl (by decide +kernel) ?_
  exact oj_iret (pc := 27) (by decide +kernel) rfl rfl (Nat.le_refl _) (Nat.le_refl _) ⟨rfl, H⟩
theorem c_O_most_0 {l : Launch} {f : Nat} {l1 : Int} {M : oM} {K : Int × oM → Prop} (H : okp (p_O_most f l1 M) K) : oKf l m_O_most 17 [vr 0, vi l1] M K := by
  refine oK_intro (lv := [vr 0, vi l1, vu, vu]) (by decide +kernel) (Nat.le_of_ble_eq_true rfl) rfl ?_
  have h28 : ∀ (l1 l2 : Int) (M : oM), okp (p_O_most_B28 f l1 l2 M) K → oJ l m_O_most (oEf 17 K) 0 0 28 [vr 0, vi l1, vi l2, vu] [] WD M := by
    intro l1 l2 M H
    refine oj_ald0 (pc := 28) (by decide +kernel) ?_
    refine oj_getR' (pc := 29) f_O_26 s_0_2 (by decide +kernel) ?_
    refine oj_getI' (pc := 32) (ki := 4) f_O_168 s_6_4 rfl (by decide +kernel) ?_
    refine oj_if_ge (pc := 35) (off := 6) (tgt := 41) (by decide +kernel) (by decide) H (fun _ H => ?_) (fun _ H => ?_)
    · refine oj_ald0 (pc := 41) (by decide +kernel) ?_
      refine oj_getR' (pc := 42) f_O_26 s_0_2 (by decide +kernel) ?_
      refine of_Vi (pc := 45) (as := []) v_O_151 o_6 rfl rfl (Nat.le_of_ble_eq_true rfl) (by decide +kernel) (by decide) rfl (c_D_owedInAll_0 (okp_bind H)) (fun r M H => ?_)
      refine oj_bipush (pc := 48) (v := 12) ⟨by decide, by decide⟩ (by decide +kernel) ?_
      refine oj_icmp_le (pc := 50) (off := 6) (tgt := 56) (by decide +kernel) (by decide) H (fun _ H => ?_) (fun _ H => ?_)
      · refine oj_ald0 (pc := 56) (by decide +kernel) ?_
        refine oj_getR' (pc := 57) f_O_87 s_0_11 (by decide +kernel) ?_
        refine oj_ald0 (pc := 60) (by decide +kernel) ?_
        refine oj_getR' (pc := 61) f_O_26 s_0_2 (by decide +kernel) ?_
        refine oj_getR' (pc := 64) f_O_110 s_6_0 (by decide +kernel) ?_
        refine oj_ald0 (pc := 67) (by decide +kernel) ?_
        refine oj_getR' (pc := 68) f_O_26 s_0_2 (by decide +kernel) ?_
        refine oj_getI' (pc := 71) (ki := 4) f_O_168 s_6_4 rfl (by decide +kernel) ?_
        refine of_Vi (pc := 74) (as := [_, _]) v_O_230 o_42 rfl rfl (Nat.le_of_ble_eq_true rfl) (by decide +kernel) (by decide) rfl (c_R_planMost_0 (okp_bind H)) (fun r M H => ?_)
        refine oj_st3 (pc := 77) (by decide +kernel) (by decide +kernel) ?_
        refine oj_ld1 (pc := 78) (by decide +kernel) ?_
        refine oj_bipush (pc := 79) (v := 100) ⟨by decide, by decide⟩ (by decide +kernel) ?_
        refine oj_icmp_ne (pc := 81) (off := 5) (tgt := 86) (by decide +kernel) (by decide) H (fun _ H => ?_) (fun _ H => ?_)
        · refine oj_ld2 (pc := 86) (by decide +kernel) ?_
          refine oj_if_eq (pc := 87) (off := 20) (tgt := 107) (by decide +kernel) (by decide) H (fun _ H => ?_) (fun _ H => ?_)
          · refine oj_bipush (pc := 107) (v := -4) ⟨by decide, by decide⟩ (by decide +kernel) ?_
            exact oj_iret (pc := 109) (by decide +kernel) rfl rfl (Nat.le_refl _) (Nat.le_refl _) ⟨rfl, H⟩
          · refine oj_ld1 (pc := 90) (by decide +kernel) ?_
            refine oj_ld3 (pc := 91) (by decide +kernel) ?_
            refine oj_icmp_ge (pc := 92) (off := 15) (tgt := 107) (by decide +kernel) (by decide) H (fun _ H => ?_) (fun _ H => ?_)
            · refine oj_bipush (pc := 107) (v := -4) ⟨by decide, by decide⟩ (by decide +kernel) ?_
              exact oj_iret (pc := 109) (by decide +kernel) rfl rfl (Nat.le_refl _) (Nat.le_refl _) ⟨rfl, H⟩
            · refine oj_ald0 (pc := 95) (by decide +kernel) ?_
              refine oj_getR' (pc := 96) f_O_87 s_0_11 (by decide +kernel) ?_
              refine oj_getR' (pc := 99) f_O_234 s_42_6 (by decide +kernel) ?_
              refine oj_ld1 (pc := 102) (by decide +kernel) ?_
              refine oj_iald (pc := 103) (NN := 12) a_48 rfl (by decide +kernel) H (fun H => ?_)
              refine oj_goto (pc := 104) (off := 5) (tgt := 109) (by decide +kernel) (by decide) ?_
              exact oj_iret (pc := 109) (by decide +kernel) rfl rfl (Nat.le_refl _) (Nat.le_refl _) ⟨rfl, H⟩
        · refine oj_ld3 (pc := 84) (by decide +kernel) ?_
          exact oj_iret (pc := 85) (by decide +kernel) rfl rfl (Nat.le_refl _) (Nat.le_refl _) ⟨rfl, H⟩
      · refine oj_bipush (pc := 53) (v := -3) ⟨by decide, by decide⟩ (by decide +kernel) ?_
        exact oj_iret (pc := 55) (by decide +kernel) rfl rfl (Nat.le_refl _) (Nat.le_refl _) ⟨rfl, H⟩
    · refine oj_bipush (pc := 38) (v := -2) ⟨by decide, by decide⟩ (by decide +kernel) ?_
      exact oj_iret (pc := 40) (by decide +kernel) rfl rfl (Nat.le_refl _) (Nat.le_refl _) ⟨rfl, H⟩
  have h15 : ∀ (l1 s0 : Int) (M : oM), okp (p_O_most_B15 f l1 s0 M) K → oJ l m_O_most (oEf 17 K) 0 0 15 [vr 0, vi l1, vu, vu] [vi s0] WD M := by
    intro l1 s0 M H
    refine oj_st2 (pc := 15) (by decide +kernel) (by decide +kernel) ?_
    refine oj_ld2 (pc := 16) (by decide +kernel) ?_
    refine oj_if_ne (pc := 17) (off := 11) (tgt := 28) (by decide +kernel) (by decide) H (fun _ H => ?_) (fun _ H => ?_)
    · exact h28 _ _ _ H
    · refine oj_ld1 (pc := 20) (by decide +kernel) ?_
      refine oj_bipush (pc := 21) (v := 100) ⟨by decide, by decide⟩ (by decide +kernel) ?_
      refine oj_icmp_eq (pc := 23) (off := 5) (tgt := 28) (by decide +kernel) (by decide) H (fun _ H => ?_) (fun _ H => ?_)
      · exact h28 _ _ _ H
      · refine oj_iconst (pc := 26) (v := -1) ⟨by decide, by decide⟩ (by decide +kernel) ?_
        exact oj_iret (pc := 27) (by decide +kernel) rfl rfl (Nat.le_refl _) (Nat.le_refl _) ⟨rfl, H⟩
  have h14 : ∀ (l1 : Int) (M : oM), okp (p_O_most_B14 f l1 M) K → oJ l m_O_most (oEf 17 K) 0 0 14 [vr 0, vi l1, vu, vu] [] WD M := by
    intro l1 M H
    refine oj_iconst (pc := 14) (v := 0) ⟨by decide, by decide⟩ (by decide +kernel) ?_
    exact h15 _ _ _ H
  refine oj_ld1 (pc := 0) (by decide +kernel) ?_
  refine oj_if_lt (pc := 1) (off := 13) (tgt := 14) (by decide +kernel) (by decide) H (fun _ H => ?_) (fun _ H => ?_)
  · exact h14 _ _ H
  · refine oj_ld1 (pc := 4) (by decide +kernel) ?_
    refine oj_bipush (pc := 5) (v := 12) ⟨by decide, by decide⟩ (by decide +kernel) ?_
    refine oj_icmp_ge (pc := 7) (off := 7) (tgt := 14) (by decide +kernel) (by decide) H (fun _ H => ?_) (fun _ H => ?_)
    · exact h14 _ _ H
    · refine oj_iconst (pc := 10) (v := 1) ⟨by decide, by decide⟩ (by decide +kernel) ?_
      refine oj_goto (pc := 11) (off := 4) (tgt := 15) (by decide +kernel) (by decide) ?_
      exact h15 _ _ _ H
theorem c_R_wayBack_0 {l : Launch} {f : Nat} {l2 l3 : Int} {M : oM} {K : Int × oM → Prop} (H : okp (p_R_wayBack f l2 l3 M) K) : oKf l m_R_wayBack 4 [vr 42, vr 7, vi l2, vi l3] M K := by
  refine oK_intro (lv := [vr 42, vr 7, vi l2, vi l3, vu, vu, vu, vu, vu]) (by decide +kernel) (Nat.le_of_ble_eq_true rfl) rfl ?_
  have h12 : ∀ (g : Nat) (l2 l3 l4 : Int) (M : oM), okp (iter (p_R_wayBack_L12 f l2 l3) g (l4, M)) K → oJ l m_R_wayBack (oEf 4 K) 0 0 12 [vr 42, vr 7, vi l2, vi l3, vi l4, vu, vu, vu, vu] [] WD M := by
    intro g l2 l3 l4 M H
    have HL := fun hs => iter_J' (Jh := fun s => oJ l m_R_wayBack (oEf 4 K) 0 0 12 [vr 42, vr 7, vi l2, vi l3, vi s.1, vu, vu, vu, vu] [] WD s.2) (G := K) hs g (l4, M) H
    refine HL ?_
    intro K12 s i12 e12 H
    obtain ⟨l4, M⟩ := s
    show oJ l m_R_wayBack (oEf 4 K) 0 0 12 [vr 42, vr 7, vi l2, vi l3, vi l4, vu, vu, vu, vu] [] WD M
    have x22 : ∀ (l4 : Int) (M : oM), okp (p_R_wayBack_X22 f l2 l3 l4 M) K12 → oJ l m_R_wayBack (oEf 4 K) 0 0 114 [vr 42, vr 7, vi l2, vi l3, vi l4, vu, vu, vu, vu] [] WD M := by
      intro l4 M H
      unfold p_R_wayBack_X22 at H
      refine oj_inc4 (pc := 114) (d := 1) (by decide +kernel) (by decide +kernel) ?_
      have H := okp_lt H
      refine oj_goto (pc := 117) (off := -105) (tgt := 12) (by decide +kernel) (by decide) ?_
      have H := i12 _ H
      exact H
    have h22 : ∀ (g : Nat) (l4 l5 : Int) (M : oM), okp (iter (p_R_wayBack_L22 f l2 l3 l4) g (l5, M)) (fun r => okp (p_R_wayBack_X22 f l2 l3 l4 r) K12) → oJ l m_R_wayBack (oEf 4 K) 0 0 22 [vr 42, vr 7, vi l2, vi l3, vi l4, vi l5, vu, vu, vu] [] WD M := by
      intro g l4 l5 M H
      have HL := fun hs => iter_J' (Jh := fun s => oJ l m_R_wayBack (oEf 4 K) 0 0 22 [vr 42, vr 7, vi l2, vi l3, vi l4, vi s.1, vu, vu, vu] [] WD s.2) (G := (fun r => okp (p_R_wayBack_X22 f l2 l3 l4 r) K12)) hs g (l5, M) H
      refine HL ?_
      intro K22 s i22 e22 H
      obtain ⟨l5, M⟩ := s
      show oJ l m_R_wayBack (oEf 4 K) 0 0 22 [vr 42, vr 7, vi l2, vi l3, vi l4, vi l5, vu, vu, vu] [] WD M
      have h108 : ∀ (l5 : Int) (M : oM), okp (p_R_wayBack_B108_22 f l2 l3 l4 l5 M) K22 → oJ l m_R_wayBack (oEf 4 K) 0 0 108 [vr 42, vr 7, vi l2, vi l3, vi l4, vi l5, vu, vu, vu] [] WD M := by
        intro l5 M H
        refine oj_inc5 (pc := 108) (d := 1) (by decide +kernel) (by decide +kernel) ?_
        have H := okp_lt H
        refine oj_goto (pc := 111) (off := -89) (tgt := 22) (by decide +kernel) (by decide) ?_
        have H := i22 _ H
        exact H
      have h103 : ∀ (l5 s1 s2 s3 s4 : Int) (M : oM), okp (p_R_wayBack_B103_22 f l2 l3 l4 l5 s1 s2 s3 s4 M) K22 → oJ l m_R_wayBack (oEf 4 K) 0 0 103 [vr 42, vr 7, vi l2, vi l3, vi l4, vi l5, vu, vu, vu] [vi s4, vi s3, vi s2, vi s1, vr 46] WD M := by
        intro l5 s1 s2 s3 s4 M H
        refine oj_iadd (pc := 103) (by decide +kernel) ?_
        refine oj_mmin (pc := 104) q_R_76 mm_min (Nat.le_of_ble_eq_true rfl) (Nat.le_of_ble_eq_true rfl) (Nat.zero_le _) (Nat.zero_le _) (by decide +kernel) ?_
        refine oj_iast (pc := 107) (NN := 10) a_46 rfl (by decide +kernel) H (fun H => ?_)
        have H := okp_lt H
        exact h108 _ _ H
      have h67 : ∀ (l5 l6 l7 s0 : Int) (M : oM), okp (p_R_wayBack_B67_22 f l2 l3 l4 l5 l6 l7 s0 M) K22 → oJ l m_R_wayBack (oEf 4 K) 0 0 67 [vr 42, vr 7, vi l2, vi l3, vi l4, vi l5, vi l6, vi l7, vu] [vi s0] WD M := by
        intro l5 l6 l7 s0 M H
        refine oj_st8 (pc := 67) (by decide +kernel) (by decide +kernel) ?_
        refine oj_ald0 (pc := 69) (by decide +kernel) ?_
        refine oj_getR' (pc := 70) f_R_21 s_42_4 (by decide +kernel) ?_
        refine oj_ld7 (pc := 73) (by decide +kernel) ?_
        refine oj_ald0 (pc := 75) (by decide +kernel) ?_
        refine oj_getR' (pc := 76) f_R_21 s_42_4 (by decide +kernel) ?_
        refine oj_ld7 (pc := 79) (by decide +kernel) ?_
        refine oj_iald (pc := 81) (NN := 10) a_46 rfl (by decide +kernel) H (fun H => ?_)
        refine oj_ld8 (pc := 82) (by decide +kernel) ?_
        refine oj_ld3 (pc := 84) (by decide +kernel) ?_
        refine oj_if_eq (pc := 85) (off := 17) (tgt := 102) (by decide +kernel) (by decide) H (fun _ H => ?_) (fun _ H => ?_)
        · refine oj_iconst (pc := 102) (v := 1) ⟨by decide, by decide⟩ (by decide +kernel) ?_
          refine oj_le (lv' := [_, _, _, _, _, _, vu, vu, vu]) ⟨Or.inr rfl, Or.inr rfl, Or.inr rfl, Or.inr rfl, Or.inr rfl, Or.inr rfl, Or.inl rfl, Or.inl rfl, Or.inl rfl, trivial⟩ ?_
          exact h103 _ _ _ _ _ _ H
        · refine oj_ald0 (pc := 88) (by decide +kernel) ?_
          refine oj_getR' (pc := 89) f_R_30 s_42_0 (by decide +kernel) ?_
          refine oj_ld6 (pc := 92) (by decide +kernel) ?_
          refine oj_ld7 (pc := 94) (by decide +kernel) ?_
          refine of_Vi (pc := 96) (as := [_, _]) v_R_70 o_3 rfl rfl (Nat.le_of_ble_eq_true rfl) (by decide +kernel) (by decide) rfl (c_P_way_0 (okp_bind H)) (fun r M H => ?_)
          refine oj_goto (pc := 99) (off := 4) (tgt := 103) (by decide +kernel) (by decide) ?_
          refine oj_le (lv' := [_, _, _, _, _, _, vu, vu, vu]) ⟨Or.inr rfl, Or.inr rfl, Or.inr rfl, Or.inr rfl, Or.inr rfl, Or.inr rfl, Or.inl rfl, Or.inl rfl, Or.inl rfl, trivial⟩ ?_
          exact h103 _ _ _ _ _ _ H
      refine oj_ld5 (pc := 22) (by decide +kernel) ?_
      refine oj_bipush (pc := 24) (v := 100) ⟨by decide, by decide⟩ (by decide +kernel) ?_
      refine oj_icmp_ge (pc := 26) (off := 88) (tgt := 114) (by decide +kernel) (by decide) H (fun _ H => ?_) (fun _ H => ?_)
      · refine oj_le (lv' := [_, _, _, _, _, vu, vu, vu, vu]) ⟨Or.inr rfl, Or.inr rfl, Or.inr rfl, Or.inr rfl, Or.inr rfl, Or.inl rfl, Or.inr rfl, Or.inr rfl, Or.inr rfl, trivial⟩ ?_
        have H := e22 _ H
        exact x22 _ _ H
      · refine oj_ld5 (pc := 29) (by decide +kernel) ?_
        refine oj_bipush (pc := 31) (v := 10) ⟨by decide, by decide⟩ (by decide +kernel) ?_
        refine oj_idiv (pc := 33) (by decide +kernel) H (fun _ H => ?_)
        refine oj_st6 (pc := 34) (by decide +kernel) (by decide +kernel) ?_
        have H := okp_lt H
        refine oj_ld5 (pc := 36) (by decide +kernel) ?_
        refine oj_bipush (pc := 38) (v := 10) ⟨by decide, by decide⟩ (by decide +kernel) ?_
        refine oj_irem (pc := 40) (by decide +kernel) H (fun _ H => ?_)
        refine oj_st7 (pc := 41) (by decide +kernel) (by decide +kernel) ?_
        have H := okp_lt H
        refine oj_ald1 (pc := 43) (by decide +kernel) ?_
        refine oj_ld5 (pc := 44) (by decide +kernel) ?_
        refine oj_iald (pc := 46) (NN := 100) a_7 rfl (by decide +kernel) H (fun H => ?_)
        refine oj_if_le (pc := 47) (off := 61) (tgt := 108) (by decide +kernel) (by decide) H (fun _ H => ?_) (fun _ H => ?_)
        · refine oj_le (lv' := [_, _, _, _, _, _, vu, vu, vu]) ⟨Or.inr rfl, Or.inr rfl, Or.inr rfl, Or.inr rfl, Or.inr rfl, Or.inr rfl, Or.inl rfl, Or.inl rfl, Or.inr rfl, trivial⟩ ?_
          exact h108 _ _ H
        · refine oj_ld6 (pc := 50) (by decide +kernel) ?_
          refine oj_ld2 (pc := 52) (by decide +kernel) ?_
          refine oj_icmp_ne (pc := 53) (off := 7) (tgt := 60) (by decide +kernel) (by decide) H (fun _ H => ?_) (fun _ H => ?_)
          · refine oj_ald0 (pc := 60) (by decide +kernel) ?_
            refine oj_getR' (pc := 61) f_R_21 s_42_4 (by decide +kernel) ?_
            refine oj_ld6 (pc := 64) (by decide +kernel) ?_
            refine oj_iald (pc := 66) (NN := 10) a_46 rfl (by decide +kernel) H (fun H => ?_)
            exact h67 _ _ _ _ _ H
          · refine oj_iconst (pc := 56) (v := 0) ⟨by decide, by decide⟩ (by decide +kernel) ?_
            refine oj_goto (pc := 57) (off := 10) (tgt := 67) (by decide +kernel) (by decide) ?_
            exact h67 _ _ _ _ _ H
    refine oj_ld4 (pc := 12) (by decide +kernel) ?_
    refine oj_bipush (pc := 14) (v := 10) ⟨by decide, by decide⟩ (by decide +kernel) ?_
    refine oj_icmp_ge (pc := 16) (off := 104) (tgt := 120) (by decide +kernel) (by decide) H (fun _ H => ?_) (fun _ H => ?_)
    · refine oj_ald0 (pc := 120) (by decide +kernel) ?_
      refine oj_getR' (pc := 121) f_R_21 s_42_4 (by decide +kernel) ?_
      refine oj_ld2 (pc := 124) (by decide +kernel) ?_
      refine oj_iald (pc := 125) (NN := 10) a_46 rfl (by decide +kernel) H (fun H => ?_)
      have H := e12 _ H
      exact oj_iret (pc := 126) (by decide +kernel) rfl rfl (Nat.le_refl _) (Nat.le_refl _) ⟨rfl, H⟩
    · refine oj_iconst (pc := 19) (v := 0) ⟨by decide, by decide⟩ (by decide +kernel) ?_
      refine oj_st5 (pc := 20) (by decide +kernel) (by decide +kernel) ?_
      exact h22 _ _ _ _ (okp_bind H)
  refine oj_ald0 (pc := 0) (by decide +kernel) ?_
  refine oj_getR' (pc := 1) f_R_21 s_42_4 (by decide +kernel) ?_
  refine oj_ldc (pc := 4) (v := 1000000) k_R_63 ⟨by decide, by decide⟩ (by decide +kernel) ?_
  refine of_Sv (pc := 6) (as := [_, _]) v_R_64 rfl rfl (Nat.le_of_ble_eq_true rfl) (by decide +kernel) (by decide) rfl (c_JA_fill_1 (okp_bind H)) (fun M H => ?_)
  refine oj_iconst (pc := 9) (v := 0) ⟨by decide, by decide⟩ (by decide +kernel) ?_
  refine oj_st4 (pc := 10) (by decide +kernel) (by decide +kernel) ?_
  exact h12 _ _ _ _ _ H
theorem c_O_back_0 {l : Launch} {f : Nat} {l1 l2 : Int} {M : oM} {K : Int × oM → Prop} (H : okp (p_O_back f l1 l2 M) K) : oKf l m_O_back 5 [vr 0, vi l1, vi l2] M K := by
  refine oK_intro (lv := [vr 0, vi l1, vi l2, vu]) (by decide +kernel) (Nat.le_of_ble_eq_true rfl) rfl ?_
  have h44 : ∀ (s2 s3 : Int) (M : oM), okp (p_O_back_B44 f s2 s3 M) K → oJ l m_O_back (oEf 5 K) 0 0 44 [vr 0, vu, vu, vu] [vi s3, vi s2, vr 7, vr 42] WD M := by
    intro s2 s3 M H
    refine of_Vi (pc := 44) (as := [_, _, _]) v_O_237 o_42 rfl rfl (Nat.le_of_ble_eq_true rfl) (by decide +kernel) (by decide) rfl (c_R_wayBack_0 (okp_bind H)) (fun r M H => ?_)
    refine oj_st3 (pc := 47) (by decide +kernel) (by decide +kernel) ?_
    refine oj_ld3 (pc := 48) (by decide +kernel) ?_
    refine oj_ldc (pc := 49) (v := 1000000) k_O_241 ⟨by decide, by decide⟩ (by decide +kernel) ?_
    refine oj_icmp_ge (pc := 51) (off := 7) (tgt := 58) (by decide +kernel) (by decide) H (fun _ H => ?_) (fun _ H => ?_)
    · refine oj_bipush (pc := 58) (v := -2) ⟨by decide, by decide⟩ (by decide +kernel) ?_
      exact oj_iret (pc := 60) (by decide +kernel) rfl rfl (Nat.le_refl _) (Nat.le_refl _) ⟨rfl, H⟩
    · refine oj_ld3 (pc := 54) (by decide +kernel) ?_
      refine oj_goto (pc := 55) (off := 5) (tgt := 60) (by decide +kernel) (by decide) ?_
      exact oj_iret (pc := 60) (by decide +kernel) rfl rfl (Nat.le_refl _) (Nat.le_refl _) ⟨rfl, H⟩
  have h22 : ∀ (l1 l2 : Int) (M : oM), okp (p_O_back_B22 f l1 l2 M) K → oJ l m_O_back (oEf 5 K) 0 0 22 [vr 0, vi l1, vi l2, vu] [] WD M := by
    intro l1 l2 M H
    refine oj_ald0 (pc := 22) (by decide +kernel) ?_
    refine oj_getR' (pc := 23) f_O_87 s_0_11 (by decide +kernel) ?_
    refine oj_ald0 (pc := 26) (by decide +kernel) ?_
    refine oj_getR' (pc := 27) f_O_26 s_0_2 (by decide +kernel) ?_
    refine oj_getR' (pc := 30) f_O_110 s_6_0 (by decide +kernel) ?_
    refine oj_ld1 (pc := 33) (by decide +kernel) ?_
    refine oj_ld2 (pc := 34) (by decide +kernel) ?_
    refine oj_iconst (pc := 35) (v := 1) ⟨by decide, by decide⟩ (by decide +kernel) ?_
    refine oj_icmp_ne (pc := 36) (off := 7) (tgt := 43) (by decide +kernel) (by decide) H (fun _ H => ?_) (fun _ H => ?_)
    · refine oj_iconst (pc := 43) (v := 0) ⟨by decide, by decide⟩ (by decide +kernel) ?_
      refine oj_le (lv' := [_, vu, vu, vu]) ⟨Or.inr rfl, Or.inl rfl, Or.inl rfl, Or.inr rfl, trivial⟩ ?_
      exact h44 _ _ _ H
    · refine oj_iconst (pc := 39) (v := 1) ⟨by decide, by decide⟩ (by decide +kernel) ?_
      refine oj_goto (pc := 40) (off := 4) (tgt := 44) (by decide +kernel) (by decide) ?_
      refine oj_le (lv' := [_, vu, vu, vu]) ⟨Or.inr rfl, Or.inl rfl, Or.inl rfl, Or.inr rfl, trivial⟩ ?_
      exact h44 _ _ _ H
  refine oj_ald0 (pc := 0) (by decide +kernel) ?_
  refine oj_getR' (pc := 1) f_O_19 s_0_1 (by decide +kernel) ?_
  refine oj_ld1 (pc := 4) (by decide +kernel) ?_
  refine of_Vi (pc := 5) (as := [_]) v_O_114 o_3 rfl rfl (Nat.le_of_ble_eq_true rfl) (by decide +kernel) (by decide) rfl (c_P_has_0 (okp_bind H)) (fun r M H => ?_)
  refine oj_if_eq (pc := 8) (off := 12) (tgt := 20) (by decide +kernel) (by decide) H (fun _ H => ?_) (fun _ H => ?_)
  · refine oj_iconst (pc := 20) (v := -1) ⟨by decide, by decide⟩ (by decide +kernel) ?_
    exact oj_iret (pc := 21) (by decide +kernel) rfl rfl (Nat.le_refl _) (Nat.le_refl _) ⟨rfl, H⟩
  · refine oj_ld2 (pc := 11) (by decide +kernel) ?_
    refine oj_if_eq (pc := 12) (off := 10) (tgt := 22) (by decide +kernel) (by decide) H (fun _ H => ?_) (fun _ H => ?_)
    · exact h22 _ _ _ H
    · refine oj_ld2 (pc := 15) (by decide +kernel) ?_
      refine oj_iconst (pc := 16) (v := 1) ⟨by decide, by decide⟩ (by decide +kernel) ?_
      refine oj_icmp_eq (pc := 17) (off := 5) (tgt := 22) (by decide +kernel) (by decide) H (fun _ H => ?_) (fun _ H => ?_)
      · exact h22 _ _ _ H
      · refine oj_iconst (pc := 20) (v := -1) ⟨by decide, by decide⟩ (by decide +kernel) ?_
        exact oj_iret (pc := 21) (by decide +kernel) rfl rfl (Nat.le_refl _) (Nat.le_refl _) ⟨rfl, H⟩
theorem c_B_weigh_0 {l : Launch} {f : Nat} {M : oM} {K : Int × oM → Prop} (H : okp (p_B_weigh f M) K) : oKf l m_B_weigh 3 [vr 49, vr 6] M K := by
  refine oK_intro (lv := [vr 49, vr 6, vu]) (by decide +kernel) (Nat.le_of_ble_eq_true rfl) rfl ?_
  have h2 : ∀ (g : Nat) (l2 : Int) (M : oM), okp (iter (p_B_weigh_L2 f) g (l2, M)) K → oJ l m_B_weigh (oEf 3 K) 0 0 2 [vr 49, vr 6, vi l2] [] WD M := by
    intro g l2 M H
    have HL := fun hs => iter_J' (Jh := fun s => oJ l m_B_weigh (oEf 3 K) 0 0 2 [vr 49, vr 6, vi s.1] [] WD s.2) (G := K) hs g (l2, M) H
    refine HL ?_
    intro K2 s i2 e2 H
    obtain ⟨l2, M⟩ := s
    show oJ l m_B_weigh (oEf 3 K) 0 0 2 [vr 49, vr 6, vi l2] [] WD M
    refine oj_ld2 (pc := 2) (by decide +kernel) ?_
    refine oj_bipush (pc := 3) (v := 10) ⟨by decide, by decide⟩ (by decide +kernel) ?_
    refine oj_icmp_ge (pc := 5) (off := 26) (tgt := 31) (by decide +kernel) (by decide) H (fun _ H => ?_) (fun _ H => ?_)
    · have H := e2 _ H
      exact oj_vret (pc := 31) (by decide +kernel) rfl (Nat.le_refl _) (Nat.le_refl _) ⟨rfl, H⟩
    · refine oj_ald0 (pc := 8) (by decide +kernel) ?_
      refine oj_getR' (pc := 9) f_B_9 s_49_1 (by decide +kernel) ?_
      refine oj_ld2 (pc := 12) (by decide +kernel) ?_
      refine oj_ald1 (pc := 13) (by decide +kernel) ?_
      refine oj_ld2 (pc := 14) (by decide +kernel) ?_
      refine of_Vi (pc := 15) (as := [_]) v_B_37 o_6 rfl rfl (Nat.le_of_ble_eq_true rfl) (by decide +kernel) (by decide) rfl (c_D_owedTo_0 (okp_bind H)) (fun r M H => ?_)
      refine oj_ald1 (pc := 18) (by decide +kernel) ?_
      refine oj_ld2 (pc := 19) (by decide +kernel) ?_
      refine of_Vi (pc := 20) (as := [_]) v_B_43 o_6 rfl rfl (Nat.le_of_ble_eq_true rfl) (by decide +kernel) (by decide) rfl (c_D_owedBy_0 (okp_bind H)) (fun r M H => ?_)
      refine oj_isub (pc := 23) (by decide +kernel) ?_
      refine oj_iast (pc := 24) (NN := 10) a_50 rfl (by decide +kernel) H (fun H => ?_)
      have H := okp_lt H
      refine oj_inc2 (pc := 25) (d := 1) (by decide +kernel) (by decide +kernel) ?_
      have H := okp_lt H
      refine oj_goto (pc := 28) (off := -26) (tgt := 2) (by decide +kernel) (by decide) ?_
      have H := i2 _ H
      exact H
  refine oj_iconst (pc := 0) (v := 0) ⟨by decide, by decide⟩ (by decide +kernel) ?_
  refine oj_st2 (pc := 1) (by decide +kernel) (by decide +kernel) ?_
  exact h2 _ _ _ H
theorem c_B_newDebts_0 {l : Launch} {f : Nat} {M : oM} {K : Int × oM → Prop} (H : okp (p_B_newDebts f M) K) : oKf l m_B_newDebts 4 [vr 49, vr 6] M K := by
  refine oK_intro (lv := [vr 49, vr 6, vu, vu]) (by decide +kernel) (Nat.le_of_ble_eq_true rfl) rfl ?_
  have h9 : ∀ (g : Nat) (l2 l3 : Int) (M : oM), okp (iter (p_B_newDebts_L9 f) g (l2, l3, M)) K → oJ l m_B_newDebts (oEf 4 K) 0 0 9 [vr 49, vr 6, vi l2, vi l3] [] WD M := by
    intro g l2 l3 M H
    have HL := fun hs => iter_J' (Jh := fun s => oJ l m_B_newDebts (oEf 4 K) 0 0 9 [vr 49, vr 6, vi s.1, vi s.2.1] [] WD s.2.2) (G := K) hs g (l2, l3, M) H
    refine HL ?_
    intro K9 s i9 e9 H
    obtain ⟨l2, l3, M⟩ := s
    show oJ l m_B_newDebts (oEf 4 K) 0 0 9 [vr 49, vr 6, vi l2, vi l3] [] WD M
    refine oj_ld3 (pc := 9) (by decide +kernel) ?_
    refine oj_bipush (pc := 10) (v := 10) ⟨by decide, by decide⟩ (by decide +kernel) ?_
    refine oj_icmp_ge (pc := 12) (off := 22) (tgt := 34) (by decide +kernel) (by decide) H (fun _ H => ?_) (fun _ H => ?_)
    · refine oj_ld2 (pc := 34) (by decide +kernel) ?_
      have H := e9 _ H
      exact oj_iret (pc := 35) (by decide +kernel) rfl rfl (Nat.le_refl _) (Nat.le_refl _) ⟨rfl, H⟩
    · refine oj_ld2 (pc := 15) (by decide +kernel) ?_
      refine oj_iconst (pc := 16) (v := 0) ⟨by decide, by decide⟩ (by decide +kernel) ?_
      refine oj_ald0 (pc := 17) (by decide +kernel) ?_
      refine oj_getR' (pc := 18) f_B_9 s_49_1 (by decide +kernel) ?_
      refine oj_ld3 (pc := 21) (by decide +kernel) ?_
      refine oj_iald (pc := 22) (NN := 10) a_50 rfl (by decide +kernel) H (fun H => ?_)
      refine oj_mmax (pc := 23) q_B_50 mm_max (Nat.le_of_ble_eq_true rfl) (Nat.le_of_ble_eq_true rfl) (Nat.zero_le _) (Nat.zero_le _) (by decide +kernel) ?_
      refine oj_iadd (pc := 26) (by decide +kernel) ?_
      refine oj_st2 (pc := 27) (by decide +kernel) (by decide +kernel) ?_
      have H := okp_lt H
      refine oj_inc3 (pc := 28) (d := 1) (by decide +kernel) (by decide +kernel) ?_
      have H := okp_lt H
      refine oj_goto (pc := 31) (off := -22) (tgt := 9) (by decide +kernel) (by decide) ?_
      have H := i9 _ H
      exact H
  refine oj_ald0 (pc := 0) (by decide +kernel) ?_
  refine oj_ald1 (pc := 1) (by decide +kernel) ?_
  refine of_Vv (pc := 2) (as := [_]) v_B_46 o_49 rfl rfl (Nat.le_of_ble_eq_true rfl) (by decide +kernel) (by decide) rfl (c_B_weigh_0 (okp_bind H)) (fun M H => ?_)
  refine oj_iconst (pc := 5) (v := 0) ⟨by decide, by decide⟩ (by decide +kernel) ?_
  refine oj_st2 (pc := 6) (by decide +kernel) (by decide +kernel) ?_
  refine oj_iconst (pc := 7) (v := 0) ⟨by decide, by decide⟩ (by decide +kernel) ?_
  refine oj_st3 (pc := 8) (by decide +kernel) (by decide +kernel) ?_
  exact h9 _ _ _ _ H
theorem c_B_assign_F_0 {l : Launch} {f d0 : Nat} {rec : Int → Int → Int → oM → Option (Int × oM)} {l1 l2 l3 : Int} {M : oM} {K : Int × oM → Prop} (hrec : ∀ (a1 a2 a3 : Int) (M : oM) (K : Int × oM → Prop), okp (rec a1 a2 a3 M) K → oKf l m_B_assign d0 [vr 49, vi a1, vi a2, vi a3] M K) (hb : 3 ≤ d0) (H : okp (p_B_assign_F f rec l1 l2 l3 M) K) : oKf l m_B_assign (d0 + 1) [vr 49, vi l1, vi l2, vi l3] M K := by
  refine oK_intro (lv := [vr 49, vi l1, vi l2, vi l3, vu]) (by decide +kernel) (Nat.le_of_ble_eq_true rfl) rfl ?_
  have h20 : ∀ (l3 : Int) (M : oM), okp (p_B_assign_B20 f rec l3 M) K → oJ l m_B_assign (oEf (d0 + 1) K) 0 0 20 [vr 49, vu, vu, vi l3, vu] [] WD M := by
    intro l3 M H
    refine oj_ald0 (pc := 20) (by decide +kernel) ?_
    refine oj_ld3 (pc := 21) (by decide +kernel) ?_
    refine oj_putI' (pc := 22) (ki := 8) f_B_57 s_49_8 rfl (by decide +kernel) ?_
    have H := okp_lt H
    refine oj_ald0 (pc := 25) (by decide +kernel) ?_
    refine oj_getR' (pc := 26) f_B_21 s_49_4 (by decide +kernel) ?_
    refine oj_iconst (pc := 29) (v := 0) ⟨by decide, by decide⟩ (by decide +kernel) ?_
    refine oj_ald0 (pc := 30) (by decide +kernel) ?_
    refine oj_getR' (pc := 31) f_B_24 s_49_5 (by decide +kernel) ?_
    refine oj_iconst (pc := 34) (v := 0) ⟨by decide, by decide⟩ (by decide +kernel) ?_
    refine oj_bipush (pc := 35) (v := 6) ⟨by decide, by decide⟩ (by decide +kernel) ?_
    refine oj_copy (pc := 37) (n0 := 6) (n1 := 6) l_B_68 acn.1 acn.2.1 acn.2.2 a_53 a_54 rfl rfl (Nat.le_of_ble_eq_true rfl) (show 1 ≤ d0 + 1 from by omega) (by decide +kernel) H (fun H => ?_)
    have H := okp_lt H
    exact oj_vret (pc := 40) (by decide +kernel) rfl (Nat.le_refl _) (Nat.le_refl _) ⟨rfl, H⟩
  have h44 : ∀ (g : Nat) (l1 l2 l3 l4 : Int) (M : oM), okp (iter (p_B_assign_L44 f rec l1 l2 l3) g (l4, M)) K → oJ l m_B_assign (oEf (d0 + 1) K) 0 0 44 [vr 49, vi l1, vi l2, vi l3, vi l4] [] WD M := by
    intro g l1 l2 l3 l4 M H
    have HL := fun hs => iter_J' (Jh := fun s => oJ l m_B_assign (oEf (d0 + 1) K) 0 0 44 [vr 49, vi l1, vi l2, vi l3, vi s.1] [] WD s.2) (G := K) hs g (l4, M) H
    refine HL ?_
    intro K44 s i44 e44 H
    obtain ⟨l4, M⟩ := s
    show oJ l m_B_assign (oEf (d0 + 1) K) 0 0 44 [vr 49, vi l1, vi l2, vi l3, vi l4] [] WD M
    have h116 : ∀ (l4 : Int) (M : oM), okp (p_B_assign_B116_44 f rec l1 l2 l3 l4 M) K44 → oJ l m_B_assign (oEf (d0 + 1) K) 0 0 116 [vr 49, vi l1, vi l2, vi l3, vi l4] [] WD M := by
      intro l4 M H
      refine oj_inc4 (pc := 116) (d := 1) (by decide +kernel) (by decide +kernel) ?_
      have H := okp_lt H
      refine oj_goto (pc := 119) (off := -75) (tgt := 44) (by decide +kernel) (by decide) ?_
      have H := i44 _ H
      exact H
    refine oj_ld4 (pc := 44) (by decide +kernel) ?_
    refine oj_bipush (pc := 46) (v := 10) ⟨by decide, by decide⟩ (by decide +kernel) ?_
    refine oj_icmp_ge (pc := 48) (off := 74) (tgt := 122) (by decide +kernel) (by decide) H (fun _ H => ?_) (fun _ H => ?_)
    · have H := e44 _ H
      exact oj_vret (pc := 122) (by decide +kernel) rfl (Nat.le_refl _) (Nat.le_refl _) ⟨rfl, H⟩
    · refine oj_ald0 (pc := 51) (by decide +kernel) ?_
      refine oj_getR' (pc := 52) f_B_9 s_49_1 (by decide +kernel) ?_
      refine oj_ld4 (pc := 55) (by decide +kernel) ?_
      refine oj_iald (pc := 57) (NN := 10) a_50 rfl (by decide +kernel) H (fun H => ?_)
      refine oj_if_ge (pc := 58) (off := 58) (tgt := 116) (by decide +kernel) (by decide) H (fun _ H => ?_) (fun _ H => ?_)
      · exact h116 _ _ H
      · refine oj_ald0 (pc := 61) (by decide +kernel) ?_
        refine oj_getR' (pc := 62) f_B_9 s_49_1 (by decide +kernel) ?_
        refine oj_ld4 (pc := 65) (by decide +kernel) ?_
        refine oj_dup2 (pc := 67) (by decide +kernel) ?_
        refine oj_iald (pc := 68) (NN := 10) a_50 rfl (by decide +kernel) H (fun H => ?_)
        refine oj_iconst (pc := 69) (v := 1) ⟨by decide, by decide⟩ (by decide +kernel) ?_
        refine oj_iadd (pc := 70) (by decide +kernel) ?_
        refine oj_iast (pc := 71) (NN := 10) a_50 rfl (by decide +kernel) H (fun H => ?_)
        have H := okp_lt H
        refine oj_ald0 (pc := 72) (by decide +kernel) ?_
        refine oj_getR' (pc := 73) f_B_21 s_49_4 (by decide +kernel) ?_
        refine oj_ld1 (pc := 76) (by decide +kernel) ?_
        refine oj_ld4 (pc := 77) (by decide +kernel) ?_
        refine oj_iast (pc := 79) (NN := 6) a_53 rfl (by decide +kernel) H (fun H => ?_)
        have H := okp_lt H
        refine oj_ald0 (pc := 80) (by decide +kernel) ?_
        refine oj_ld1 (pc := 81) (by decide +kernel) ?_
        refine oj_iconst (pc := 82) (v := 1) ⟨by decide, by decide⟩ (by decide +kernel) ?_
        refine oj_iadd (pc := 83) (by decide +kernel) ?_
        refine oj_ld2 (pc := 84) (by decide +kernel) ?_
        refine oj_ld3 (pc := 85) (by decide +kernel) ?_
        refine oj_ald0 (pc := 86) (by decide +kernel) ?_
        refine oj_getR' (pc := 87) f_B_33 s_49_0 (by decide +kernel) ?_
        refine oj_ald0 (pc := 90) (by decide +kernel) ?_
        refine oj_getR' (pc := 91) f_B_18 s_49_3 (by decide +kernel) ?_
        refine oj_ld1 (pc := 94) (by decide +kernel) ?_
        refine oj_iald (pc := 95) (NN := 6) a_52 rfl (by decide +kernel) H (fun H => ?_)
        refine oj_ld4 (pc := 96) (by decide +kernel) ?_
        refine of_Vi (pc := 98) (as := [_, _]) v_B_74 o_3 rfl rfl (Nat.le_of_ble_eq_true rfl) (by decide +kernel) (by omega) rfl (c_P_way_0 (okp_bind H)) (fun r M H => ?_)
        refine oj_iadd (pc := 101) (by decide +kernel) ?_
        refine of_Sv (pc := 102) (as := [_, _, _, _]) v_B_64 rfl rfl (Nat.le_of_ble_eq_true rfl) (by decide +kernel) (by omega) rfl (hrec _ _ _ _ _ (okp_bind H)) (fun M H => ?_)
        refine oj_ald0 (pc := 105) (by decide +kernel) ?_
        refine oj_getR' (pc := 106) f_B_9 s_49_1 (by decide +kernel) ?_
        refine oj_ld4 (pc := 109) (by decide +kernel) ?_
        refine oj_dup2 (pc := 111) (by decide +kernel) ?_
        refine oj_iald (pc := 112) (NN := 10) a_50 rfl (by decide +kernel) H (fun H => ?_)
        refine oj_iconst (pc := 113) (v := 1) ⟨by decide, by decide⟩ (by decide +kernel) ?_
        refine oj_isub (pc := 114) (by decide +kernel) ?_
        refine oj_iast (pc := 115) (NN := 10) a_50 rfl (by decide +kernel) H (fun H => ?_)
        have H := okp_lt H
        exact h116 _ _ H
  refine oj_ld3 (pc := 0) (by decide +kernel) ?_
  refine oj_ald0 (pc := 1) (by decide +kernel) ?_
  refine oj_getI' (pc := 2) (ki := 8) f_B_57 s_49_8 rfl (by decide +kernel) ?_
  refine oj_icmp_lt (pc := 5) (off := 4) (tgt := 9) (by decide +kernel) (by decide) H (fun _ H => ?_) (fun _ H => ?_)
  · refine oj_ld1 (pc := 9) (by decide +kernel) ?_
    refine oj_ld2 (pc := 10) (by decide +kernel) ?_
    refine oj_icmp_ge (pc := 11) (off := 9) (tgt := 20) (by decide +kernel) (by decide) H (fun _ H => ?_) (fun _ H => ?_)
    · refine oj_le (lv' := [_, vu, vu, _, vu]) ⟨Or.inr rfl, Or.inl rfl, Or.inl rfl, Or.inr rfl, Or.inr rfl, trivial⟩ ?_
      exact h20 _ _ H
    · refine oj_ld1 (pc := 14) (by decide +kernel) ?_
      refine oj_bipush (pc := 15) (v := 6) ⟨by decide, by decide⟩ (by decide +kernel) ?_
      refine oj_icmp_lt (pc := 17) (off := 24) (tgt := 41) (by decide +kernel) (by decide) H (fun _ H => ?_) (fun _ H => ?_)
      · refine oj_iconst (pc := 41) (v := 0) ⟨by decide, by decide⟩ (by decide +kernel) ?_
        refine oj_st4 (pc := 42) (by decide +kernel) (by decide +kernel) ?_
        exact h44 _ _ _ _ _ _ H
      · refine oj_le (lv' := [_, vu, vu, _, vu]) ⟨Or.inr rfl, Or.inl rfl, Or.inl rfl, Or.inr rfl, Or.inr rfl, trivial⟩ ?_
        exact h20 _ _ H
  · exact oj_vret (pc := 8) (by decide +kernel) rfl (Nat.le_refl _) (Nat.le_refl _) ⟨rfl, H⟩
theorem c_B_assign_0 {l : Launch} {f : Nat} : ∀ (n : Nat) {l1 l2 l3 : Int} {M : oM} {K : Int × oM → Prop}, okp (p_B_assign f n l1 l2 l3 M) K → oKf l m_B_assign (3 + 1 * n) [vr 49, vi l1, vi l2, vi l3] M K := by
  intro n
  induction n with
  | zero => intro l1 l2 l3 M K H; exact (show False from H).elim
  | succ n ih =>
    intro l1 l2 l3 M K H
    rw [show 3 + 1 * (n + 1) = (3 + 1 * n) + 1 from by omega]
    exact c_B_assign_F_0 (rec := p_B_assign f n) (fun _ _ _ M K H => ih H) (by omega) H
theorem c_B_planNewDebts_0 {l : Launch} {f : Nat} {l1 : Int} {M : oM} {K : Int × oM → Prop} (H : okp (p_B_planNewDebts f l1 M) K) : oKf l m_B_planNewDebts 13 [vr 49, vi l1] M K := by
  refine oK_intro (lv := [vr 49, vi l1, vu, vu, vu]) (by decide +kernel) (Nat.le_of_ble_eq_true rfl) rfl ?_
  have h4 : ∀ (g : Nat) (l1 l2 l3 : Int) (M : oM), okp (iter (p_B_planNewDebts_L4 f l1) g (l2, l3, M)) K → oJ l m_B_planNewDebts (oEf 13 K) 0 0 4 [vr 49, vi l1, vi l2, vi l3, vu] [] WD M := by
    intro g l1 l2 l3 M H
    have HL := fun hs => iter_J' (Jh := fun s => oJ l m_B_planNewDebts (oEf 13 K) 0 0 4 [vr 49, vi l1, vi s.1, vi s.2.1, vu] [] WD s.2.2) (G := K) hs g (l2, l3, M) H
    refine HL ?_
    intro K4 s i4 e4 H
    obtain ⟨l2, l3, M⟩ := s
    show oJ l m_B_planNewDebts (oEf 13 K) 0 0 4 [vr 49, vi l1, vi l2, vi l3, vu] [] WD M
    have x13 : ∀ (l2 l3 : Int) (M : oM), okp (p_B_planNewDebts_X13 f l1 l3 (l2, M)) K4 → oJ l m_B_planNewDebts (oEf 13 K) 0 0 46 [vr 49, vi l1, vi l2, vi l3, vu] [] WD M := by
      intro l2 l3 M H
      unfold p_B_planNewDebts_X13 at H
      refine oj_inc3 (pc := 46) (d := 1) (by decide +kernel) (by decide +kernel) ?_
      have H := okp_lt H
      refine oj_goto (pc := 49) (off := -45) (tgt := 4) (by decide +kernel) (by decide) ?_
      have H := i4 _ H
      exact H
    have h13 : ∀ (g : Nat) (l2 l3 l4 : Int) (M : oM), okp (iter (p_B_planNewDebts_L13 f l1 l3) g (l2, l4, M)) (fun r => okp (p_B_planNewDebts_X13 f l1 l3 r) K4) → oJ l m_B_planNewDebts (oEf 13 K) 0 0 13 [vr 49, vi l1, vi l2, vi l3, vi l4] [] WD M := by
      intro g l2 l3 l4 M H
      have HL := fun hs => iter_J' (Jh := fun s => oJ l m_B_planNewDebts (oEf 13 K) 0 0 13 [vr 49, vi l1, vi s.1, vi l3, vi s.2.1] [] WD s.2.2) (G := (fun r => okp (p_B_planNewDebts_X13 f l1 l3 r) K4)) hs g (l2, l4, M) H
      refine HL ?_
      intro K13 s i13 e13 H
      obtain ⟨l2, l4, M⟩ := s
      show oJ l m_B_planNewDebts (oEf 13 K) 0 0 13 [vr 49, vi l1, vi l2, vi l3, vi l4] [] WD M
      unfold p_B_planNewDebts_L13 at H
      refine oj_ld4 (pc := 13) (by decide +kernel) ?_
      refine oj_ald0 (pc := 15) (by decide +kernel) ?_
      refine oj_getR' (pc := 16) f_B_9 s_49_1 (by decide +kernel) ?_
      refine oj_ld3 (pc := 19) (by decide +kernel) ?_
      refine oj_iald (pc := 20) (NN := 10) a_50 rfl (by decide +kernel) H (fun H => ?_)
      refine oj_icmp_ge (pc := 21) (off := 25) (tgt := 46) (by decide +kernel) (by decide) H (fun _ H => ?_) (fun _ H => ?_)
      · refine oj_le (lv' := [_, _, _, _, vu]) ⟨Or.inr rfl, Or.inr rfl, Or.inr rfl, Or.inr rfl, Or.inl rfl, trivial⟩ ?_
        have H := e13 _ H
        exact x13 _ _ _ H
      · refine oj_ld2 (pc := 24) (by decide +kernel) ?_
        refine oj_bipush (pc := 25) (v := 6) ⟨by decide, by decide⟩ (by decide +kernel) ?_
        refine oj_icmp_ge (pc := 27) (off := 19) (tgt := 46) (by decide +kernel) (by decide) H (fun _ H => ?_) (fun _ H => ?_)
        · refine oj_le (lv' := [_, _, _, _, vu]) ⟨Or.inr rfl, Or.inr rfl, Or.inr rfl, Or.inr rfl, Or.inl rfl, trivial⟩ ?_
          have H := e13 _ H
          exact x13 _ _ _ H
        · refine oj_ald0 (pc := 30) (by decide +kernel) ?_
          refine oj_getR' (pc := 31) f_B_18 s_49_3 (by decide +kernel) ?_
          refine oj_ld2 (pc := 34) (by decide +kernel) ?_
          refine oj_ld3 (pc := 35) (by decide +kernel) ?_
          refine oj_iast (pc := 36) (NN := 6) a_52 rfl (by decide +kernel) H (fun H => ?_)
          have H := okp_lt H
          refine oj_inc2 (pc := 37) (d := 1) (by decide +kernel) (by decide +kernel) ?_
          have H := okp_lt H
          refine oj_inc4 (pc := 40) (d := 1) (by decide +kernel) (by decide +kernel) ?_
          have H := okp_lt H
          refine oj_goto (pc := 43) (off := -30) (tgt := 13) (by decide +kernel) (by decide) ?_
          have H := i13 _ H
          exact H
    refine oj_ld3 (pc := 4) (by decide +kernel) ?_
    refine oj_bipush (pc := 5) (v := 10) ⟨by decide, by decide⟩ (by decide +kernel) ?_
    refine oj_icmp_ge (pc := 7) (off := 45) (tgt := 52) (by decide +kernel) (by decide) H (fun _ H => ?_) (fun _ H => ?_)
    · refine oj_ald0 (pc := 52) (by decide +kernel) ?_
      refine oj_ldc (pc := 53) (v := 1000000) k_B_56 ⟨by decide, by decide⟩ (by decide +kernel) ?_
      refine oj_putI' (pc := 55) (ki := 8) f_B_57 s_49_8 rfl (by decide +kernel) ?_
      have H := okp_lt H
      refine oj_ald0 (pc := 58) (by decide +kernel) ?_
      refine oj_iconst (pc := 59) (v := 0) ⟨by decide, by decide⟩ (by decide +kernel) ?_
      refine oj_ld1 (pc := 60) (by decide +kernel) ?_
      refine oj_ld2 (pc := 61) (by decide +kernel) ?_
      refine oj_mmin (pc := 62) q_B_61 mm_min (Nat.le_of_ble_eq_true rfl) (Nat.le_of_ble_eq_true rfl) (Nat.zero_le _) (Nat.zero_le _) (by decide +kernel) ?_
      refine oj_iconst (pc := 65) (v := 0) ⟨by decide, by decide⟩ (by decide +kernel) ?_
      refine of_Sv (pc := 66) (as := [_, _, _, _]) v_B_64 rfl rfl (Nat.le_of_ble_eq_true rfl) (by decide +kernel) (by decide) rfl (c_B_assign_0 9 (okp_bind H)) (fun M H => ?_)
      have H := e4 _ H
      exact oj_vret (pc := 69) (by decide +kernel) rfl (Nat.le_refl _) (Nat.le_refl _) ⟨rfl, H⟩
    · refine oj_iconst (pc := 10) (v := 0) ⟨by decide, by decide⟩ (by decide +kernel) ?_
      refine oj_st4 (pc := 11) (by decide +kernel) (by decide +kernel) ?_
      exact h13 _ _ _ _ _ (okp_bind H)
  refine oj_iconst (pc := 0) (v := 0) ⟨by decide, by decide⟩ (by decide +kernel) ?_
  refine oj_st2 (pc := 1) (by decide +kernel) (by decide +kernel) ?_
  refine oj_iconst (pc := 2) (v := 0) ⟨by decide, by decide⟩ (by decide +kernel) ?_
  refine oj_st3 (pc := 3) (by decide +kernel) (by decide +kernel) ?_
  exact h4 _ _ _ _ _ H
theorem c_O_even_0 {l : Launch} {f : Nat} {l1 : Int} {M : oM} {K : Int × oM → Prop} (H : okp (p_O_even f l1 M) K) : oKf l m_O_even 14 [vr 0, vi l1] M K := by
  refine oK_intro (lv := [vr 0, vi l1, vu, vu]) (by decide +kernel) (Nat.le_of_ble_eq_true rfl) rfl ?_
  have h75 : ∀ (l1 l2 l3 : Int) (M : oM), okp (p_O_even_B75 f l1 l2 l3 M) K → oJ l m_O_even (oEf 14 K) 0 0 75 [vr 0, vi l1, vi l2, vi l3] [] WD M := by
    intro l1 l2 l3 M H
    refine oj_ald0 (pc := 75) (by decide +kernel) ?_
    refine oj_getR' (pc := 76) f_O_94 s_0_12 (by decide +kernel) ?_
    refine oj_ld3 (pc := 79) (by decide +kernel) ?_
    refine of_Vv (pc := 80) (as := [_]) v_O_245 o_49 rfl rfl (Nat.le_of_ble_eq_true rfl) (by decide +kernel) (by decide) rfl (c_B_planNewDebts_0 (okp_bind H)) (fun M H => ?_)
    refine oj_ld2 (pc := 83) (by decide +kernel) ?_
    refine oj_if_eq (pc := 84) (off := 15) (tgt := 99) (by decide +kernel) (by decide) H (fun _ H => ?_) (fun _ H => ?_)
    · refine oj_ald0 (pc := 99) (by decide +kernel) ?_
      refine oj_getR' (pc := 100) f_O_94 s_0_12 (by decide +kernel) ?_
      refine oj_getI' (pc := 103) (ki := 8) f_O_249 s_49_8 rfl (by decide +kernel) ?_
      exact oj_iret (pc := 106) (by decide +kernel) rfl rfl (Nat.le_refl _) (Nat.le_refl _) ⟨rfl, H⟩
    · refine oj_ald0 (pc := 87) (by decide +kernel) ?_
      refine oj_getR' (pc := 88) f_O_94 s_0_12 (by decide +kernel) ?_
      refine oj_getR' (pc := 91) f_O_248 s_49_5 (by decide +kernel) ?_
      refine oj_ld1 (pc := 94) (by decide +kernel) ?_
      refine oj_iald (pc := 95) (NN := 6) a_54 rfl (by decide +kernel) H (fun H => ?_)
      refine oj_goto (pc := 96) (off := 10) (tgt := 106) (by decide +kernel) (by decide) ?_
      exact oj_iret (pc := 106) (by decide +kernel) rfl rfl (Nat.le_refl _) (Nat.le_refl _) ⟨rfl, H⟩
  have h34 : ∀ (l1 l2 : Int) (M : oM), okp (p_O_even_B34 f l1 l2 M) K → oJ l m_O_even (oEf 14 K) 0 0 34 [vr 0, vi l1, vi l2, vu] [] WD M := by
    intro l1 l2 M H
    refine oj_ald0 (pc := 34) (by decide +kernel) ?_
    refine oj_getR' (pc := 35) f_O_94 s_0_12 (by decide +kernel) ?_
    refine oj_ald0 (pc := 38) (by decide +kernel) ?_
    refine oj_getR' (pc := 39) f_O_26 s_0_2 (by decide +kernel) ?_
    refine of_Vi (pc := 42) (as := [_]) v_O_242 o_49 rfl rfl (Nat.le_of_ble_eq_true rfl) (by decide +kernel) (by decide) rfl (c_B_newDebts_0 (okp_bind H)) (fun r M H => ?_)
    refine oj_st3 (pc := 45) (by decide +kernel) (by decide +kernel) ?_
    refine oj_ld1 (pc := 46) (by decide +kernel) ?_
    refine oj_bipush (pc := 47) (v := 100) ⟨by decide, by decide⟩ (by decide +kernel) ?_
    refine oj_icmp_ne (pc := 49) (off := 5) (tgt := 54) (by decide +kernel) (by decide) H (fun _ H => ?_) (fun _ H => ?_)
    · refine oj_ld3 (pc := 54) (by decide +kernel) ?_
      refine oj_bipush (pc := 55) (v := 6) ⟨by decide, by decide⟩ (by decide +kernel) ?_
      refine oj_icmp_le (pc := 57) (off := 6) (tgt := 63) (by decide +kernel) (by decide) H (fun _ H => ?_) (fun _ H => ?_)
      · refine oj_ld2 (pc := 63) (by decide +kernel) ?_
        refine oj_if_eq (pc := 64) (off := 11) (tgt := 75) (by decide +kernel) (by decide) H (fun _ H => ?_) (fun _ H => ?_)
        · exact h75 _ _ _ _ H
        · refine oj_ld1 (pc := 67) (by decide +kernel) ?_
          refine oj_ld3 (pc := 68) (by decide +kernel) ?_
          refine oj_icmp_lt (pc := 69) (off := 6) (tgt := 75) (by decide +kernel) (by decide) H (fun _ H => ?_) (fun _ H => ?_)
          · exact h75 _ _ _ _ H
          · refine oj_bipush (pc := 72) (v := -4) ⟨by decide, by decide⟩ (by decide +kernel) ?_
            exact oj_iret (pc := 74) (by decide +kernel) rfl rfl (Nat.le_refl _) (Nat.le_refl _) ⟨rfl, H⟩
      · refine oj_bipush (pc := 60) (v := -3) ⟨by decide, by decide⟩ (by decide +kernel) ?_
        exact oj_iret (pc := 62) (by decide +kernel) rfl rfl (Nat.le_refl _) (Nat.le_refl _) ⟨rfl, H⟩
    · refine oj_ld3 (pc := 52) (by decide +kernel) ?_
      exact oj_iret (pc := 53) (by decide +kernel) rfl rfl (Nat.le_refl _) (Nat.le_refl _) ⟨rfl, H⟩
  have h15 : ∀ (l1 s0 : Int) (M : oM), okp (p_O_even_B15 f l1 s0 M) K → oJ l m_O_even (oEf 14 K) 0 0 15 [vr 0, vi l1, vu, vu] [vi s0] WD M := by
    intro l1 s0 M H
    refine oj_st2 (pc := 15) (by decide +kernel) (by decide +kernel) ?_
    refine oj_ld2 (pc := 16) (by decide +kernel) ?_
    refine oj_if_ne (pc := 17) (off := 17) (tgt := 34) (by decide +kernel) (by decide) H (fun _ H => ?_) (fun _ H => ?_)
    · exact h34 _ _ _ H
    · refine oj_ld1 (pc := 20) (by decide +kernel) ?_
      refine oj_bipush (pc := 21) (v := 100) ⟨by decide, by decide⟩ (by decide +kernel) ?_
      refine oj_icmp_eq (pc := 23) (off := 11) (tgt := 34) (by decide +kernel) (by decide) H (fun _ H => ?_) (fun _ H => ?_)
      · exact h34 _ _ _ H
      · refine oj_ld1 (pc := 26) (by decide +kernel) ?_
        refine oj_bipush (pc := 27) (v := 101) ⟨by decide, by decide⟩ (by decide +kernel) ?_
        refine oj_icmp_eq (pc := 29) (off := 5) (tgt := 34) (by decide +kernel) (by decide) H (fun _ H => ?_) (fun _ H => ?_)
        · exact h34 _ _ _ H
        · refine oj_iconst (pc := 32) (v := -1) ⟨by decide, by decide⟩ (by decide +kernel) ?_
          exact oj_iret (pc := 33) (by decide +kernel) rfl rfl (Nat.le_refl _) (Nat.le_refl _) ⟨rfl, H⟩
  have h14 : ∀ (l1 : Int) (M : oM), okp (p_O_even_B14 f l1 M) K → oJ l m_O_even (oEf 14 K) 0 0 14 [vr 0, vi l1, vu, vu] [] WD M := by
    intro l1 M H
    refine oj_iconst (pc := 14) (v := 0) ⟨by decide, by decide⟩ (by decide +kernel) ?_
    exact h15 _ _ _ H
  refine oj_ld1 (pc := 0) (by decide +kernel) ?_
  refine oj_if_lt (pc := 1) (off := 13) (tgt := 14) (by decide +kernel) (by decide) H (fun _ H => ?_) (fun _ H => ?_)
  · exact h14 _ _ H
  · refine oj_ld1 (pc := 4) (by decide +kernel) ?_
    refine oj_bipush (pc := 5) (v := 6) ⟨by decide, by decide⟩ (by decide +kernel) ?_
    refine oj_icmp_ge (pc := 7) (off := 7) (tgt := 14) (by decide +kernel) (by decide) H (fun _ H => ?_) (fun _ H => ?_)
    · exact h14 _ _ H
    · refine oj_iconst (pc := 10) (v := 1) ⟨by decide, by decide⟩ (by decide +kernel) ?_
      refine oj_goto (pc := 11) (off := 4) (tgt := 15) (by decide +kernel) (by decide) ?_
      exact h15 _ _ _ H
theorem c_B_isEvenTurned_0 {l : Launch} {f : Nat} {l1 l2 : Int} {M : oM} {K : Int × oM → Prop} (H : okp (p_B_isEvenTurned f l1 l2 M) K) : oKf l m_B_isEvenTurned 2 [vr 49, vi l1, vi l2] M K := by
  refine oK_intro (lv := [vr 49, vi l1, vi l2, vu]) (by decide +kernel) (Nat.le_of_ble_eq_true rfl) rfl ?_
  have h81 : ∀ (g : Nat) (l3 : Int) (M : oM), okp (iter (p_B_isEvenTurned_L81 f) g (l3, M)) K → oJ l m_B_isEvenTurned (oEf 2 K) 0 0 81 [vr 49, vu, vu, vi l3] [] WD M := by
    intro g l3 M H
    have HL := fun hs => iter_J' (Jh := fun s => oJ l m_B_isEvenTurned (oEf 2 K) 0 0 81 [vr 49, vu, vu, vi s.1] [] WD s.2) (G := K) hs g (l3, M) H
    refine HL ?_
    intro K81 s i81 e81 H
    obtain ⟨l3, M⟩ := s
    show oJ l m_B_isEvenTurned (oEf 2 K) 0 0 81 [vr 49, vu, vu, vi l3] [] WD M
    refine oj_ld3 (pc := 81) (by decide +kernel) ?_
    refine oj_bipush (pc := 82) (v := 10) ⟨by decide, by decide⟩ (by decide +kernel) ?_
    refine oj_icmp_ge (pc := 84) (off := 20) (tgt := 104) (by decide +kernel) (by decide) H (fun _ H => ?_) (fun _ H => ?_)
    · refine oj_iconst (pc := 104) (v := 1) ⟨by decide, by decide⟩ (by decide +kernel) ?_
      have H := e81 _ H
      exact oj_iret (pc := 105) (by decide +kernel) rfl rfl (Nat.le_refl _) (Nat.le_refl _) ⟨rfl, H⟩
    · refine oj_ald0 (pc := 87) (by decide +kernel) ?_
      refine oj_getR' (pc := 88) f_B_15 s_49_2 (by decide +kernel) ?_
      refine oj_ld3 (pc := 91) (by decide +kernel) ?_
      refine oj_iald (pc := 92) (NN := 10) a_51 rfl (by decide +kernel) H (fun H => ?_)
      refine oj_if_eq (pc := 93) (off := 5) (tgt := 98) (by decide +kernel) (by decide) H (fun _ H => ?_) (fun _ H => ?_)
      · refine oj_inc3 (pc := 98) (d := 1) (by decide +kernel) (by decide +kernel) ?_
        have H := okp_lt H
        refine oj_goto (pc := 101) (off := -20) (tgt := 81) (by decide +kernel) (by decide) ?_
        have H := i81 _ H
        exact H
      · refine oj_iconst (pc := 96) (v := 0) ⟨by decide, by decide⟩ (by decide +kernel) ?_
        have H := e81 _ H
        exact oj_iret (pc := 97) (by decide +kernel) rfl rfl (Nat.le_refl _) (Nat.le_refl _) ⟨rfl, H⟩
  have x17 : ∀ (l1 l2 : Int) (M : oM), okp (p_B_isEvenTurned_X17 f l1 l2 M) K → oJ l m_B_isEvenTurned (oEf 2 K) 0 0 79 [vr 49, vu, vu, vu] [] WD M := by
    intro l1 l2 M H
    unfold p_B_isEvenTurned_X17 at H
    refine oj_iconst (pc := 79) (v := 0) ⟨by decide, by decide⟩ (by decide +kernel) ?_
    refine oj_st3 (pc := 80) (by decide +kernel) (by decide +kernel) ?_
    exact h81 _ _ _ H
  have h17 : ∀ (g : Nat) (l1 l2 l3 : Int) (M : oM), okp (iter (p_B_isEvenTurned_L17 f l1 l2) g (l3, M)) (fun r => okp (p_B_isEvenTurned_X17 f l1 l2 r) K) → oJ l m_B_isEvenTurned (oEf 2 K) 0 0 17 [vr 49, vi l1, vi l2, vi l3] [] WD M := by
    intro g l1 l2 l3 M H
    have HL := fun hs => iter_J' (Jh := fun s => oJ l m_B_isEvenTurned (oEf 2 K) 0 0 17 [vr 49, vi l1, vi l2, vi s.1] [] WD s.2) (G := (fun r => okp (p_B_isEvenTurned_X17 f l1 l2 r) K)) hs g (l3, M) H
    refine HL ?_
    intro K17 s i17 e17 H
    obtain ⟨l3, M⟩ := s
    show oJ l m_B_isEvenTurned (oEf 2 K) 0 0 17 [vr 49, vi l1, vi l2, vi l3] [] WD M
    have h73 : ∀ (l3 : Int) (M : oM), okp (p_B_isEvenTurned_B73_17 f l1 l2 l3 M) K17 → oJ l m_B_isEvenTurned (oEf 2 K) 0 0 73 [vr 49, vi l1, vi l2, vi l3] [] WD M := by
      intro l3 M H
      refine oj_inc3 (pc := 73) (d := 1) (by decide +kernel) (by decide +kernel) ?_
      have H := okp_lt H
      refine oj_goto (pc := 76) (off := -59) (tgt := 17) (by decide +kernel) (by decide) ?_
      have H := i17 _ H
      exact H
    refine oj_ld3 (pc := 17) (by decide +kernel) ?_
    refine oj_ld2 (pc := 18) (by decide +kernel) ?_
    refine oj_icmp_ge (pc := 19) (off := 60) (tgt := 79) (by decide +kernel) (by decide) H (fun _ H => ?_) (fun _ H => ?_)
    · refine oj_le (lv' := [_, vu, vu, vu]) ⟨Or.inr rfl, Or.inl rfl, Or.inl rfl, Or.inl rfl, trivial⟩ ?_
      have H := e17 _ H
      exact x17 _ _ _ H
    · refine oj_ld3 (pc := 22) (by decide +kernel) ?_
      refine oj_bipush (pc := 23) (v := 12) ⟨by decide, by decide⟩ (by decide +kernel) ?_
      refine oj_icmp_ge (pc := 25) (off := 54) (tgt := 79) (by decide +kernel) (by decide) H (fun _ H => ?_) (fun _ H => ?_)
      · refine oj_le (lv' := [_, vu, vu, vu]) ⟨Or.inr rfl, Or.inl rfl, Or.inl rfl, Or.inl rfl, trivial⟩ ?_
        have H := e17 _ H
        exact x17 _ _ _ H
      · refine oj_ld1 (pc := 28) (by decide +kernel) ?_
        refine oj_ld3 (pc := 29) (by decide +kernel) ?_
        refine oj_ishr (pc := 30) (by decide +kernel) ?_
        refine oj_iconst (pc := 31) (v := 1) ⟨by decide, by decide⟩ (by decide +kernel) ?_
        refine oj_iand (pc := 32) (by decide +kernel) ?_
        refine oj_iconst (pc := 33) (v := 1) ⟨by decide, by decide⟩ (by decide +kernel) ?_
        refine oj_icmp_ne (pc := 34) (off := 39) (tgt := 73) (by decide +kernel) (by decide) H (fun _ H => ?_) (fun _ H => ?_)
        · exact h73 _ _ H
        · refine oj_ald0 (pc := 37) (by decide +kernel) ?_
          refine oj_getR' (pc := 38) f_B_15 s_49_2 (by decide +kernel) ?_
          refine oj_ald0 (pc := 41) (by decide +kernel) ?_
          refine oj_getR' (pc := 42) f_B_27 s_49_6 (by decide +kernel) ?_
          refine oj_ld3 (pc := 45) (by decide +kernel) ?_
          refine oj_iald (pc := 46) (NN := 12) a_55 rfl (by decide +kernel) H (fun H => ?_)
          refine oj_bipush (pc := 47) (v := 10) ⟨by decide, by decide⟩ (by decide +kernel) ?_
          refine oj_idiv (pc := 49) (by decide +kernel) H (fun _ H => ?_)
          refine oj_dup2 (pc := 50) (by decide +kernel) ?_
          refine oj_iald (pc := 51) (NN := 10) a_51 rfl (by decide +kernel) H (fun H => ?_)
          refine oj_iconst (pc := 52) (v := 2) ⟨by decide, by decide⟩ (by decide +kernel) ?_
          refine oj_iadd (pc := 53) (by decide +kernel) ?_
          refine oj_iast (pc := 54) (NN := 10) a_51 rfl (by decide +kernel) H (fun H => ?_)
          have H := okp_lt H
          refine oj_ald0 (pc := 55) (by decide +kernel) ?_
          refine oj_getR' (pc := 56) f_B_15 s_49_2 (by decide +kernel) ?_
          refine oj_ald0 (pc := 59) (by decide +kernel) ?_
          refine oj_getR' (pc := 60) f_B_27 s_49_6 (by decide +kernel) ?_
          refine oj_ld3 (pc := 63) (by decide +kernel) ?_
          refine oj_iald (pc := 64) (NN := 12) a_55 rfl (by decide +kernel) H (fun H => ?_)
          refine oj_bipush (pc := 65) (v := 10) ⟨by decide, by decide⟩ (by decide +kernel) ?_
          refine oj_irem (pc := 67) (by decide +kernel) H (fun _ H => ?_)
          refine oj_dup2 (pc := 68) (by decide +kernel) ?_
          refine oj_iald (pc := 69) (NN := 10) a_51 rfl (by decide +kernel) H (fun H => ?_)
          refine oj_iconst (pc := 70) (v := 2) ⟨by decide, by decide⟩ (by decide +kernel) ?_
          refine oj_isub (pc := 71) (by decide +kernel) ?_
          refine oj_iast (pc := 72) (NN := 10) a_51 rfl (by decide +kernel) H (fun H => ?_)
          have H := okp_lt H
          exact h73 _ _ H
  refine oj_ald0 (pc := 0) (by decide +kernel) ?_
  refine oj_getR' (pc := 1) f_B_9 s_49_1 (by decide +kernel) ?_
  refine oj_iconst (pc := 4) (v := 0) ⟨by decide, by decide⟩ (by decide +kernel) ?_
  refine oj_ald0 (pc := 5) (by decide +kernel) ?_
  refine oj_getR' (pc := 6) f_B_15 s_49_2 (by decide +kernel) ?_
  refine oj_iconst (pc := 9) (v := 0) ⟨by decide, by decide⟩ (by decide +kernel) ?_
  refine oj_bipush (pc := 10) (v := 10) ⟨by decide, by decide⟩ (by decide +kernel) ?_
  refine oj_copy (pc := 12) (n0 := 10) (n1 := 10) l_B_68 acn.1 acn.2.1 acn.2.2 a_50 a_51 rfl rfl (Nat.le_of_ble_eq_true rfl) (Nat.le_of_ble_eq_true rfl) (by decide +kernel) H (fun H => ?_)
  have H := okp_lt H
  refine oj_iconst (pc := 15) (v := 0) ⟨by decide, by decide⟩ (by decide +kernel) ?_
  refine oj_st3 (pc := 16) (by decide +kernel) (by decide +kernel) ?_
  exact h17 _ _ _ _ _ (okp_bind H)
theorem c_D_listCoins_0 {l : Launch} {f : Nat} {M : oM} {K : Int × oM → Prop} (H : okp (p_D_listCoins f 55 12 M) K) : oKf l m_D_listCoins 2 [vr 6, vr 55] M K := by
  refine oK_intro (lv := [vr 6, vr 55, vu, vu, vu]) (by decide +kernel) (Nat.le_of_ble_eq_true rfl) rfl ?_
  have h4 : ∀ (g : Nat) (l2 l3 : Int) (M : oM), okp (iter (p_D_listCoins_L4 f 55 12) g (l2, l3, M)) K → oJ l m_D_listCoins (oEf 2 K) 0 0 4 [vr 6, vr 55, vi l2, vi l3, vu] [] WD M := by
    intro g l2 l3 M H
    have HL := fun hs => iter_J' (Jh := fun s => oJ l m_D_listCoins (oEf 2 K) 0 0 4 [vr 6, vr 55, vi s.1, vi s.2.1, vu] [] WD s.2.2) (G := K) hs g (l2, l3, M) H
    refine HL ?_
    intro K4 s i4 e4 H
    obtain ⟨l2, l3, M⟩ := s
    show oJ l m_D_listCoins (oEf 2 K) 0 0 4 [vr 6, vr 55, vi l2, vi l3, vu] [] WD M
    have x13 : ∀ (l2 l3 : Int) (M : oM), okp (p_D_listCoins_X13 f 55 12 l3 (l2, M)) K4 → oJ l m_D_listCoins (oEf 2 K) 0 0 43 [vr 6, vr 55, vi l2, vi l3, vu] [] WD M := by
      intro l2 l3 M H
      unfold p_D_listCoins_X13 at H
      refine oj_inc3 (pc := 43) (d := 1) (by decide +kernel) (by decide +kernel) ?_
      have H := okp_lt H
      refine oj_goto (pc := 46) (off := -42) (tgt := 4) (by decide +kernel) (by decide) ?_
      have H := i4 _ H
      exact H
    have h13 : ∀ (g : Nat) (l2 l3 l4 : Int) (M : oM), okp (iter (p_D_listCoins_L13 f 55 12 l3) g (l2, l4, M)) (fun r => okp (p_D_listCoins_X13 f 55 12 l3 r) K4) → oJ l m_D_listCoins (oEf 2 K) 0 0 13 [vr 6, vr 55, vi l2, vi l3, vi l4] [] WD M := by
      intro g l2 l3 l4 M H
      have HL := fun hs => iter_J' (Jh := fun s => oJ l m_D_listCoins (oEf 2 K) 0 0 13 [vr 6, vr 55, vi s.1, vi l3, vi s.2.1] [] WD s.2.2) (G := (fun r => okp (p_D_listCoins_X13 f 55 12 l3 r) K4)) hs g (l2, l4, M) H
      refine HL ?_
      intro K13 s i13 e13 H
      obtain ⟨l2, l4, M⟩ := s
      show oJ l m_D_listCoins (oEf 2 K) 0 0 13 [vr 6, vr 55, vi l2, vi l3, vi l4] [] WD M
      unfold p_D_listCoins_L13 at H
      refine oj_ld4 (pc := 13) (by decide +kernel) ?_
      refine oj_ald0 (pc := 15) (by decide +kernel) ?_
      refine oj_getR' (pc := 16) f_D_9 s_6_0 (by decide +kernel) ?_
      refine oj_ld3 (pc := 19) (by decide +kernel) ?_
      refine oj_iald (pc := 20) (NN := 100) a_7 rfl (by decide +kernel) H (fun H => ?_)
      refine oj_icmp_ge (pc := 21) (off := 22) (tgt := 43) (by decide +kernel) (by decide) H (fun _ H => ?_) (fun _ H => ?_)
      · refine oj_le (lv' := [_, _, _, _, vu]) ⟨Or.inr rfl, Or.inr rfl, Or.inr rfl, Or.inr rfl, Or.inl rfl, trivial⟩ ?_
        have H := e13 _ H
        exact x13 _ _ _ H
      · refine oj_ld2 (pc := 24) (by decide +kernel) ?_
        refine oj_ald1 (pc := 25) (by decide +kernel) ?_
        refine oj_alen (pc := 26) (NN := 12) a_55 rfl (by decide) (by decide +kernel) ?_
        refine oj_icmp_ge (pc := 27) (off := 16) (tgt := 43) (by decide +kernel) (by decide) H (fun _ H => ?_) (fun _ H => ?_)
        · refine oj_le (lv' := [_, _, _, _, vu]) ⟨Or.inr rfl, Or.inr rfl, Or.inr rfl, Or.inr rfl, Or.inl rfl, trivial⟩ ?_
          have H := e13 _ H
          exact x13 _ _ _ H
        · refine oj_ald1 (pc := 30) (by decide +kernel) ?_
          refine oj_ld2 (pc := 31) (by decide +kernel) ?_
          refine oj_ld3 (pc := 32) (by decide +kernel) ?_
          refine oj_iast (pc := 33) (NN := 12) a_55 rfl (by decide +kernel) H (fun H => ?_)
          have H := okp_lt H
          refine oj_inc2 (pc := 34) (d := 1) (by decide +kernel) (by decide +kernel) ?_
          have H := okp_lt H
          refine oj_inc4 (pc := 37) (d := 1) (by decide +kernel) (by decide +kernel) ?_
          have H := okp_lt H
          refine oj_goto (pc := 40) (off := -27) (tgt := 13) (by decide +kernel) (by decide) ?_
          have H := i13 _ H
          exact H
    refine oj_ld3 (pc := 4) (by decide +kernel) ?_
    refine oj_bipush (pc := 5) (v := 100) ⟨by decide, by decide⟩ (by decide +kernel) ?_
    refine oj_icmp_ge (pc := 7) (off := 42) (tgt := 49) (by decide +kernel) (by decide) H (fun _ H => ?_) (fun _ H => ?_)
    · refine oj_ld2 (pc := 49) (by decide +kernel) ?_
      have H := e4 _ H
      exact oj_iret (pc := 50) (by decide +kernel) rfl rfl (Nat.le_refl _) (Nat.le_refl _) ⟨rfl, H⟩
    · refine oj_iconst (pc := 10) (v := 0) ⟨by decide, by decide⟩ (by decide +kernel) ?_
      refine oj_st4 (pc := 11) (by decide +kernel) (by decide +kernel) ?_
      exact h13 _ _ _ _ _ (okp_bind H)
  refine oj_iconst (pc := 0) (v := 0) ⟨by decide, by decide⟩ (by decide +kernel) ?_
  refine oj_st2 (pc := 1) (by decide +kernel) (by decide +kernel) ?_
  refine oj_iconst (pc := 2) (v := 0) ⟨by decide, by decide⟩ (by decide +kernel) ?_
  refine oj_st3 (pc := 3) (by decide +kernel) (by decide +kernel) ?_
  exact h4 _ _ _ _ H
theorem c_D_listCoins_1 {l : Launch} {f : Nat} {M : oM} {K : Int × oM → Prop} (H : okp (p_D_listCoins f 45 8 M) K) : oKf l m_D_listCoins 2 [vr 6, vr 45] M K := by
  refine oK_intro (lv := [vr 6, vr 45, vu, vu, vu]) (by decide +kernel) (Nat.le_of_ble_eq_true rfl) rfl ?_
  have h4 : ∀ (g : Nat) (l2 l3 : Int) (M : oM), okp (iter (p_D_listCoins_L4 f 45 8) g (l2, l3, M)) K → oJ l m_D_listCoins (oEf 2 K) 0 0 4 [vr 6, vr 45, vi l2, vi l3, vu] [] WD M := by
    intro g l2 l3 M H
    have HL := fun hs => iter_J' (Jh := fun s => oJ l m_D_listCoins (oEf 2 K) 0 0 4 [vr 6, vr 45, vi s.1, vi s.2.1, vu] [] WD s.2.2) (G := K) hs g (l2, l3, M) H
    refine HL ?_
    intro K4 s i4 e4 H
    obtain ⟨l2, l3, M⟩ := s
    show oJ l m_D_listCoins (oEf 2 K) 0 0 4 [vr 6, vr 45, vi l2, vi l3, vu] [] WD M
    have x13 : ∀ (l2 l3 : Int) (M : oM), okp (p_D_listCoins_X13 f 45 8 l3 (l2, M)) K4 → oJ l m_D_listCoins (oEf 2 K) 0 0 43 [vr 6, vr 45, vi l2, vi l3, vu] [] WD M := by
      intro l2 l3 M H
      unfold p_D_listCoins_X13 at H
      refine oj_inc3 (pc := 43) (d := 1) (by decide +kernel) (by decide +kernel) ?_
      have H := okp_lt H
      refine oj_goto (pc := 46) (off := -42) (tgt := 4) (by decide +kernel) (by decide) ?_
      have H := i4 _ H
      exact H
    have h13 : ∀ (g : Nat) (l2 l3 l4 : Int) (M : oM), okp (iter (p_D_listCoins_L13 f 45 8 l3) g (l2, l4, M)) (fun r => okp (p_D_listCoins_X13 f 45 8 l3 r) K4) → oJ l m_D_listCoins (oEf 2 K) 0 0 13 [vr 6, vr 45, vi l2, vi l3, vi l4] [] WD M := by
      intro g l2 l3 l4 M H
      have HL := fun hs => iter_J' (Jh := fun s => oJ l m_D_listCoins (oEf 2 K) 0 0 13 [vr 6, vr 45, vi s.1, vi l3, vi s.2.1] [] WD s.2.2) (G := (fun r => okp (p_D_listCoins_X13 f 45 8 l3 r) K4)) hs g (l2, l4, M) H
      refine HL ?_
      intro K13 s i13 e13 H
      obtain ⟨l2, l4, M⟩ := s
      show oJ l m_D_listCoins (oEf 2 K) 0 0 13 [vr 6, vr 45, vi l2, vi l3, vi l4] [] WD M
      unfold p_D_listCoins_L13 at H
      refine oj_ld4 (pc := 13) (by decide +kernel) ?_
      refine oj_ald0 (pc := 15) (by decide +kernel) ?_
      refine oj_getR' (pc := 16) f_D_9 s_6_0 (by decide +kernel) ?_
      refine oj_ld3 (pc := 19) (by decide +kernel) ?_
      refine oj_iald (pc := 20) (NN := 100) a_7 rfl (by decide +kernel) H (fun H => ?_)
      refine oj_icmp_ge (pc := 21) (off := 22) (tgt := 43) (by decide +kernel) (by decide) H (fun _ H => ?_) (fun _ H => ?_)
      · refine oj_le (lv' := [_, _, _, _, vu]) ⟨Or.inr rfl, Or.inr rfl, Or.inr rfl, Or.inr rfl, Or.inl rfl, trivial⟩ ?_
        have H := e13 _ H
        exact x13 _ _ _ H
      · refine oj_ld2 (pc := 24) (by decide +kernel) ?_
        refine oj_ald1 (pc := 25) (by decide +kernel) ?_
        refine oj_alen (pc := 26) (NN := 8) a_45 rfl (by decide) (by decide +kernel) ?_
        refine oj_icmp_ge (pc := 27) (off := 16) (tgt := 43) (by decide +kernel) (by decide) H (fun _ H => ?_) (fun _ H => ?_)
        · refine oj_le (lv' := [_, _, _, _, vu]) ⟨Or.inr rfl, Or.inr rfl, Or.inr rfl, Or.inr rfl, Or.inl rfl, trivial⟩ ?_
          have H := e13 _ H
          exact x13 _ _ _ H
        · refine oj_ald1 (pc := 30) (by decide +kernel) ?_
          refine oj_ld2 (pc := 31) (by decide +kernel) ?_
          refine oj_ld3 (pc := 32) (by decide +kernel) ?_
          refine oj_iast (pc := 33) (NN := 8) a_45 rfl (by decide +kernel) H (fun H => ?_)
          have H := okp_lt H
          refine oj_inc2 (pc := 34) (d := 1) (by decide +kernel) (by decide +kernel) ?_
          have H := okp_lt H
          refine oj_inc4 (pc := 37) (d := 1) (by decide +kernel) (by decide +kernel) ?_
          have H := okp_lt H
          refine oj_goto (pc := 40) (off := -27) (tgt := 13) (by decide +kernel) (by decide) ?_
          have H := i13 _ H
          exact H
    refine oj_ld3 (pc := 4) (by decide +kernel) ?_
    refine oj_bipush (pc := 5) (v := 100) ⟨by decide, by decide⟩ (by decide +kernel) ?_
    refine oj_icmp_ge (pc := 7) (off := 42) (tgt := 49) (by decide +kernel) (by decide) H (fun _ H => ?_) (fun _ H => ?_)
    · refine oj_ld2 (pc := 49) (by decide +kernel) ?_
      have H := e4 _ H
      exact oj_iret (pc := 50) (by decide +kernel) rfl rfl (Nat.le_refl _) (Nat.le_refl _) ⟨rfl, H⟩
    · refine oj_iconst (pc := 10) (v := 0) ⟨by decide, by decide⟩ (by decide +kernel) ?_
      refine oj_st4 (pc := 11) (by decide +kernel) (by decide +kernel) ?_
      exact h13 _ _ _ _ _ (okp_bind H)
  refine oj_iconst (pc := 0) (v := 0) ⟨by decide, by decide⟩ (by decide +kernel) ?_
  refine oj_st2 (pc := 1) (by decide +kernel) (by decide +kernel) ?_
  refine oj_iconst (pc := 2) (v := 0) ⟨by decide, by decide⟩ (by decide +kernel) ?_
  refine oj_st3 (pc := 3) (by decide +kernel) (by decide +kernel) ?_
  exact h4 _ _ _ _ H
theorem c_JI_bitCount_0 {l : Launch} {f : Nat} {l0 : Int} {M : oM} {K : Int × oM → Prop} (H : okp (p_JI_bitCount f l0 M) K) : oKf l m_JI_bitCount 2 [vi l0] M K := by
  refine oK_intro (lv := [vi l0]) (by decide +kernel) (Nat.le_of_ble_eq_true rfl) rfl ?_
  refine oj_ld0 (pc := 0) (by decide +kernel) ?_
  refine oj_ld0 (pc := 1) (by decide +kernel) ?_
  refine oj_iconst (pc := 2) (v := 1) ⟨by decide, by decide⟩ (by decide +kernel) ?_
  refine oj_iushr (pc := 3) (by decide +kernel) ?_
  refine oj_ldcw (pc := 4) (v := 1431655765) k_JI_265 ⟨by decide, by decide⟩ (by decide +kernel) ?_
  refine oj_iand (pc := 7) (by decide +kernel) ?_
  refine oj_isub (pc := 8) (by decide +kernel) ?_
  refine oj_st0 (pc := 9) (by decide +kernel) (by decide +kernel) ?_
  have H := okp_lt H
  refine oj_ld0 (pc := 10) (by decide +kernel) ?_
  refine oj_ldcw (pc := 11) (v := 858993459) k_JI_266 ⟨by decide, by decide⟩ (by decide +kernel) ?_
  refine oj_iand (pc := 14) (by decide +kernel) ?_
  refine oj_ld0 (pc := 15) (by decide +kernel) ?_
  refine oj_iconst (pc := 16) (v := 2) ⟨by decide, by decide⟩ (by decide +kernel) ?_
  refine oj_iushr (pc := 17) (by decide +kernel) ?_
  refine oj_ldcw (pc := 18) (v := 858993459) k_JI_266 ⟨by decide, by decide⟩ (by decide +kernel) ?_
  refine oj_iand (pc := 21) (by decide +kernel) ?_
  refine oj_iadd (pc := 22) (by decide +kernel) ?_
  refine oj_st0 (pc := 23) (by decide +kernel) (by decide +kernel) ?_
  have H := okp_lt H
  refine oj_ld0 (pc := 24) (by decide +kernel) ?_
  refine oj_ld0 (pc := 25) (by decide +kernel) ?_
  refine oj_iconst (pc := 26) (v := 4) ⟨by decide, by decide⟩ (by decide +kernel) ?_
  refine oj_iushr (pc := 27) (by decide +kernel) ?_
  refine oj_iadd (pc := 28) (by decide +kernel) ?_
  refine oj_ldcw (pc := 29) (v := 252645135) k_JI_267 ⟨by decide, by decide⟩ (by decide +kernel) ?_
  refine oj_iand (pc := 32) (by decide +kernel) ?_
  refine oj_st0 (pc := 33) (by decide +kernel) (by decide +kernel) ?_
  have H := okp_lt H
  refine oj_ld0 (pc := 34) (by decide +kernel) ?_
  refine oj_ld0 (pc := 35) (by decide +kernel) ?_
  refine oj_bipush (pc := 36) (v := 8) ⟨by decide, by decide⟩ (by decide +kernel) ?_
  refine oj_iushr (pc := 38) (by decide +kernel) ?_
  refine oj_iadd (pc := 39) (by decide +kernel) ?_
  refine oj_st0 (pc := 40) (by decide +kernel) (by decide +kernel) ?_
  have H := okp_lt H
  refine oj_ld0 (pc := 41) (by decide +kernel) ?_
  refine oj_ld0 (pc := 42) (by decide +kernel) ?_
  refine oj_bipush (pc := 43) (v := 16) ⟨by decide, by decide⟩ (by decide +kernel) ?_
  refine oj_iushr (pc := 45) (by decide +kernel) ?_
  refine oj_iadd (pc := 46) (by decide +kernel) ?_
  refine oj_st0 (pc := 47) (by decide +kernel) (by decide +kernel) ?_
  have H := okp_lt H
  refine oj_ld0 (pc := 48) (by decide +kernel) ?_
  refine oj_bipush (pc := 49) (v := 63) ⟨by decide, by decide⟩ (by decide +kernel) ?_
  refine oj_iand (pc := 51) (by decide +kernel) ?_
  exact oj_iret (pc := 52) (by decide +kernel) rfl rfl (Nat.le_refl _) (Nat.le_refl _) ⟨rfl, H⟩
theorem c_B_leastTurned_0 {l : Launch} {f : Nat} {M : oM} {K : Int × oM → Prop} (H : okp (p_B_leastTurned f M) K) : oKf l m_B_leastTurned 4 [vr 49, vr 6] M K := by
  refine oK_intro (lv := [vr 49, vr 6, vu, vu, vu, vu]) (by decide +kernel) (Nat.le_of_ble_eq_true rfl) rfl ?_
  have h23 : ∀ (g : Nat) (l2 l3 l4 l5 : Int) (M : oM), okp (iter (p_B_leastTurned_L23 f l2) g (l3, l4, l5, M)) K → oJ l m_B_leastTurned (oEf 4 K) 0 0 23 [vr 49, vr 6, vi l2, vi l3, vi l4, vi l5] [] WD M := by
    intro g l2 l3 l4 l5 M H
    have HL := fun hs => iter_J' (Jh := fun s => oJ l m_B_leastTurned (oEf 4 K) 0 0 23 [vr 49, vr 6, vi l2, vi s.1, vi s.2.1, vi s.2.2.1] [] WD s.2.2.2) (G := K) hs g (l3, l4, l5, M) H
    refine HL ?_
    intro K23 s i23 e23 H
    obtain ⟨l3, l4, l5, M⟩ := s
    show oJ l m_B_leastTurned (oEf 4 K) 0 0 23 [vr 49, vr 6, vi l2, vi l3, vi l4, vi l5] [] WD M
    have h61 : ∀ (l3 l4 l5 : Int) (M : oM), okp (p_B_leastTurned_B61_23 f l2 l3 l4 l5 M) K23 → oJ l m_B_leastTurned (oEf 4 K) 0 0 61 [vr 49, vr 6, vi l2, vi l3, vi l4, vi l5] [] WD M := by
      intro l3 l4 l5 M H
      refine oj_inc5 (pc := 61) (d := 1) (by decide +kernel) (by decide +kernel) ?_
      have H := okp_lt H
      refine oj_goto (pc := 64) (off := -41) (tgt := 23) (by decide +kernel) (by decide) ?_
      have H := i23 _ H
      exact H
    refine oj_ld5 (pc := 23) (by decide +kernel) ?_
    refine oj_iconst (pc := 25) (v := 1) ⟨by decide, by decide⟩ (by decide +kernel) ?_
    refine oj_ld2 (pc := 26) (by decide +kernel) ?_
    refine oj_ishl (pc := 27) (by decide +kernel) ?_
    refine oj_icmp_ge (pc := 28) (off := 39) (tgt := 67) (by decide +kernel) (by decide) H (fun _ H => ?_) (fun _ H => ?_)
    · refine oj_ld3 (pc := 67) (by decide +kernel) ?_
      have H := e23 _ H
      exact oj_iret (pc := 68) (by decide +kernel) rfl rfl (Nat.le_refl _) (Nat.le_refl _) ⟨rfl, H⟩
    · refine oj_ld5 (pc := 31) (by decide +kernel) ?_
      refine of_Si (pc := 33) (as := [_]) v_B_83 rfl rfl (Nat.le_of_ble_eq_true rfl) (by decide +kernel) (by decide) rfl (c_JI_bitCount_0 (okp_bind H)) (fun r M H => ?_)
      refine oj_ld4 (pc := 36) (by decide +kernel) ?_
      refine oj_icmp_ge (pc := 38) (off := 23) (tgt := 61) (by decide +kernel) (by decide) H (fun _ H => ?_) (fun _ H => ?_)
      · exact h61 _ _ _ _ H
      · refine oj_ald0 (pc := 41) (by decide +kernel) ?_
        refine oj_ld5 (pc := 42) (by decide +kernel) ?_
        refine oj_ld2 (pc := 44) (by decide +kernel) ?_
        refine of_Vi (pc := 45) (as := [_, _]) v_B_88 o_49 rfl rfl (Nat.le_of_ble_eq_true rfl) (by decide +kernel) (by decide) rfl (c_B_isEvenTurned_0 (okp_bind H)) (fun r M H => ?_)
        refine oj_if_eq (pc := 48) (off := 13) (tgt := 61) (by decide +kernel) (by decide) H (fun _ H => ?_) (fun _ H => ?_)
        · exact h61 _ _ _ _ H
        · refine oj_ld5 (pc := 51) (by decide +kernel) ?_
          refine of_Si (pc := 53) (as := [_]) v_B_83 rfl rfl (Nat.le_of_ble_eq_true rfl) (by decide +kernel) (by decide) rfl (c_JI_bitCount_0 (okp_bind H)) (fun r M H => ?_)
          refine oj_st4 (pc := 56) (by decide +kernel) (by decide +kernel) ?_
          refine oj_ld5 (pc := 58) (by decide +kernel) ?_
          refine oj_st3 (pc := 60) (by decide +kernel) (by decide +kernel) ?_
          exact h61 _ _ _ _ H
  refine oj_ald0 (pc := 0) (by decide +kernel) ?_
  refine oj_ald1 (pc := 1) (by decide +kernel) ?_
  refine of_Vv (pc := 2) (as := [_]) v_B_46 o_49 rfl rfl (Nat.le_of_ble_eq_true rfl) (by decide +kernel) (by decide) rfl (c_B_weigh_0 (okp_bind H)) (fun M H => ?_)
  refine oj_ald1 (pc := 5) (by decide +kernel) ?_
  refine oj_ald0 (pc := 6) (by decide +kernel) ?_
  refine oj_getR' (pc := 7) f_B_27 s_49_6 (by decide +kernel) ?_
  refine of_Vi (pc := 10) (as := [_]) v_B_79 o_6 rfl rfl (Nat.le_of_ble_eq_true rfl) (by decide +kernel) (by decide) rfl (c_D_listCoins_0 (okp_bind H)) (fun r M H => ?_)
  refine oj_st2 (pc := 13) (by decide +kernel) (by decide +kernel) ?_
  refine oj_iconst (pc := 14) (v := -1) ⟨by decide, by decide⟩ (by decide +kernel) ?_
  refine oj_st3 (pc := 15) (by decide +kernel) (by decide +kernel) ?_
  refine oj_bipush (pc := 16) (v := 13) ⟨by decide, by decide⟩ (by decide +kernel) ?_
  refine oj_st4 (pc := 18) (by decide +kernel) (by decide +kernel) ?_
  refine oj_iconst (pc := 20) (v := 0) ⟨by decide, by decide⟩ (by decide +kernel) ?_
  refine oj_st5 (pc := 21) (by decide +kernel) (by decide +kernel) ?_
  exact h23 _ _ _ _ _ _ H
theorem c_O_turned_0 {l : Launch} {f : Nat} {l1 : Int} {M : oM} {K : Int × oM → Prop} (H : okp (p_O_turned f l1 M) K) : oKf l m_O_turned 5 [vr 0, vi l1] M K := by
  refine oK_intro (lv := [vr 0, vi l1, vu]) (by decide +kernel) (Nat.le_of_ble_eq_true rfl) rfl ?_
  have h11 : ∀ (l1 : Int) (M : oM), okp (p_O_turned_B11 f l1 M) K → oJ l m_O_turned (oEf 5 K) 0 0 11 [vr 0, vi l1, vu] [] WD M := by
    intro l1 M H
    refine oj_ald0 (pc := 11) (by decide +kernel) ?_
    refine oj_getR' (pc := 12) f_O_26 s_0_2 (by decide +kernel) ?_
    refine of_Vi (pc := 15) (as := []) v_O_151 o_6 rfl rfl (Nat.le_of_ble_eq_true rfl) (by decide +kernel) (by decide) rfl (c_D_owedInAll_0 (okp_bind H)) (fun r M H => ?_)
    refine oj_bipush (pc := 18) (v := 12) ⟨by decide, by decide⟩ (by decide +kernel) ?_
    refine oj_icmp_le (pc := 20) (off := 6) (tgt := 26) (by decide +kernel) (by decide) H (fun _ H => ?_) (fun _ H => ?_)
    · refine oj_ald0 (pc := 26) (by decide +kernel) ?_
      refine oj_getR' (pc := 27) f_O_94 s_0_12 (by decide +kernel) ?_
      refine oj_ald0 (pc := 30) (by decide +kernel) ?_
      refine oj_getR' (pc := 31) f_O_26 s_0_2 (by decide +kernel) ?_
      refine of_Vi (pc := 34) (as := [_]) v_O_252 o_49 rfl rfl (Nat.le_of_ble_eq_true rfl) (by decide +kernel) (by decide) rfl (c_B_leastTurned_0 (okp_bind H)) (fun r M H => ?_)
      refine oj_st2 (pc := 37) (by decide +kernel) (by decide +kernel) ?_
      refine oj_ld2 (pc := 38) (by decide +kernel) ?_
      refine oj_if_ge (pc := 39) (off := 6) (tgt := 45) (by decide +kernel) (by decide) H (fun _ H => ?_) (fun _ H => ?_)
      · refine oj_ld1 (pc := 45) (by decide +kernel) ?_
        refine oj_iconst (pc := 46) (v := 1) ⟨by decide, by decide⟩ (by decide +kernel) ?_
        refine oj_icmp_ne (pc := 47) (off := 7) (tgt := 54) (by decide +kernel) (by decide) H (fun _ H => ?_) (fun _ H => ?_)
        · refine oj_ld2 (pc := 54) (by decide +kernel) ?_
          refine of_Si (pc := 55) (as := [_]) v_O_255 rfl rfl (Nat.le_of_ble_eq_true rfl) (by decide +kernel) (by decide) rfl (c_JI_bitCount_0 (okp_bind H)) (fun r M H => ?_)
          exact oj_iret (pc := 58) (by decide +kernel) rfl rfl (Nat.le_refl _) (Nat.le_refl _) ⟨rfl, H⟩
        · refine oj_ld2 (pc := 50) (by decide +kernel) ?_
          refine oj_goto (pc := 51) (off := 7) (tgt := 58) (by decide +kernel) (by decide) ?_
          exact oj_iret (pc := 58) (by decide +kernel) rfl rfl (Nat.le_refl _) (Nat.le_refl _) ⟨rfl, H⟩
      · refine oj_bipush (pc := 42) (v := -2) ⟨by decide, by decide⟩ (by decide +kernel) ?_
        exact oj_iret (pc := 44) (by decide +kernel) rfl rfl (Nat.le_refl _) (Nat.le_refl _) ⟨rfl, H⟩
    · refine oj_bipush (pc := 23) (v := -3) ⟨by decide, by decide⟩ (by decide +kernel) ?_
      exact oj_iret (pc := 25) (by decide +kernel) rfl rfl (Nat.le_refl _) (Nat.le_refl _) ⟨rfl, H⟩
  refine oj_ld1 (pc := 0) (by decide +kernel) ?_
  refine oj_if_eq (pc := 1) (off := 10) (tgt := 11) (by decide +kernel) (by decide) H (fun _ H => ?_) (fun _ H => ?_)
  · exact h11 _ _ H
  · refine oj_ld1 (pc := 4) (by decide +kernel) ?_
    refine oj_iconst (pc := 5) (v := 1) ⟨by decide, by decide⟩ (by decide +kernel) ?_
    refine oj_icmp_eq (pc := 6) (off := 5) (tgt := 11) (by decide +kernel) (by decide) H (fun _ H => ?_) (fun _ H => ?_)
    · exact h11 _ _ H
    · refine oj_iconst (pc := 9) (v := -1) ⟨by decide, by decide⟩ (by decide +kernel) ?_
      exact oj_iret (pc := 10) (by decide +kernel) rfl rfl (Nat.le_refl _) (Nat.le_refl _) ⟨rfl, H⟩
theorem c_O_setOff_0 {l : Launch} {f : Nat} {l1 : Int} {M : oM} {K : Int × oM → Prop} (H : okp (p_O_setOff f l1 M) K) : oKf l m_O_setOff 4 [vr 0, vi l1] M K := by
  refine oK_intro (lv := [vr 0, vi l1]) (by decide +kernel) (Nat.le_of_ble_eq_true rfl) rfl ?_
  refine oj_ald0 (pc := 0) (by decide +kernel) ?_
  refine oj_getR' (pc := 1) f_O_19 s_0_1 (by decide +kernel) ?_
  refine oj_ld1 (pc := 4) (by decide +kernel) ?_
  refine of_Vi (pc := 5) (as := [_]) v_O_114 o_3 rfl rfl (Nat.le_of_ble_eq_true rfl) (by decide +kernel) (by decide) rfl (c_P_has_0 (okp_bind H)) (fun r M H => ?_)
  refine oj_if_eq (pc := 8) (off := 23) (tgt := 31) (by decide +kernel) (by decide) H (fun _ H => ?_) (fun _ H => ?_)
  · refine oj_ldcw (pc := 31) (v := -1000000) k_O_260 ⟨by decide, by decide⟩ (by decide +kernel) ?_
    exact oj_iret (pc := 34) (by decide +kernel) rfl rfl (Nat.le_refl _) (Nat.le_refl _) ⟨rfl, H⟩
  · refine oj_ald0 (pc := 11) (by decide +kernel) ?_
    refine oj_getR' (pc := 12) f_O_26 s_0_2 (by decide +kernel) ?_
    refine oj_ld1 (pc := 15) (by decide +kernel) ?_
    refine of_Vi (pc := 16) (as := [_]) v_O_193 o_6 rfl rfl (Nat.le_of_ble_eq_true rfl) (by decide +kernel) (by decide) rfl (c_D_owedTo_0 (okp_bind H)) (fun r M H => ?_)
    refine oj_ald0 (pc := 19) (by decide +kernel) ?_
    refine oj_getR' (pc := 20) f_O_26 s_0_2 (by decide +kernel) ?_
    refine oj_ld1 (pc := 23) (by decide +kernel) ?_
    refine of_Vi (pc := 24) (as := [_]) v_O_189 o_6 rfl rfl (Nat.le_of_ble_eq_true rfl) (by decide +kernel) (by decide) rfl (c_D_owedBy_0 (okp_bind H)) (fun r M H => ?_)
    refine oj_isub (pc := 27) (by decide +kernel) ?_
    refine oj_goto (pc := 28) (off := 6) (tgt := 34) (by decide +kernel) (by decide) ?_
    exact oj_iret (pc := 34) (by decide +kernel) rfl rfl (Nat.le_refl _) (Nat.le_refl _) ⟨rfl, H⟩
theorem c_B_fewestPayings_0 {l : Launch} {f : Nat} {M : oM} {K : Int × oM → Prop} (H : okp (p_B_fewestPayings f M) K) : oKf l m_B_fewestPayings 4 [vr 49, vr 6] M K := by
  refine oK_intro (lv := [vr 49, vr 6, vu, vu, vu, vu]) (by decide +kernel) (Nat.le_of_ble_eq_true rfl) rfl ?_
  have h7 : ∀ (g : Nat) (l2 : Int) (M : oM), okp (iter (p_B_fewestPayings_L7 f) g (l2, M)) K → oJ l m_B_fewestPayings (oEf 4 K) 0 0 7 [vr 49, vr 6, vi l2, vu, vu, vu] [] WD M := by
    intro g l2 M H
    have HL := fun hs => iter_J' (Jh := fun s => oJ l m_B_fewestPayings (oEf 4 K) 0 0 7 [vr 49, vr 6, vi s.1, vu, vu, vu] [] WD s.2) (G := K) hs g (l2, M) H
    refine HL ?_
    intro K7 s i7 e7 H
    obtain ⟨l2, M⟩ := s
    show oJ l m_B_fewestPayings (oEf 4 K) 0 0 7 [vr 49, vr 6, vi l2, vu, vu, vu] [] WD M
    have h93 : ∀ (l2 s1 s2 : Int) (M : oM), okp (p_B_fewestPayings_B93_7 f l2 s1 s2 M) K7 → oJ l m_B_fewestPayings (oEf 4 K) 0 0 93 [vr 49, vr 6, vi l2, vu, vu, vu] [vi s2, vi s1, vr 56] WD M := by
      intro l2 s1 s2 M H
      refine oj_iast (pc := 93) (NN := 1024) a_56 rfl (by decide +kernel) H (fun H => ?_)
      have H := okp_lt H
      refine oj_inc2 (pc := 94) (d := 1) (by decide +kernel) (by decide +kernel) ?_
      have H := okp_lt H
      refine oj_goto (pc := 97) (off := -90) (tgt := 7) (by decide +kernel) (by decide) ?_
      have H := i7 _ H
      exact H
    have x22 : ∀ (l2 l3 l4 : Int) (M : oM), okp (p_B_fewestPayings_X22 f l2 (l3, l4, M)) K7 → oJ l m_B_fewestPayings (oEf 4 K) 0 0 75 [vr 49, vr 6, vi l2, vi l3, vi l4, vu] [] WD M := by
      intro l2 l3 l4 M H
      refine oj_ald0 (pc := 75) (by decide +kernel) ?_
      refine oj_getR' (pc := 76) f_B_30 s_49_7 (by decide +kernel) ?_
      refine oj_ld2 (pc := 79) (by decide +kernel) ?_
      refine oj_ld3 (pc := 80) (by decide +kernel) ?_
      refine oj_if_ne (pc := 81) (off := 10) (tgt := 91) (by decide +kernel) (by decide) H (fun _ H => ?_) (fun _ H => ?_)
      · refine oj_ld4 (pc := 91) (by decide +kernel) ?_
        refine oj_le (lv' := [_, _, _, vu, vu, vu]) ⟨Or.inr rfl, Or.inr rfl, Or.inr rfl, Or.inl rfl, Or.inl rfl, Or.inr rfl, trivial⟩ ?_
        exact h93 _ _ _ _ H
      · refine oj_ld4 (pc := 84) (by decide +kernel) ?_
        refine oj_iconst (pc := 86) (v := 1) ⟨by decide, by decide⟩ (by decide +kernel) ?_
        refine oj_iadd (pc := 87) (by decide +kernel) ?_
        refine oj_goto (pc := 88) (off := 5) (tgt := 93) (by decide +kernel) (by decide) ?_
        refine oj_le (lv' := [_, _, _, vu, vu, vu]) ⟨Or.inr rfl, Or.inr rfl, Or.inr rfl, Or.inl rfl, Or.inl rfl, Or.inr rfl, trivial⟩ ?_
        exact h93 _ _ _ _ H
    have h22 : ∀ (g : Nat) (l2 l3 l4 l5 : Int) (M : oM), okp (iter (p_B_fewestPayings_L22 f l2) g (l3, l4, l5, M)) (fun r => okp (p_B_fewestPayings_X22 f l2 r) K7) → oJ l m_B_fewestPayings (oEf 4 K) 0 0 22 [vr 49, vr 6, vi l2, vi l3, vi l4, vi l5] [] WD M := by
      intro g l2 l3 l4 l5 M H
      have HL := fun hs => iter_J' (Jh := fun s => oJ l m_B_fewestPayings (oEf 4 K) 0 0 22 [vr 49, vr 6, vi l2, vi s.1, vi s.2.1, vi s.2.2.1] [] WD s.2.2.2) (G := (fun r => okp (p_B_fewestPayings_X22 f l2 r) K7)) hs g (l3, l4, l5, M) H
      refine HL ?_
      intro K22 s i22 e22 H
      obtain ⟨l3, l4, l5, M⟩ := s
      show oJ l m_B_fewestPayings (oEf 4 K) 0 0 22 [vr 49, vr 6, vi l2, vi l3, vi l4, vi l5] [] WD M
      have h69 : ∀ (l3 l4 l5 : Int) (M : oM), okp (p_B_fewestPayings_B69_22 f l2 l3 l4 l5 M) K22 → oJ l m_B_fewestPayings (oEf 4 K) 0 0 69 [vr 49, vr 6, vi l2, vi l3, vi l4, vi l5] [] WD M := by
        intro l3 l4 l5 M H
        refine oj_inc5 (pc := 69) (d := 1) (by decide +kernel) (by decide +kernel) ?_
        have H := okp_lt H
        refine oj_goto (pc := 72) (off := -50) (tgt := 22) (by decide +kernel) (by decide) ?_
        have H := i22 _ H
        exact H
      refine oj_ld5 (pc := 22) (by decide +kernel) ?_
      refine oj_bipush (pc := 24) (v := 10) ⟨by decide, by decide⟩ (by decide +kernel) ?_
      refine oj_icmp_ge (pc := 26) (off := 49) (tgt := 75) (by decide +kernel) (by decide) H (fun _ H => ?_) (fun _ H => ?_)
      · refine oj_le (lv' := [_, _, _, _, _, vu]) ⟨Or.inr rfl, Or.inr rfl, Or.inr rfl, Or.inr rfl, Or.inr rfl, Or.inl rfl, trivial⟩ ?_
        have H := e22 _ H
        exact x22 _ _ _ _ H
      · refine oj_ld2 (pc := 29) (by decide +kernel) ?_
        refine oj_ld5 (pc := 30) (by decide +kernel) ?_
        refine oj_ishr (pc := 32) (by decide +kernel) ?_
        refine oj_iconst (pc := 33) (v := 1) ⟨by decide, by decide⟩ (by decide +kernel) ?_
        refine oj_iand (pc := 34) (by decide +kernel) ?_
        refine oj_iconst (pc := 35) (v := 1) ⟨by decide, by decide⟩ (by decide +kernel) ?_
        refine oj_icmp_ne (pc := 36) (off := 33) (tgt := 69) (by decide +kernel) (by decide) H (fun _ H => ?_) (fun _ H => ?_)
        · exact h69 _ _ _ _ H
        · refine oj_ld3 (pc := 39) (by decide +kernel) ?_
          refine oj_ald0 (pc := 40) (by decide +kernel) ?_
          refine oj_getR' (pc := 41) f_B_9 s_49_1 (by decide +kernel) ?_
          refine oj_ld5 (pc := 44) (by decide +kernel) ?_
          refine oj_iald (pc := 46) (NN := 10) a_50 rfl (by decide +kernel) H (fun H => ?_)
          refine oj_iadd (pc := 47) (by decide +kernel) ?_
          refine oj_st3 (pc := 48) (by decide +kernel) (by decide +kernel) ?_
          have H := okp_lt H
          refine oj_ld4 (pc := 49) (by decide +kernel) ?_
          refine oj_ald0 (pc := 51) (by decide +kernel) ?_
          refine oj_getR' (pc := 52) f_B_30 s_49_7 (by decide +kernel) ?_
          refine oj_ld2 (pc := 55) (by decide +kernel) ?_
          refine oj_iconst (pc := 56) (v := 1) ⟨by decide, by decide⟩ (by decide +kernel) ?_
          refine oj_ld5 (pc := 57) (by decide +kernel) ?_
          refine oj_ishl (pc := 59) (by decide +kernel) ?_
          refine oj_iconst (pc := 60) (v := -1) ⟨by decide, by decide⟩ (by decide +kernel) ?_
          refine oj_ixor (pc := 61) (by decide +kernel) ?_
          refine oj_iand (pc := 62) (by decide +kernel) ?_
          refine oj_iald (pc := 63) (NN := 1024) a_56 rfl (by decide +kernel) H (fun H => ?_)
          refine oj_mmax (pc := 64) q_B_50 mm_max (Nat.le_of_ble_eq_true rfl) (Nat.le_of_ble_eq_true rfl) (Nat.zero_le _) (Nat.zero_le _) (by decide +kernel) ?_
          refine oj_st4 (pc := 67) (by decide +kernel) (by decide +kernel) ?_
          have H := okp_lt H
          exact h69 _ _ _ _ H
    refine oj_ld2 (pc := 7) (by decide +kernel) ?_
    refine oj_sipush (pc := 8) (v := 1024) ⟨by decide, by decide⟩ (by decide +kernel) ?_
    refine oj_icmp_ge (pc := 11) (off := 89) (tgt := 100) (by decide +kernel) (by decide) H (fun _ H => ?_) (fun _ H => ?_)
    · refine oj_bipush (pc := 100) (v := 10) ⟨by decide, by decide⟩ (by decide +kernel) ?_
      refine oj_ald0 (pc := 102) (by decide +kernel) ?_
      refine oj_getR' (pc := 103) f_B_30 s_49_7 (by decide +kernel) ?_
      refine oj_sipush (pc := 106) (v := 1023) ⟨by decide, by decide⟩ (by decide +kernel) ?_
      refine oj_iald (pc := 109) (NN := 1024) a_56 rfl (by decide +kernel) H (fun H => ?_)
      refine oj_isub (pc := 110) (by decide +kernel) ?_
      have H := e7 _ H
      exact oj_iret (pc := 111) (by decide +kernel) rfl rfl (Nat.le_refl _) (Nat.le_refl _) ⟨rfl, H⟩
    · refine oj_iconst (pc := 14) (v := 0) ⟨by decide, by decide⟩ (by decide +kernel) ?_
      refine oj_st3 (pc := 15) (by decide +kernel) (by decide +kernel) ?_
      refine oj_iconst (pc := 16) (v := 0) ⟨by decide, by decide⟩ (by decide +kernel) ?_
      refine oj_st4 (pc := 17) (by decide +kernel) (by decide +kernel) ?_
      refine oj_iconst (pc := 19) (v := 0) ⟨by decide, by decide⟩ (by decide +kernel) ?_
      refine oj_st5 (pc := 20) (by decide +kernel) (by decide +kernel) ?_
      exact h22 _ _ _ _ _ _ (okp_bind H)
  refine oj_ald0 (pc := 0) (by decide +kernel) ?_
  refine oj_ald1 (pc := 1) (by decide +kernel) ?_
  refine of_Vv (pc := 2) (as := [_]) v_B_46 o_49 rfl rfl (Nat.le_of_ble_eq_true rfl) (by decide +kernel) (by decide) rfl (c_B_weigh_0 (okp_bind H)) (fun M H => ?_)
  refine oj_iconst (pc := 5) (v := 1) ⟨by decide, by decide⟩ (by decide +kernel) ?_
  refine oj_st2 (pc := 6) (by decide +kernel) (by decide +kernel) ?_
  exact h7 _ _ _ H
theorem c_O_fewest_0 {l : Launch} {f : Nat} {M : oM} {K : Int × oM → Prop} (H : okp (p_O_fewest f M) K) : oKf l m_O_fewest 5 [vr 0] M K := by
  refine oK_intro (lv := [vr 0]) (by decide +kernel) (Nat.le_of_ble_eq_true rfl) rfl ?_
  refine oj_ald0 (pc := 0) (by decide +kernel) ?_
  refine oj_getR' (pc := 1) f_O_94 s_0_12 (by decide +kernel) ?_
  refine oj_ald0 (pc := 4) (by decide +kernel) ?_
  refine oj_getR' (pc := 5) f_O_26 s_0_2 (by decide +kernel) ?_
  refine of_Vi (pc := 8) (as := [_]) v_O_261 o_49 rfl rfl (Nat.le_of_ble_eq_true rfl) (by decide +kernel) (by decide) rfl (c_B_fewestPayings_0 (okp_bind H)) (fun r M H => ?_)
  exact oj_iret (pc := 11) (by decide +kernel) rfl rfl (Nat.le_refl _) (Nat.le_refl _) ⟨rfl, H⟩
theorem c_R_ringOf_0 {l : Launch} {f : Nat} {l1 : Int} {M : oM} {K : Int × oM → Prop} (H : okp (p_R_ringOf f l1 M) K) : oKf l m_R_ringOf 4 [vr 7, vi l1] M K := by
  refine oK_intro (lv := [vr 7, vi l1, vu, vu, vu]) (by decide +kernel) (Nat.le_of_ble_eq_true rfl) rfl ?_
  have h11 : ∀ (g : Nat) (l1 l2 l3 l4 : Int) (M : oM), okp (iter (p_R_ringOf_L11 f l1 l3) g (l2, l4, M)) K → oJ l m_R_ringOf (oEf 4 K) 0 0 11 [vr 7, vi l1, vi l2, vi l3, vi l4] [] WD M := by
    intro g l1 l2 l3 l4 M H
    have HL := fun hs => iter_J' (Jh := fun s => oJ l m_R_ringOf (oEf 4 K) 0 0 11 [vr 7, vi l1, vi s.1, vi l3, vi s.2.1] [] WD s.2.2) (G := K) hs g (l2, l4, M) H
    refine HL ?_
    intro K11 s i11 e11 H
    obtain ⟨l2, l4, M⟩ := s
    show oJ l m_R_ringOf (oEf 4 K) 0 0 11 [vr 7, vi l1, vi l2, vi l3, vi l4] [] WD M
    have h49 : ∀ (l2 l4 : Int) (M : oM), okp (p_R_ringOf_B49_11 f l1 l2 l3 l4 M) K11 → oJ l m_R_ringOf (oEf 4 K) 0 0 49 [vr 7, vi l1, vi l2, vi l3, vi l4] [] WD M := by
      intro l2 l4 M H
      refine oj_inc4 (pc := 49) (d := 1) (by decide +kernel) (by decide +kernel) ?_
      have H := okp_lt H
      refine oj_goto (pc := 52) (off := -41) (tgt := 11) (by decide +kernel) (by decide) ?_
      have H := i11 _ H
      exact H
    refine oj_ld4 (pc := 11) (by decide +kernel) ?_
    refine oj_bipush (pc := 13) (v := 10) ⟨by decide, by decide⟩ (by decide +kernel) ?_
    refine oj_icmp_ge (pc := 15) (off := 40) (tgt := 55) (by decide +kernel) (by decide) H (fun _ H => ?_) (fun _ H => ?_)
    · refine oj_ld2 (pc := 55) (by decide +kernel) ?_
      have H := e11 _ H
      exact oj_iret (pc := 56) (by decide +kernel) rfl rfl (Nat.le_refl _) (Nat.le_refl _) ⟨rfl, H⟩
    · refine oj_ld3 (pc := 18) (by decide +kernel) ?_
      refine oj_ld4 (pc := 19) (by decide +kernel) ?_
      refine oj_ishr (pc := 21) (by decide +kernel) ?_
      refine oj_iconst (pc := 22) (v := 1) ⟨by decide, by decide⟩ (by decide +kernel) ?_
      refine oj_iand (pc := 23) (by decide +kernel) ?_
      refine oj_iconst (pc := 24) (v := 1) ⟨by decide, by decide⟩ (by decide +kernel) ?_
      refine oj_icmp_ne (pc := 25) (off := 24) (tgt := 49) (by decide +kernel) (by decide) H (fun _ H => ?_) (fun _ H => ?_)
      · exact h49 _ _ _ H
      · refine oj_ald0 (pc := 28) (by decide +kernel) ?_
        refine oj_ld4 (pc := 29) (by decide +kernel) ?_
        refine of_Si (pc := 31) (as := [_, _]) v_R_38 rfl rfl (Nat.le_of_ble_eq_true rfl) (by decide +kernel) (by decide) rfl (c_R_reachedFrom_0 (okp_bind H)) (fun r M H => ?_)
        refine oj_ld1 (pc := 34) (by decide +kernel) ?_
        refine oj_ishr (pc := 35) (by decide +kernel) ?_
        refine oj_iconst (pc := 36) (v := 1) ⟨by decide, by decide⟩ (by decide +kernel) ?_
        refine oj_iand (pc := 37) (by decide +kernel) ?_
        refine oj_iconst (pc := 38) (v := 1) ⟨by decide, by decide⟩ (by decide +kernel) ?_
        refine oj_icmp_ne (pc := 39) (off := 10) (tgt := 49) (by decide +kernel) (by decide) H (fun _ H => ?_) (fun _ H => ?_)
        · exact h49 _ _ _ H
        · refine oj_ld2 (pc := 42) (by decide +kernel) ?_
          refine oj_iconst (pc := 43) (v := 1) ⟨by decide, by decide⟩ (by decide +kernel) ?_
          refine oj_ld4 (pc := 44) (by decide +kernel) ?_
          refine oj_ishl (pc := 46) (by decide +kernel) ?_
          refine oj_ior (pc := 47) (by decide +kernel) ?_
          refine oj_st2 (pc := 48) (by decide +kernel) (by decide +kernel) ?_
          have H := okp_lt H
          exact h49 _ _ _ H
  refine oj_iconst (pc := 0) (v := 0) ⟨by decide, by decide⟩ (by decide +kernel) ?_
  refine oj_st2 (pc := 1) (by decide +kernel) (by decide +kernel) ?_
  refine oj_ald0 (pc := 2) (by decide +kernel) ?_
  refine oj_ld1 (pc := 3) (by decide +kernel) ?_
  refine of_Si (pc := 4) (as := [_, _]) v_R_38 rfl rfl (Nat.le_of_ble_eq_true rfl) (by decide +kernel) (by decide) rfl (c_R_reachedFrom_0 (okp_bind H)) (fun r M H => ?_)
  refine oj_st3 (pc := 7) (by decide +kernel) (by decide +kernel) ?_
  refine oj_iconst (pc := 8) (v := 0) ⟨by decide, by decide⟩ (by decide +kernel) ?_
  refine oj_st4 (pc := 9) (by decide +kernel) (by decide +kernel) ?_
  exact h11 _ _ _ _ _ _ H
theorem c_O_rings_0 {l : Launch} {f : Nat} {l1 : Int} {M : oM} {K : Int × oM → Prop} (H : okp (p_O_rings f l1 M) K) : oKf l m_O_rings 5 [vr 0, vi l1] M K := by
  refine oK_intro (lv := [vr 0, vi l1, vu, vu]) (by decide +kernel) (Nat.le_of_ble_eq_true rfl) rfl ?_
  have h37 : ∀ (g : Nat) (l2 l3 : Int) (M : oM), okp (iter (p_O_rings_L37 f) g (l2, l3, M)) K → oJ l m_O_rings (oEf 5 K) 0 0 37 [vr 0, vu, vi l2, vi l3] [] WD M := by
    intro g l2 l3 M H
    have HL := fun hs => iter_J' (Jh := fun s => oJ l m_O_rings (oEf 5 K) 0 0 37 [vr 0, vu, vi s.1, vi s.2.1] [] WD s.2.2) (G := K) hs g (l2, l3, M) H
    refine HL ?_
    intro K37 s i37 e37 H
    obtain ⟨l2, l3, M⟩ := s
    show oJ l m_O_rings (oEf 5 K) 0 0 37 [vr 0, vu, vi l2, vi l3] [] WD M
    have h77 : ∀ (l2 l3 : Int) (M : oM), okp (p_O_rings_B77_37 f l2 l3 M) K37 → oJ l m_O_rings (oEf 5 K) 0 0 77 [vr 0, vu, vi l2, vi l3] [] WD M := by
      intro l2 l3 M H
      refine oj_inc3 (pc := 77) (d := 1) (by decide +kernel) (by decide +kernel) ?_
      have H := okp_lt H
      refine oj_goto (pc := 80) (off := -43) (tgt := 37) (by decide +kernel) (by decide) ?_
      have H := i37 _ H
      exact H
    refine oj_ld3 (pc := 37) (by decide +kernel) ?_
    refine oj_bipush (pc := 38) (v := 10) ⟨by decide, by decide⟩ (by decide +kernel) ?_
    refine oj_icmp_ge (pc := 40) (off := 43) (tgt := 83) (by decide +kernel) (by decide) H (fun _ H => ?_) (fun _ H => ?_)
    · refine oj_ld2 (pc := 83) (by decide +kernel) ?_
      have H := e37 _ H
      exact oj_iret (pc := 84) (by decide +kernel) rfl rfl (Nat.le_refl _) (Nat.le_refl _) ⟨rfl, H⟩
    · refine oj_ald0 (pc := 43) (by decide +kernel) ?_
      refine oj_getR' (pc := 44) f_O_19 s_0_1 (by decide +kernel) ?_
      refine oj_ld3 (pc := 47) (by decide +kernel) ?_
      refine of_Vi (pc := 48) (as := [_]) v_O_114 o_3 rfl rfl (Nat.le_of_ble_eq_true rfl) (by decide +kernel) (by decide) rfl (c_P_has_0 (okp_bind H)) (fun r M H => ?_)
      refine oj_if_eq (pc := 51) (off := 26) (tgt := 77) (by decide +kernel) (by decide) H (fun _ H => ?_) (fun _ H => ?_)
      · exact h77 _ _ _ H
      · refine oj_ald0 (pc := 54) (by decide +kernel) ?_
        refine oj_getR' (pc := 55) f_O_26 s_0_2 (by decide +kernel) ?_
        refine oj_getR' (pc := 58) f_O_110 s_6_0 (by decide +kernel) ?_
        refine oj_ld3 (pc := 61) (by decide +kernel) ?_
        refine of_Si (pc := 62) (as := [_, _]) v_O_264 rfl rfl (Nat.le_of_ble_eq_true rfl) (by decide +kernel) (by decide) rfl (c_R_ringOf_0 (okp_bind H)) (fun r M H => ?_)
        refine oj_iconst (pc := 65) (v := 1) ⟨by decide, by decide⟩ (by decide +kernel) ?_
        refine oj_ld3 (pc := 66) (by decide +kernel) ?_
        refine oj_ishl (pc := 67) (by decide +kernel) ?_
        refine oj_iconst (pc := 68) (v := 1) ⟨by decide, by decide⟩ (by decide +kernel) ?_
        refine oj_isub (pc := 69) (by decide +kernel) ?_
        refine oj_iand (pc := 70) (by decide +kernel) ?_
        refine oj_if_ne (pc := 71) (off := 6) (tgt := 77) (by decide +kernel) (by decide) H (fun _ H => ?_) (fun _ H => ?_)
        · exact h77 _ _ _ H
        · refine oj_inc2 (pc := 74) (d := 1) (by decide +kernel) (by decide +kernel) ?_
          have H := okp_lt H
          exact h77 _ _ _ H
  refine oj_ld1 (pc := 0) (by decide +kernel) ?_
  refine oj_bipush (pc := 1) (v := 100) ⟨by decide, by decide⟩ (by decide +kernel) ?_
  refine oj_icmp_eq (pc := 3) (off := 30) (tgt := 33) (by decide +kernel) (by decide) H (fun _ H => ?_) (fun _ H => ?_)
  · refine oj_iconst (pc := 33) (v := 0) ⟨by decide, by decide⟩ (by decide +kernel) ?_
    refine oj_st2 (pc := 34) (by decide +kernel) (by decide +kernel) ?_
    refine oj_iconst (pc := 35) (v := 0) ⟨by decide, by decide⟩ (by decide +kernel) ?_
    refine oj_st3 (pc := 36) (by decide +kernel) (by decide +kernel) ?_
    refine oj_le (lv' := [_, vu, _, _]) ⟨Or.inr rfl, Or.inl rfl, Or.inr rfl, Or.inr rfl, trivial⟩ ?_
    exact h37 _ _ _ _ H
  · refine oj_ald0 (pc := 6) (by decide +kernel) ?_
    refine oj_getR' (pc := 7) f_O_19 s_0_1 (by decide +kernel) ?_
    refine oj_ld1 (pc := 10) (by decide +kernel) ?_
    refine of_Vi (pc := 11) (as := [_]) v_O_114 o_3 rfl rfl (Nat.le_of_ble_eq_true rfl) (by decide +kernel) (by decide) rfl (c_P_has_0 (okp_bind H)) (fun r M H => ?_)
    refine oj_if_eq (pc := 14) (off := 17) (tgt := 31) (by decide +kernel) (by decide) H (fun _ H => ?_) (fun _ H => ?_)
    · refine oj_iconst (pc := 31) (v := -1) ⟨by decide, by decide⟩ (by decide +kernel) ?_
      exact oj_iret (pc := 32) (by decide +kernel) rfl rfl (Nat.le_refl _) (Nat.le_refl _) ⟨rfl, H⟩
    · refine oj_ald0 (pc := 17) (by decide +kernel) ?_
      refine oj_getR' (pc := 18) f_O_26 s_0_2 (by decide +kernel) ?_
      refine oj_getR' (pc := 21) f_O_110 s_6_0 (by decide +kernel) ?_
      refine oj_ld1 (pc := 24) (by decide +kernel) ?_
      refine of_Si (pc := 25) (as := [_, _]) v_O_264 rfl rfl (Nat.le_of_ble_eq_true rfl) (by decide +kernel) (by decide) rfl (c_R_ringOf_0 (okp_bind H)) (fun r M H => ?_)
      refine oj_goto (pc := 28) (off := 4) (tgt := 32) (by decide +kernel) (by decide) ?_
      exact oj_iret (pc := 32) (by decide +kernel) rfl rfl (Nat.le_refl _) (Nat.le_refl _) ⟨rfl, H⟩
theorem c_O_off_0 {l : Launch} {f : Nat} {M : oM} {K : Int × oM → Prop} (H : okp (p_O_off f M) K) : oKf l m_O_off 4 [vr 0] M K := by
  refine oK_intro (lv := [vr 0]) (by decide +kernel) (Nat.le_of_ble_eq_true rfl) rfl ?_
  refine oj_ald0 (pc := 0) (by decide +kernel) ?_
  refine oj_getR' (pc := 1) f_O_26 s_0_2 (by decide +kernel) ?_
  refine oj_getI' (pc := 4) (ki := 4) f_O_168 s_6_4 rfl (by decide +kernel) ?_
  refine oj_if_ge (pc := 7) (off := 8) (tgt := 15) (by decide +kernel) (by decide) H (fun _ H => ?_) (fun _ H => ?_)
  · refine oj_ald0 (pc := 15) (by decide +kernel) ?_
    refine oj_getR' (pc := 16) f_O_19 s_0_1 (by decide +kernel) ?_
    refine oj_getI' (pc := 19) (ki := 2) f_O_267 s_3_2 rfl (by decide +kernel) ?_
    refine oj_ald0 (pc := 22) (by decide +kernel) ?_
    refine oj_getR' (pc := 23) f_O_26 s_0_2 (by decide +kernel) ?_
    refine oj_getR' (pc := 26) f_O_110 s_6_0 (by decide +kernel) ?_
    refine oj_ald0 (pc := 29) (by decide +kernel) ?_
    refine oj_getR' (pc := 30) f_O_26 s_0_2 (by decide +kernel) ?_
    refine oj_getI' (pc := 33) (ki := 4) f_O_168 s_6_4 rfl (by decide +kernel) ?_
    refine of_Si (pc := 36) (as := [_, _]) v_O_270 rfl rfl (Nat.le_of_ble_eq_true rfl) (by decide +kernel) (by decide) rfl (c_R_reachedFrom_0 (okp_bind H)) (fun r M H => ?_)
    refine oj_iconst (pc := 39) (v := -1) ⟨by decide, by decide⟩ (by decide +kernel) ?_
    refine oj_ixor (pc := 40) (by decide +kernel) ?_
    refine oj_iand (pc := 41) (by decide +kernel) ?_
    exact oj_iret (pc := 42) (by decide +kernel) rfl rfl (Nat.le_refl _) (Nat.le_refl _) ⟨rfl, H⟩
  · refine oj_bipush (pc := 10) (v := -2) ⟨by decide, by decide⟩ (by decide +kernel) ?_
    refine oj_goto (pc := 12) (off := 30) (tgt := 42) (by decide +kernel) (by decide) ?_
    exact oj_iret (pc := 42) (by decide +kernel) rfl rfl (Nat.le_refl _) (Nat.le_refl _) ⟨rfl, H⟩
theorem c_O_when_0 {l : Launch} {f : Nat} {l1 l2 : Int} {M : oM} {K : Int × oM → Prop} (H : okp (p_O_when f l1 l2 M) K) : oKf l m_O_when 8 [vr 0, vi l1, vi l2] M K := by
  refine oK_intro (lv := [vr 0, vi l1, vi l2, vu]) (by decide +kernel) (Nat.le_of_ble_eq_true rfl) rfl ?_
  have h46 : ∀ (g : Nat) (l1 l2 l3 : Int) (M : oM), okp (iter (p_O_when_L46 f l1 l2) g (l3, M)) K → oJ l m_O_when (oEf 8 K) 0 0 46 [vr 0, vi l1, vi l2, vi l3] [] WD M := by
    intro g l1 l2 l3 M H
    have HL := fun hs => iter_J' (Jh := fun s => oJ l m_O_when (oEf 8 K) 0 0 46 [vr 0, vi l1, vi l2, vi s.1] [] WD s.2) (G := K) hs g (l3, M) H
    refine HL ?_
    intro K46 s i46 e46 H
    obtain ⟨l3, M⟩ := s
    show oJ l m_O_when (oEf 8 K) 0 0 46 [vr 0, vi l1, vi l2, vi l3] [] WD M
    refine oj_ld3 (pc := 46) (by decide +kernel) ?_
    refine oj_ld2 (pc := 47) (by decide +kernel) ?_
    refine oj_icmp_gt (pc := 48) (off := 33) (tgt := 81) (by decide +kernel) (by decide) H (fun _ H => ?_) (fun _ H => ?_)
    · refine oj_bipush (pc := 81) (v := -2) ⟨by decide, by decide⟩ (by decide +kernel) ?_
      have H := e46 _ H
      exact oj_iret (pc := 83) (by decide +kernel) rfl rfl (Nat.le_refl _) (Nat.le_refl _) ⟨rfl, H⟩
    · refine oj_ald0 (pc := 51) (by decide +kernel) ?_
      refine oj_getR' (pc := 52) f_O_80 s_0_10 (by decide +kernel) ?_
      refine oj_ald0 (pc := 55) (by decide +kernel) ?_
      refine oj_getR' (pc := 56) f_O_33 s_0_4 (by decide +kernel) ?_
      refine of_Vv (pc := 59) (as := [_]) v_O_273 o_41 rfl rfl (Nat.le_of_ble_eq_true rfl) (by decide +kernel) (by decide) rfl (c_C_tick_0 (okp_bind H)) (fun M H => ?_)
      refine oj_ald0 (pc := 62) (by decide +kernel) ?_
      refine oj_getR' (pc := 63) f_O_80 s_0_10 (by decide +kernel) ?_
      refine oj_getI' (pc := 66) (ki := 5) f_O_276 s_41_5 rfl (by decide +kernel) ?_
      refine oj_ld1 (pc := 69) (by decide +kernel) ?_
      refine oj_icmp_ne (pc := 70) (off := 5) (tgt := 75) (by decide +kernel) (by decide) H (fun _ H => ?_) (fun _ H => ?_)
      · refine oj_inc3 (pc := 75) (d := 1) (by decide +kernel) (by decide +kernel) ?_
        have H := okp_lt H
        refine oj_goto (pc := 78) (off := -32) (tgt := 46) (by decide +kernel) (by decide) ?_
        have H := i46 _ H
        exact H
      · refine oj_ld3 (pc := 73) (by decide +kernel) ?_
        have H := e46 _ H
        exact oj_iret (pc := 74) (by decide +kernel) rfl rfl (Nat.le_refl _) (Nat.le_refl _) ⟨rfl, H⟩
  refine oj_ald0 (pc := 0) (by decide +kernel) ?_
  refine oj_getR' (pc := 1) f_O_19 s_0_1 (by decide +kernel) ?_
  refine oj_ld1 (pc := 4) (by decide +kernel) ?_
  refine of_Vi (pc := 5) (as := [_]) v_O_114 o_3 rfl rfl (Nat.le_of_ble_eq_true rfl) (by decide +kernel) (by decide) rfl (c_P_has_0 (okp_bind H)) (fun r M H => ?_)
  refine oj_if_eq (pc := 8) (off := 10) (tgt := 18) (by decide +kernel) (by decide) H (fun _ H => ?_) (fun _ H => ?_)
  · refine oj_iconst (pc := 18) (v := -1) ⟨by decide, by decide⟩ (by decide +kernel) ?_
    exact oj_iret (pc := 19) (by decide +kernel) rfl rfl (Nat.le_refl _) (Nat.le_refl _) ⟨rfl, H⟩
  · refine oj_ld2 (pc := 11) (by decide +kernel) ?_
    refine of_Si (pc := 12) (as := [_]) v_O_154 rfl rfl (Nat.le_of_ble_eq_true rfl) (by decide +kernel) (by decide) rfl (c_O_areHours_0 (okp_bind H)) (fun r M H => ?_)
    refine oj_if_ne (pc := 15) (off := 5) (tgt := 20) (by decide +kernel) (by decide) H (fun _ H => ?_) (fun _ H => ?_)
    · refine oj_ald0 (pc := 20) (by decide +kernel) ?_
      refine oj_getR' (pc := 21) f_O_26 s_0_2 (by decide +kernel) ?_
      refine oj_getI' (pc := 24) (ki := 4) f_O_168 s_6_4 rfl (by decide +kernel) ?_
      refine oj_ld1 (pc := 27) (by decide +kernel) ?_
      refine oj_icmp_ne (pc := 28) (off := 5) (tgt := 33) (by decide +kernel) (by decide) H (fun _ H => ?_) (fun _ H => ?_)
      · refine oj_ald0 (pc := 33) (by decide +kernel) ?_
        refine oj_getR' (pc := 34) f_O_33 s_0_4 (by decide +kernel) ?_
        refine oj_ald0 (pc := 37) (by decide +kernel) ?_
        refine oj_getR' (pc := 38) f_O_26 s_0_2 (by decide +kernel) ?_
        refine of_Vv (pc := 41) (as := [_]) v_O_165 o_14 rfl rfl (Nat.le_of_ble_eq_true rfl) (by decide +kernel) (by decide) rfl (c_D_takeFrom_0 (okp_bind H)) (fun M H => ?_)
        refine oj_iconst (pc := 44) (v := 1) ⟨by decide, by decide⟩ (by decide +kernel) ?_
        refine oj_st3 (pc := 45) (by decide +kernel) (by decide +kernel) ?_
        exact h46 _ _ _ _ _ H
      · refine oj_iconst (pc := 31) (v := 0) ⟨by decide, by decide⟩ (by decide +kernel) ?_
        exact oj_iret (pc := 32) (by decide +kernel) rfl rfl (Nat.le_refl _) (Nat.le_refl _) ⟨rfl, H⟩
    · refine oj_iconst (pc := 18) (v := -1) ⟨by decide, by decide⟩ (by decide +kernel) ?_
      exact oj_iret (pc := 19) (by decide +kernel) rfl rfl (Nat.le_refl _) (Nat.le_refl _) ⟨rfl, H⟩
theorem c_O_wedding_0 {l : Launch} {f : Nat} {l1 l2 l3 : Int} {M : oM} {K : Int × oM → Prop} (H : okp (p_O_wedding f l1 l2 l3 M) K) : oKf l m_O_wedding 8 [vr 0, vi l1, vi l2, vi l3] M K := by
  refine oK_intro (lv := [vr 0, vi l1, vi l2, vi l3, vu, vu, vu, vu]) (by decide +kernel) (Nat.le_of_ble_eq_true rfl) rfl ?_
  have h41 : ∀ (g : Nat) (l1 l2 l3 l4 l5 l6 : Int) (M : oM), okp (iter (p_O_wedding_L41 f l1 l2 l3) g (l4, l5, l6, M)) K → oJ l m_O_wedding (oEf 8 K) 0 0 41 [vr 0, vi l1, vi l2, vi l3, vi l4, vi l5, vi l6, vu] [] WD M := by
    intro g l1 l2 l3 l4 l5 l6 M H
    have HL := fun hs => iter_J' (Jh := fun s => oJ l m_O_wedding (oEf 8 K) 0 0 41 [vr 0, vi l1, vi l2, vi l3, vi s.1, vi s.2.1, vi s.2.2.1, vu] [] WD s.2.2.2) (G := K) hs g (l4, l5, l6, M) H
    refine HL ?_
    intro K41 s i41 e41 H
    obtain ⟨l4, l5, l6, M⟩ := s
    show oJ l m_O_wedding (oEf 8 K) 0 0 41 [vr 0, vi l1, vi l2, vi l3, vi l4, vi l5, vi l6, vu] [] WD M
    have h117 : ∀ (l4 l5 l6 : Int) (M : oM), okp (p_O_wedding_B117_41 f l1 l2 l3 l4 l5 l6 M) K41 → oJ l m_O_wedding (oEf 8 K) 0 0 117 [vr 0, vi l1, vi l2, vi l3, vi l4, vi l5, vi l6, vu] [] WD M := by
      intro l4 l5 l6 M H
      refine oj_inc6 (pc := 117) (d := 1) (by decide +kernel) (by decide +kernel) ?_
      have H := okp_lt H
      refine oj_goto (pc := 120) (off := -79) (tgt := 41) (by decide +kernel) (by decide) ?_
      have H := i41 _ H
      exact H
    have h100 : ∀ (l4 l5 l6 l7 : Int) (M : oM), okp (p_O_wedding_B100_41 f l1 l2 l3 l4 l5 l6 l7 M) K41 → oJ l m_O_wedding (oEf 8 K) 0 0 100 [vr 0, vi l1, vi l2, vi l3, vi l4, vi l5, vi l6, vi l7] [] WD M := by
      intro l4 l5 l6 l7 M H
      refine oj_ld4 (pc := 100) (by decide +kernel) ?_
      refine oj_ld7 (pc := 102) (by decide +kernel) ?_
      refine oj_icmp_ne (pc := 104) (off := 13) (tgt := 117) (by decide +kernel) (by decide) H (fun _ H => ?_) (fun _ H => ?_)
      · refine oj_le (lv' := [_, _, _, _, _, _, _, vu]) ⟨Or.inr rfl, Or.inr rfl, Or.inr rfl, Or.inr rfl, Or.inr rfl, Or.inr rfl, Or.inr rfl, Or.inl rfl, trivial⟩ ?_
        exact h117 _ _ _ _ H
      · refine oj_ld5 (pc := 107) (by decide +kernel) ?_
        refine oj_ld7 (pc := 109) (by decide +kernel) ?_
        refine oj_icmp_ne (pc := 111) (off := 6) (tgt := 117) (by decide +kernel) (by decide) H (fun _ H => ?_) (fun _ H => ?_)
        · refine oj_le (lv' := [_, _, _, _, _, _, _, vu]) ⟨Or.inr rfl, Or.inr rfl, Or.inr rfl, Or.inr rfl, Or.inr rfl, Or.inr rfl, Or.inr rfl, Or.inl rfl, trivial⟩ ?_
          exact h117 _ _ _ _ H
        · refine oj_ld7 (pc := 114) (by decide +kernel) ?_
          have H := e41 _ H
          exact oj_iret (pc := 116) (by decide +kernel) rfl rfl (Nat.le_refl _) (Nat.le_refl _) ⟨rfl, H⟩
    refine oj_ld6 (pc := 41) (by decide +kernel) ?_
    refine oj_ld3 (pc := 43) (by decide +kernel) ?_
    refine oj_icmp_ge (pc := 44) (off := 79) (tgt := 123) (by decide +kernel) (by decide) H (fun _ H => ?_) (fun _ H => ?_)
    · refine oj_bipush (pc := 123) (v := -2) ⟨by decide, by decide⟩ (by decide +kernel) ?_
      have H := e41 _ H
      exact oj_iret (pc := 125) (by decide +kernel) rfl rfl (Nat.le_refl _) (Nat.le_refl _) ⟨rfl, H⟩
    · refine oj_ald0 (pc := 47) (by decide +kernel) ?_
      refine oj_getR' (pc := 48) f_O_33 s_0_4 (by decide +kernel) ?_
      refine oj_getI' (pc := 51) (ki := 9) f_O_279 s_14_9 rfl (by decide +kernel) ?_
      refine oj_st7 (pc := 54) (by decide +kernel) (by decide +kernel) ?_
      have H := okp_lt H
      refine oj_ald0 (pc := 56) (by decide +kernel) ?_
      refine oj_getR' (pc := 57) f_O_80 s_0_10 (by decide +kernel) ?_
      refine oj_ald0 (pc := 60) (by decide +kernel) ?_
      refine oj_getR' (pc := 61) f_O_33 s_0_4 (by decide +kernel) ?_
      refine of_Vv (pc := 64) (as := [_]) v_O_273 o_41 rfl rfl (Nat.le_of_ble_eq_true rfl) (by decide +kernel) (by decide) rfl (c_C_tick_0 (okp_bind H)) (fun M H => ?_)
      refine oj_ald0 (pc := 67) (by decide +kernel) ?_
      refine oj_getR' (pc := 68) f_O_80 s_0_10 (by decide +kernel) ?_
      refine oj_getI' (pc := 71) (ki := 5) f_O_276 s_41_5 rfl (by decide +kernel) ?_
      refine oj_ld1 (pc := 74) (by decide +kernel) ?_
      refine oj_icmp_ne (pc := 75) (off := 10) (tgt := 85) (by decide +kernel) (by decide) H (fun _ H => ?_) (fun _ H => ?_)
      · refine oj_ald0 (pc := 85) (by decide +kernel) ?_
        refine oj_getR' (pc := 86) f_O_80 s_0_10 (by decide +kernel) ?_
        refine oj_getI' (pc := 89) (ki := 5) f_O_276 s_41_5 rfl (by decide +kernel) ?_
        refine oj_ld2 (pc := 92) (by decide +kernel) ?_
        refine oj_icmp_ne (pc := 93) (off := 7) (tgt := 100) (by decide +kernel) (by decide) H (fun _ H => ?_) (fun _ H => ?_)
        · exact h100 _ _ _ _ _ H
        · refine oj_ld7 (pc := 96) (by decide +kernel) ?_
          refine oj_st5 (pc := 98) (by decide +kernel) (by decide +kernel) ?_
          exact h100 _ _ _ _ _ H
      · refine oj_ld7 (pc := 78) (by decide +kernel) ?_
        refine oj_st4 (pc := 80) (by decide +kernel) (by decide +kernel) ?_
        refine oj_goto (pc := 82) (off := 18) (tgt := 100) (by decide +kernel) (by decide) ?_
        exact h100 _ _ _ _ _ H
  refine oj_ald0 (pc := 0) (by decide +kernel) ?_
  refine oj_getR' (pc := 1) f_O_19 s_0_1 (by decide +kernel) ?_
  refine oj_ld1 (pc := 4) (by decide +kernel) ?_
  refine oj_ld2 (pc := 5) (by decide +kernel) ?_
  refine of_Vi (pc := 6) (as := [_, _]) v_O_106 o_3 rfl rfl (Nat.le_of_ble_eq_true rfl) (by decide +kernel) (by decide) rfl (c_P_hasBoth_0 (okp_bind H)) (fun r M H => ?_)
  refine oj_if_eq (pc := 9) (off := 10) (tgt := 19) (by decide +kernel) (by decide) H (fun _ H => ?_) (fun _ H => ?_)
  · refine oj_iconst (pc := 19) (v := -1) ⟨by decide, by decide⟩ (by decide +kernel) ?_
    exact oj_iret (pc := 20) (by decide +kernel) rfl rfl (Nat.le_refl _) (Nat.le_refl _) ⟨rfl, H⟩
  · refine oj_ld3 (pc := 12) (by decide +kernel) ?_
    refine of_Si (pc := 13) (as := [_]) v_O_154 rfl rfl (Nat.le_of_ble_eq_true rfl) (by decide +kernel) (by decide) rfl (c_O_areHours_0 (okp_bind H)) (fun r M H => ?_)
    refine oj_if_ne (pc := 16) (off := 5) (tgt := 21) (by decide +kernel) (by decide) H (fun _ H => ?_) (fun _ H => ?_)
    · refine oj_ald0 (pc := 21) (by decide +kernel) ?_
      refine oj_getR' (pc := 22) f_O_33 s_0_4 (by decide +kernel) ?_
      refine oj_ald0 (pc := 25) (by decide +kernel) ?_
      refine oj_getR' (pc := 26) f_O_26 s_0_2 (by decide +kernel) ?_
      refine of_Vv (pc := 29) (as := [_]) v_O_165 o_14 rfl rfl (Nat.le_of_ble_eq_true rfl) (by decide +kernel) (by decide) rfl (c_D_takeFrom_0 (okp_bind H)) (fun M H => ?_)
      refine oj_iconst (pc := 32) (v := -1) ⟨by decide, by decide⟩ (by decide +kernel) ?_
      refine oj_st4 (pc := 33) (by decide +kernel) (by decide +kernel) ?_
      refine oj_iconst (pc := 35) (v := -1) ⟨by decide, by decide⟩ (by decide +kernel) ?_
      refine oj_st5 (pc := 36) (by decide +kernel) (by decide +kernel) ?_
      refine oj_iconst (pc := 38) (v := 0) ⟨by decide, by decide⟩ (by decide +kernel) ?_
      refine oj_st6 (pc := 39) (by decide +kernel) (by decide +kernel) ?_
      exact h41 _ _ _ _ _ _ _ _ H
    · refine oj_iconst (pc := 19) (v := -1) ⟨by decide, by decide⟩ (by decide +kernel) ?_
      exact oj_iret (pc := 20) (by decide +kernel) rfl rfl (Nat.le_refl _) (Nat.le_refl _) ⟨rfl, H⟩
theorem c_O_longest_0 {l : Launch} {f : Nat} {M : oM} {K : Int × oM → Prop} (H : okp (p_O_longest f M) K) : oKf l m_O_longest 2 [vr 0] M K := by
  refine oK_intro (lv := [vr 0, vu, vu]) (by decide +kernel) (Nat.le_of_ble_eq_true rfl) rfl ?_
  have h4 : ∀ (g : Nat) (l1 l2 : Int) (M : oM), okp (iter (p_O_longest_L4 f) g (l1, l2, M)) K → oJ l m_O_longest (oEf 2 K) 0 0 4 [vr 0, vi l1, vi l2] [] WD M := by
    intro g l1 l2 M H
    have HL := fun hs => iter_J' (Jh := fun s => oJ l m_O_longest (oEf 2 K) 0 0 4 [vr 0, vi s.1, vi s.2.1] [] WD s.2.2) (G := K) hs g (l1, l2, M) H
    refine HL ?_
    intro K4 s i4 e4 H
    obtain ⟨l1, l2, M⟩ := s
    show oJ l m_O_longest (oEf 2 K) 0 0 4 [vr 0, vi l1, vi l2] [] WD M
    have h33 : ∀ (l1 l2 : Int) (M : oM), okp (p_O_longest_B33_4 f l1 l2 M) K4 → oJ l m_O_longest (oEf 2 K) 0 0 33 [vr 0, vi l1, vi l2] [] WD M := by
      intro l1 l2 M H
      refine oj_inc2 (pc := 33) (d := 1) (by decide +kernel) (by decide +kernel) ?_
      have H := okp_lt H
      refine oj_goto (pc := 36) (off := -32) (tgt := 4) (by decide +kernel) (by decide) ?_
      have H := i4 _ H
      exact H
    refine oj_ld2 (pc := 4) (by decide +kernel) ?_
    refine oj_bipush (pc := 5) (v := 10) ⟨by decide, by decide⟩ (by decide +kernel) ?_
    refine oj_icmp_ge (pc := 7) (off := 32) (tgt := 39) (by decide +kernel) (by decide) H (fun _ H => ?_) (fun _ H => ?_)
    · refine oj_ald0 (pc := 39) (by decide +kernel) ?_
      refine oj_getR' (pc := 40) f_O_26 s_0_2 (by decide +kernel) ?_
      refine oj_getR' (pc := 43) f_O_180 s_6_1 (by decide +kernel) ?_
      refine oj_ld1 (pc := 46) (by decide +kernel) ?_
      refine oj_iald (pc := 47) (NN := 10) a_8 rfl (by decide +kernel) H (fun H => ?_)
      refine oj_if_le (pc := 48) (off := 7) (tgt := 55) (by decide +kernel) (by decide) H (fun _ H => ?_) (fun _ H => ?_)
      · refine oj_bipush (pc := 55) (v := -2) ⟨by decide, by decide⟩ (by decide +kernel) ?_
        have H := e4 _ H
        exact oj_iret (pc := 57) (by decide +kernel) rfl rfl (Nat.le_refl _) (Nat.le_refl _) ⟨rfl, H⟩
      · refine oj_ld1 (pc := 51) (by decide +kernel) ?_
        refine oj_goto (pc := 52) (off := 5) (tgt := 57) (by decide +kernel) (by decide) ?_
        have H := e4 _ H
        exact oj_iret (pc := 57) (by decide +kernel) rfl rfl (Nat.le_refl _) (Nat.le_refl _) ⟨rfl, H⟩
    · refine oj_ald0 (pc := 10) (by decide +kernel) ?_
      refine oj_getR' (pc := 11) f_O_26 s_0_2 (by decide +kernel) ?_
      refine oj_getR' (pc := 14) f_O_180 s_6_1 (by decide +kernel) ?_
      refine oj_ld2 (pc := 17) (by decide +kernel) ?_
      refine oj_iald (pc := 18) (NN := 10) a_8 rfl (by decide +kernel) H (fun H => ?_)
      refine oj_ald0 (pc := 19) (by decide +kernel) ?_
      refine oj_getR' (pc := 20) f_O_26 s_0_2 (by decide +kernel) ?_
      refine oj_getR' (pc := 23) f_O_180 s_6_1 (by decide +kernel) ?_
      refine oj_ld1 (pc := 26) (by decide +kernel) ?_
      refine oj_iald (pc := 27) (NN := 10) a_8 rfl (by decide +kernel) H (fun H => ?_)
      refine oj_icmp_le (pc := 28) (off := 5) (tgt := 33) (by decide +kernel) (by decide) H (fun _ H => ?_) (fun _ H => ?_)
      · exact h33 _ _ _ H
      · refine oj_ld2 (pc := 31) (by decide +kernel) ?_
        refine oj_st1 (pc := 32) (by decide +kernel) (by decide +kernel) ?_
        exact h33 _ _ _ H
  refine oj_iconst (pc := 0) (v := 0) ⟨by decide, by decide⟩ (by decide +kernel) ?_
  refine oj_st1 (pc := 1) (by decide +kernel) (by decide +kernel) ?_
  refine oj_iconst (pc := 2) (v := 1) ⟨by decide, by decide⟩ (by decide +kernel) ?_
  refine oj_st2 (pc := 3) (by decide +kernel) (by decide +kernel) ?_
  exact h4 _ _ _ _ H
