/-! walks (by program) -/
theorem c_M_most_0 {l : Launch} {f : Nat} {l1 : Int} {M : oM} {K : Int × oM → Prop} (H : okp (p_M_most f l1 M) K) : oKf l m_M_most 6 [vr 57, vi l1] M K := by
  refine oK_intro (lv := [vr 57, vi l1, vu, vu, vu, vu]) (by decide +kernel) (Nat.le_of_ble_eq_true rfl) rfl ?_
  have h102 : ∀ (g : Nat) (l1 l2 l3 l4 : Int) (M : oM), okp (iter (p_M_most_L102 f l1) g (l2, l3, l4, M)) K → oJ l m_M_most (oEf 6 K) 0 0 102 [vr 57, vi l1, vi l2, vi l3, vi l4, vu] [] WD M := by
    intro g l1 l2 l3 l4 M H
    have HL := fun hs => iter_J' (Jh := fun s => oJ l m_M_most (oEf 6 K) 0 0 102 [vr 57, vi l1, vi s.1, vi s.2.1, vi s.2.2.1, vu] [] WD s.2.2.2) (G := K) hs g (l2, l3, l4, M) H
    refine HL ?_
    intro K102 s i102 e102 H
    obtain ⟨l2, l3, l4, M⟩ := s
    show oJ l m_M_most (oEf 6 K) 0 0 102 [vr 57, vi l1, vi l2, vi l3, vi l4, vu] [] WD M
    refine oj_ld4 (pc := 102) (by decide +kernel) ?_
    refine oj_ld1 (pc := 104) (by decide +kernel) ?_
    refine oj_icmp_gt (pc := 105) (off := 32) (tgt := 137) (by decide +kernel) (by decide) H (fun _ H => ?_) (fun _ H => ?_)
    · refine oj_ld3 (pc := 137) (by decide +kernel) ?_
      have H := e102 _ H
      exact oj_iret (pc := 138) (by decide +kernel) rfl rfl (Nat.le_refl _) (Nat.le_refl _) ⟨rfl, H⟩
    · refine oj_ald0 (pc := 108) (by decide +kernel) ?_
      refine oj_ld2 (pc := 109) (by decide +kernel) ?_
      refine oj_ld3 (pc := 110) (by decide +kernel) ?_
      refine of_Vi (pc := 111) (as := [_, _]) v_M_409 o_57 rfl rfl (Nat.le_of_ble_eq_true rfl) (by decide +kernel) (by decide) rfl (c_M_bestCoin_0 (okp_bind H)) (fun r M H => ?_)
      refine oj_st5 (pc := 114) (by decide +kernel) (by decide +kernel) ?_
      refine oj_ld2 (pc := 116) (by decide +kernel) ?_
      refine oj_iconst (pc := 117) (v := 1) ⟨by decide, by decide⟩ (by decide +kernel) ?_
      refine oj_ld5 (pc := 118) (by decide +kernel) ?_
      refine oj_ishl (pc := 120) (by decide +kernel) ?_
      refine oj_ior (pc := 121) (by decide +kernel) ?_
      refine oj_st2 (pc := 122) (by decide +kernel) (by decide +kernel) ?_
      have H := okp_lt H
      refine oj_ald0 (pc := 123) (by decide +kernel) ?_
      refine oj_getR' (pc := 124) f_M_92 s_57_49 (by decide +kernel) ?_
      refine oj_ld5 (pc := 127) (by decide +kernel) ?_
      refine oj_iald (pc := 129) (NN := 12) a_85 rfl (by decide +kernel) H (fun H => ?_)
      refine oj_st3 (pc := 130) (by decide +kernel) (by decide +kernel) ?_
      have H := okp_lt H
      refine oj_inc4 (pc := 131) (d := 1) (by decide +kernel) (by decide +kernel) ?_
      have H := okp_lt H
      refine oj_goto (pc := 134) (off := -32) (tgt := 102) (by decide +kernel) (by decide) ?_
      refine oj_le (lv' := [_, _, _, _, _, vu]) ⟨Or.inr rfl, Or.inr rfl, Or.inr rfl, Or.inr rfl, Or.inr rfl, Or.inl rfl, trivial⟩ ?_
      have H := i102 _ H
      exact H
  have h18 : ∀ (l1 : Int) (M : oM), okp (p_M_most_B18 f l1 M) K → oJ l m_M_most (oEf 6 K) 0 0 18 [vr 57, vi l1, vu, vu, vu, vu] [] WD M := by
    intro l1 M H
    refine oj_ald0 (pc := 18) (by decide +kernel) ?_
    refine oj_getR' (pc := 19) f_M_7 s_57_0 (by decide +kernel) ?_
    refine oj_sipush (pc := 22) (v := 151) ⟨by decide, by decide⟩ (by decide +kernel) ?_
    refine oj_iald (pc := 25) (NN := 159) a_58 rfl (by decide +kernel) H (fun H => ?_)
    refine oj_if_ge (pc := 26) (off := 6) (tgt := 32) (by decide +kernel) (by decide) H (fun _ H => ?_) (fun _ H => ?_)
    · refine oj_ald0 (pc := 32) (by decide +kernel) ?_
      refine oj_bipush (pc := 33) (v := 12) ⟨by decide, by decide⟩ (by decide +kernel) ?_
      refine of_Vi (pc := 35) (as := [_]) v_M_403 o_57 rfl rfl (Nat.le_of_ble_eq_true rfl) (by decide +kernel) (by decide) rfl (c_M_laysCoins_0 (okp_bind H)) (fun r M H => ?_)
      refine oj_if_ne (pc := 38) (off := 6) (tgt := 44) (by decide +kernel) (by decide) H (fun _ H => ?_) (fun _ H => ?_)
      · refine oj_ald0 (pc := 44) (by decide +kernel) ?_
        refine of_Vv (pc := 45) (as := []) v_M_406 o_57 rfl rfl (Nat.le_of_ble_eq_true rfl) (by decide +kernel) (by decide) rfl (c_M_laysMore_0 (okp_bind H)) (fun M H => ?_)
        refine oj_ld1 (pc := 48) (by decide +kernel) ?_
        refine oj_bipush (pc := 49) (v := 100) ⟨by decide, by decide⟩ (by decide +kernel) ?_
        refine oj_icmp_ne (pc := 51) (off := 17) (tgt := 68) (by decide +kernel) (by decide) H (fun _ H => ?_) (fun _ H => ?_)
        · refine oj_ld1 (pc := 68) (by decide +kernel) ?_
          refine oj_ald0 (pc := 69) (by decide +kernel) ?_
          refine oj_getR' (pc := 70) f_M_96 s_57_51 (by decide +kernel) ?_
          refine oj_ald0 (pc := 73) (by decide +kernel) ?_
          refine oj_getR' (pc := 74) f_M_7 s_57_0 (by decide +kernel) ?_
          refine oj_sipush (pc := 77) (v := 151) ⟨by decide, by decide⟩ (by decide +kernel) ?_
          refine oj_iald (pc := 80) (NN := 159) a_58 rfl (by decide +kernel) H (fun H => ?_)
          refine oj_bald (pc := 81) (NN := 40960) a_86 rfl (by decide +kernel) H (fun H => ?_)
          refine oj_icmp_lt (pc := 82) (off := 6) (tgt := 88) (by decide +kernel) (by decide) H (fun _ H => ?_) (fun _ H => ?_)
          · refine oj_iconst (pc := 88) (v := 0) ⟨by decide, by decide⟩ (by decide +kernel) ?_
            refine oj_st2 (pc := 89) (by decide +kernel) (by decide +kernel) ?_
            refine oj_ald0 (pc := 90) (by decide +kernel) ?_
            refine oj_getR' (pc := 91) f_M_7 s_57_0 (by decide +kernel) ?_
            refine oj_sipush (pc := 94) (v := 151) ⟨by decide, by decide⟩ (by decide +kernel) ?_
            refine oj_iald (pc := 97) (NN := 159) a_58 rfl (by decide +kernel) H (fun H => ?_)
            refine oj_st3 (pc := 98) (by decide +kernel) (by decide +kernel) ?_
            have H := okp_lt H
            refine oj_iconst (pc := 99) (v := 0) ⟨by decide, by decide⟩ (by decide +kernel) ?_
            refine oj_st4 (pc := 100) (by decide +kernel) (by decide +kernel) ?_
            exact h102 _ _ _ _ _ _ H
          · refine oj_bipush (pc := 85) (v := -4) ⟨by decide, by decide⟩ (by decide +kernel) ?_
            exact oj_iret (pc := 87) (by decide +kernel) rfl rfl (Nat.le_refl _) (Nat.le_refl _) ⟨rfl, H⟩
        · refine oj_ald0 (pc := 54) (by decide +kernel) ?_
          refine oj_getR' (pc := 55) f_M_96 s_57_51 (by decide +kernel) ?_
          refine oj_ald0 (pc := 58) (by decide +kernel) ?_
          refine oj_getR' (pc := 59) f_M_7 s_57_0 (by decide +kernel) ?_
          refine oj_sipush (pc := 62) (v := 151) ⟨by decide, by decide⟩ (by decide +kernel) ?_
          refine oj_iald (pc := 65) (NN := 159) a_58 rfl (by decide +kernel) H (fun H => ?_)
          refine oj_bald (pc := 66) (NN := 40960) a_86 rfl (by decide +kernel) H (fun H => ?_)
          exact oj_iret (pc := 67) (by decide +kernel) rfl rfl (Nat.le_refl _) (Nat.le_refl _) ⟨rfl, H⟩
      · refine oj_bipush (pc := 41) (v := -3) ⟨by decide, by decide⟩ (by decide +kernel) ?_
        exact oj_iret (pc := 43) (by decide +kernel) rfl rfl (Nat.le_refl _) (Nat.le_refl _) ⟨rfl, H⟩
    · refine oj_bipush (pc := 29) (v := -2) ⟨by decide, by decide⟩ (by decide +kernel) ?_
      exact oj_iret (pc := 31) (by decide +kernel) rfl rfl (Nat.le_refl _) (Nat.le_refl _) ⟨rfl, H⟩
  refine oj_ld1 (pc := 0) (by decide +kernel) ?_
  refine oj_iconst (pc := 1) (v := 0) ⟨by decide, by decide⟩ (by decide +kernel) ?_
  refine oj_bipush (pc := 2) (v := 11) ⟨by decide, by decide⟩ (by decide +kernel) ?_
  refine of_Si (pc := 4) (as := [_, _, _]) v_M_123 rfl rfl (Nat.le_of_ble_eq_true rfl) (by decide +kernel) (by decide) rfl (c_M_in_0 (okp_bind H)) (fun r M H => ?_)
  refine oj_if_ne (pc := 7) (off := 11) (tgt := 18) (by decide +kernel) (by decide) H (fun _ H => ?_) (fun _ H => ?_)
  · exact h18 _ _ H
  · refine oj_ld1 (pc := 10) (by decide +kernel) ?_
    refine oj_bipush (pc := 11) (v := 100) ⟨by decide, by decide⟩ (by decide +kernel) ?_
    refine oj_icmp_eq (pc := 13) (off := 5) (tgt := 18) (by decide +kernel) (by decide) H (fun _ H => ?_) (fun _ H => ?_)
    · exact h18 _ _ H
    · refine oj_iconst (pc := 16) (v := -1) ⟨by decide, by decide⟩ (by decide +kernel) ?_
      exact oj_iret (pc := 17) (by decide +kernel) rfl rfl (Nat.le_refl _) (Nat.le_refl _) ⟨rfl, H⟩
theorem c_M_laysBack_0 {l : Launch} {f : Nat} {M : oM} {K : Int × oM → Prop} (H : okp (p_M_laysBack f M) K) : oKf l m_M_laysBack 4 [vr 57] M K := by
  refine oK_intro (lv := [vr 57, vu, vu, vu]) (by decide +kernel) (Nat.le_of_ble_eq_true rfl) rfl ?_
  have h94 : ∀ (g : Nat) (l1 : Int) (M : oM), okp (iter (p_M_laysBack_L94 f) g (l1, M)) K → oJ l m_M_laysBack (oEf 4 K) 0 0 94 [vr 57, vi l1, vu, vu] [] WD M := by
    intro g l1 M H
    have HL := fun hs => iter_J' (Jh := fun s => oJ l m_M_laysBack (oEf 4 K) 0 0 94 [vr 57, vi s.1, vu, vu] [] WD s.2) (G := K) hs g (l1, M) H
    refine HL ?_
    intro K94 s i94 e94 H
    obtain ⟨l1, M⟩ := s
    show oJ l m_M_laysBack (oEf 4 K) 0 0 94 [vr 57, vi l1, vu, vu] [] WD M
    have x102 : ∀ (l1 : Int) (M : oM), okp (p_M_laysBack_X102 f l1 M) K94 → oJ l m_M_laysBack (oEf 4 K) 0 0 224 [vr 57, vi l1, vu, vu] [] WD M := by
      intro l1 M H
      unfold p_M_laysBack_X102 at H
      refine oj_inc1 (pc := 224) (d := 1) (by decide +kernel) (by decide +kernel) ?_
      have H := okp_lt H
      refine oj_goto (pc := 227) (off := -133) (tgt := 94) (by decide +kernel) (by decide) ?_
      have H := i94 _ H
      exact H
    have h102 : ∀ (g : Nat) (l1 l2 : Int) (M : oM), okp (iter (p_M_laysBack_L102 f l1) g (l2, M)) (fun r => okp (p_M_laysBack_X102 f l1 r) K94) → oJ l m_M_laysBack (oEf 4 K) 0 0 102 [vr 57, vi l1, vi l2, vu] [] WD M := by
      intro g l1 l2 M H
      have HL := fun hs => iter_J' (Jh := fun s => oJ l m_M_laysBack (oEf 4 K) 0 0 102 [vr 57, vi l1, vi s.1, vu] [] WD s.2) (G := (fun r => okp (p_M_laysBack_X102 f l1 r) K94)) hs g (l2, M) H
      refine HL ?_
      intro K102 s i102 e102 H
      obtain ⟨l2, M⟩ := s
      show oJ l m_M_laysBack (oEf 4 K) 0 0 102 [vr 57, vi l1, vi l2, vu] [] WD M
      have x110 : ∀ (l2 : Int) (M : oM), okp (p_M_laysBack_X110 f l1 l2 M) K102 → oJ l m_M_laysBack (oEf 4 K) 0 0 218 [vr 57, vi l1, vi l2, vu] [] WD M := by
        intro l2 M H
        unfold p_M_laysBack_X110 at H
        refine oj_inc2 (pc := 218) (d := 1) (by decide +kernel) (by decide +kernel) ?_
        have H := okp_lt H
        refine oj_goto (pc := 221) (off := -119) (tgt := 102) (by decide +kernel) (by decide) ?_
        have H := i102 _ H
        exact H
      have h110 : ∀ (g : Nat) (l2 l3 : Int) (M : oM), okp (iter (p_M_laysBack_L110 f l1 l2) g (l3, M)) (fun r => okp (p_M_laysBack_X110 f l1 l2 r) K102) → oJ l m_M_laysBack (oEf 4 K) 0 0 110 [vr 57, vi l1, vi l2, vi l3] [] WD M := by
        intro g l2 l3 M H
        have HL := fun hs => iter_J' (Jh := fun s => oJ l m_M_laysBack (oEf 4 K) 0 0 110 [vr 57, vi l1, vi l2, vi s.1] [] WD s.2) (G := (fun r => okp (p_M_laysBack_X110 f l1 l2 r) K102)) hs g (l3, M) H
        refine HL ?_
        intro K110 s i110 e110 H
        obtain ⟨l3, M⟩ := s
        show oJ l m_M_laysBack (oEf 4 K) 0 0 110 [vr 57, vi l1, vi l2, vi l3] [] WD M
        refine oj_ld3 (pc := 110) (by decide +kernel) ?_
        refine oj_bipush (pc := 111) (v := 10) ⟨by decide, by decide⟩ (by decide +kernel) ?_
        refine oj_icmp_ge (pc := 113) (off := 105) (tgt := 218) (by decide +kernel) (by decide) H (fun _ H => ?_) (fun _ H => ?_)
        · refine oj_le (lv' := [_, _, _, vu]) ⟨Or.inr rfl, Or.inr rfl, Or.inr rfl, Or.inl rfl, trivial⟩ ?_
          have H := e110 _ H
          exact x110 _ _ H
        · refine oj_ald0 (pc := 116) (by decide +kernel) ?_
          refine oj_getR' (pc := 117) f_M_99 s_57_52 (by decide +kernel) ?_
          refine oj_bipush (pc := 120) (v := 10) ⟨by decide, by decide⟩ (by decide +kernel) ?_
          refine oj_ld2 (pc := 122) (by decide +kernel) ?_
          refine oj_imul (pc := 123) (by decide +kernel) ?_
          refine oj_ld3 (pc := 124) (by decide +kernel) ?_
          refine oj_iadd (pc := 125) (by decide +kernel) ?_
          refine oj_ald0 (pc := 126) (by decide +kernel) ?_
          refine oj_getR' (pc := 127) f_M_99 s_57_52 (by decide +kernel) ?_
          refine oj_bipush (pc := 130) (v := 10) ⟨by decide, by decide⟩ (by decide +kernel) ?_
          refine oj_ld2 (pc := 132) (by decide +kernel) ?_
          refine oj_imul (pc := 133) (by decide +kernel) ?_
          refine oj_ld3 (pc := 134) (by decide +kernel) ?_
          refine oj_iadd (pc := 135) (by decide +kernel) ?_
          refine oj_iald (pc := 136) (NN := 100) a_87 rfl (by decide +kernel) H (fun H => ?_)
          refine oj_ald0 (pc := 137) (by decide +kernel) ?_
          refine oj_getR' (pc := 138) f_M_99 s_57_52 (by decide +kernel) ?_
          refine oj_bipush (pc := 141) (v := 10) ⟨by decide, by decide⟩ (by decide +kernel) ?_
          refine oj_ld2 (pc := 143) (by decide +kernel) ?_
          refine oj_imul (pc := 144) (by decide +kernel) ?_
          refine oj_ld1 (pc := 145) (by decide +kernel) ?_
          refine oj_iadd (pc := 146) (by decide +kernel) ?_
          refine oj_iald (pc := 147) (NN := 100) a_87 rfl (by decide +kernel) H (fun H => ?_)
          refine oj_ald0 (pc := 148) (by decide +kernel) ?_
          refine oj_getR' (pc := 149) f_M_99 s_57_52 (by decide +kernel) ?_
          refine oj_bipush (pc := 152) (v := 10) ⟨by decide, by decide⟩ (by decide +kernel) ?_
          refine oj_ld1 (pc := 154) (by decide +kernel) ?_
          refine oj_imul (pc := 155) (by decide +kernel) ?_
          refine oj_ld3 (pc := 156) (by decide +kernel) ?_
          refine oj_iadd (pc := 157) (by decide +kernel) ?_
          refine oj_iald (pc := 158) (NN := 100) a_87 rfl (by decide +kernel) H (fun H => ?_)
          refine oj_iadd (pc := 159) (by decide +kernel) ?_
          refine of_Si (pc := 160) (as := [_, _]) v_M_290 rfl rfl (Nat.le_of_ble_eq_true rfl) (by decide +kernel) (by decide) rfl (c_M_min_0 (okp_bind H)) (fun r M H => ?_)
          refine oj_iast (pc := 163) (NN := 100) a_87 rfl (by decide +kernel) H (fun H => ?_)
          have H := okp_lt H
          refine oj_ald0 (pc := 164) (by decide +kernel) ?_
          refine oj_getR' (pc := 165) f_M_102 s_57_53 (by decide +kernel) ?_
          refine oj_bipush (pc := 168) (v := 10) ⟨by decide, by decide⟩ (by decide +kernel) ?_
          refine oj_ld2 (pc := 170) (by decide +kernel) ?_
          refine oj_imul (pc := 171) (by decide +kernel) ?_
          refine oj_ld3 (pc := 172) (by decide +kernel) ?_
          refine oj_iadd (pc := 173) (by decide +kernel) ?_
          refine oj_ald0 (pc := 174) (by decide +kernel) ?_
          refine oj_getR' (pc := 175) f_M_102 s_57_53 (by decide +kernel) ?_
          refine oj_bipush (pc := 178) (v := 10) ⟨by decide, by decide⟩ (by decide +kernel) ?_
          refine oj_ld2 (pc := 180) (by decide +kernel) ?_
          refine oj_imul (pc := 181) (by decide +kernel) ?_
          refine oj_ld3 (pc := 182) (by decide +kernel) ?_
          refine oj_iadd (pc := 183) (by decide +kernel) ?_
          refine oj_iald (pc := 184) (NN := 100) a_88 rfl (by decide +kernel) H (fun H => ?_)
          refine oj_ald0 (pc := 185) (by decide +kernel) ?_
          refine oj_getR' (pc := 186) f_M_102 s_57_53 (by decide +kernel) ?_
          refine oj_bipush (pc := 189) (v := 10) ⟨by decide, by decide⟩ (by decide +kernel) ?_
          refine oj_ld2 (pc := 191) (by decide +kernel) ?_
          refine oj_imul (pc := 192) (by decide +kernel) ?_
          refine oj_ld1 (pc := 193) (by decide +kernel) ?_
          refine oj_iadd (pc := 194) (by decide +kernel) ?_
          refine oj_iald (pc := 195) (NN := 100) a_88 rfl (by decide +kernel) H (fun H => ?_)
          refine oj_ald0 (pc := 196) (by decide +kernel) ?_
          refine oj_getR' (pc := 197) f_M_102 s_57_53 (by decide +kernel) ?_
          refine oj_bipush (pc := 200) (v := 10) ⟨by decide, by decide⟩ (by decide +kernel) ?_
          refine oj_ld1 (pc := 202) (by decide +kernel) ?_
          refine oj_imul (pc := 203) (by decide +kernel) ?_
          refine oj_ld3 (pc := 204) (by decide +kernel) ?_
          refine oj_iadd (pc := 205) (by decide +kernel) ?_
          refine oj_iald (pc := 206) (NN := 100) a_88 rfl (by decide +kernel) H (fun H => ?_)
          refine oj_iadd (pc := 207) (by decide +kernel) ?_
          refine of_Si (pc := 208) (as := [_, _]) v_M_290 rfl rfl (Nat.le_of_ble_eq_true rfl) (by decide +kernel) (by decide) rfl (c_M_min_0 (okp_bind H)) (fun r M H => ?_)
          refine oj_iast (pc := 211) (NN := 100) a_88 rfl (by decide +kernel) H (fun H => ?_)
          have H := okp_lt H
          refine oj_inc3 (pc := 212) (d := 1) (by decide +kernel) (by decide +kernel) ?_
          have H := okp_lt H
          refine oj_goto (pc := 215) (off := -105) (tgt := 110) (by decide +kernel) (by decide) ?_
          have H := i110 _ H
          exact H
      refine oj_ld2 (pc := 102) (by decide +kernel) ?_
      refine oj_bipush (pc := 103) (v := 10) ⟨by decide, by decide⟩ (by decide +kernel) ?_
      refine oj_icmp_ge (pc := 105) (off := 119) (tgt := 224) (by decide +kernel) (by decide) H (fun _ H => ?_) (fun _ H => ?_)
      · refine oj_le (lv' := [_, _, vu, vu]) ⟨Or.inr rfl, Or.inr rfl, Or.inl rfl, Or.inr rfl, trivial⟩ ?_
        have H := e102 _ H
        exact x102 _ _ H
      · refine oj_iconst (pc := 108) (v := 0) ⟨by decide, by decide⟩ (by decide +kernel) ?_
        refine oj_st3 (pc := 109) (by decide +kernel) (by decide +kernel) ?_
        exact h110 _ _ _ _ (okp_bind H)
    refine oj_ld1 (pc := 94) (by decide +kernel) ?_
    refine oj_bipush (pc := 95) (v := 10) ⟨by decide, by decide⟩ (by decide +kernel) ?_
    refine oj_icmp_ge (pc := 97) (off := 133) (tgt := 230) (by decide +kernel) (by decide) H (fun _ H => ?_) (fun _ H => ?_)
    · have H := e94 _ H
      exact oj_vret (pc := 230) (by decide +kernel) rfl (Nat.le_refl _) (Nat.le_refl _) ⟨rfl, H⟩
    · refine oj_iconst (pc := 100) (v := 0) ⟨by decide, by decide⟩ (by decide +kernel) ?_
      refine oj_st2 (pc := 101) (by decide +kernel) (by decide +kernel) ?_
      exact h102 _ _ _ _ (okp_bind H)
  have x2 : ∀ (M : oM), okp (p_M_laysBack_X2 f M) K → oJ l m_M_laysBack (oEf 4 K) 0 0 92 [vr 57, vu, vu, vu] [] WD M := by
    intro  M H
    unfold p_M_laysBack_X2 at H
    refine oj_iconst (pc := 92) (v := 0) ⟨by decide, by decide⟩ (by decide +kernel) ?_
    refine oj_st1 (pc := 93) (by decide +kernel) (by decide +kernel) ?_
    exact h94 _ _ _ H
  have h2 : ∀ (g : Nat) (l1 : Int) (M : oM), okp (iter (p_M_laysBack_L2 f) g (l1, M)) (fun r => okp (p_M_laysBack_X2 f r) K) → oJ l m_M_laysBack (oEf 4 K) 0 0 2 [vr 57, vi l1, vu, vu] [] WD M := by
    intro g l1 M H
    have HL := fun hs => iter_J' (Jh := fun s => oJ l m_M_laysBack (oEf 4 K) 0 0 2 [vr 57, vi s.1, vu, vu] [] WD s.2) (G := (fun r => okp (p_M_laysBack_X2 f r) K)) hs g (l1, M) H
    refine HL ?_
    intro K2 s i2 e2 H
    obtain ⟨l1, M⟩ := s
    show oJ l m_M_laysBack (oEf 4 K) 0 0 2 [vr 57, vi l1, vu, vu] [] WD M
    have x10 : ∀ (l1 : Int) (M : oM), okp (p_M_laysBack_X10 f l1 M) K2 → oJ l m_M_laysBack (oEf 4 K) 0 0 86 [vr 57, vi l1, vu, vu] [] WD M := by
      intro l1 M H
      unfold p_M_laysBack_X10 at H
      refine oj_inc1 (pc := 86) (d := 1) (by decide +kernel) (by decide +kernel) ?_
      have H := okp_lt H
      refine oj_goto (pc := 89) (off := -87) (tgt := 2) (by decide +kernel) (by decide) ?_
      have H := i2 _ H
      exact H
    have h10 : ∀ (g : Nat) (l1 l2 : Int) (M : oM), okp (iter (p_M_laysBack_L10 f l1) g (l2, M)) (fun r => okp (p_M_laysBack_X10 f l1 r) K2) → oJ l m_M_laysBack (oEf 4 K) 0 0 10 [vr 57, vi l1, vi l2, vu] [] WD M := by
      intro g l1 l2 M H
      have HL := fun hs => iter_J' (Jh := fun s => oJ l m_M_laysBack (oEf 4 K) 0 0 10 [vr 57, vi l1, vi s.1, vu] [] WD s.2) (G := (fun r => okp (p_M_laysBack_X10 f l1 r) K2)) hs g (l2, M) H
      refine HL ?_
      intro K10 s i10 e10 H
      obtain ⟨l2, M⟩ := s
      show oJ l m_M_laysBack (oEf 4 K) 0 0 10 [vr 57, vi l1, vi l2, vu] [] WD M
      have h79 : ∀ (l2 s1 s2 : Int) (M : oM), okp (p_M_laysBack_B79_10 f l1 l2 s1 s2 M) K10 → oJ l m_M_laysBack (oEf 4 K) 0 0 79 [vr 57, vi l1, vi l2, vu] [vi s2, vi s1, vr 88] WD M := by
        intro l2 s1 s2 M H
        refine oj_iast (pc := 79) (NN := 100) a_88 rfl (by decide +kernel) H (fun H => ?_)
        have H := okp_lt H
        refine oj_inc2 (pc := 80) (d := 1) (by decide +kernel) (by decide +kernel) ?_
        have H := okp_lt H
        refine oj_goto (pc := 83) (off := -73) (tgt := 10) (by decide +kernel) (by decide) ?_
        have H := i10 _ H
        exact H
      have h52 : ∀ (l2 l3 s1 s2 : Int) (M : oM), okp (p_M_laysBack_B52_10 f l1 l2 l3 s1 s2 M) K10 → oJ l m_M_laysBack (oEf 4 K) 0 0 52 [vr 57, vi l1, vi l2, vi l3] [vi s2, vi s1, vr 87] WD M := by
        intro l2 l3 s1 s2 M H
        refine oj_iast (pc := 52) (NN := 100) a_87 rfl (by decide +kernel) H (fun H => ?_)
        have H := okp_lt H
        refine oj_ald0 (pc := 53) (by decide +kernel) ?_
        refine oj_getR' (pc := 54) f_M_102 s_57_53 (by decide +kernel) ?_
        refine oj_bipush (pc := 57) (v := 10) ⟨by decide, by decide⟩ (by decide +kernel) ?_
        refine oj_ld1 (pc := 59) (by decide +kernel) ?_
        refine oj_imul (pc := 60) (by decide +kernel) ?_
        refine oj_ld2 (pc := 61) (by decide +kernel) ?_
        refine oj_iadd (pc := 62) (by decide +kernel) ?_
        refine oj_ld3 (pc := 63) (by decide +kernel) ?_
        refine oj_if_eq (pc := 64) (off := 12) (tgt := 76) (by decide +kernel) (by decide) H (fun _ H => ?_) (fun _ H => ?_)
        · refine oj_ldcw (pc := 76) (v := 1000000) k_M_412 ⟨by decide, by decide⟩ (by decide +kernel) ?_
          refine oj_le (lv' := [_, _, _, vu]) ⟨Or.inr rfl, Or.inr rfl, Or.inr rfl, Or.inl rfl, trivial⟩ ?_
          exact h79 _ _ _ _ H
        · refine oj_ald0 (pc := 67) (by decide +kernel) ?_
          refine oj_ld1 (pc := 68) (by decide +kernel) ?_
          refine oj_ld2 (pc := 69) (by decide +kernel) ?_
          refine of_Vi (pc := 70) (as := [_, _]) v_M_268 o_57 rfl rfl (Nat.le_of_ble_eq_true rfl) (by decide +kernel) (by decide) rfl (c_M_wayOf_0 (okp_bind H)) (fun r M H => ?_)
          refine oj_goto (pc := 73) (off := 6) (tgt := 79) (by decide +kernel) (by decide) ?_
          refine oj_le (lv' := [_, _, _, vu]) ⟨Or.inr rfl, Or.inr rfl, Or.inr rfl, Or.inl rfl, trivial⟩ ?_
          exact h79 _ _ _ _ H
      have h30 : ∀ (l2 s0 : Int) (M : oM), okp (p_M_laysBack_B30_10 f l1 l2 s0 M) K10 → oJ l m_M_laysBack (oEf 4 K) 0 0 30 [vr 57, vi l1, vi l2, vu] [vi s0] WD M := by
        intro l2 s0 M H
        refine oj_st3 (pc := 30) (by decide +kernel) (by decide +kernel) ?_
        refine oj_ald0 (pc := 31) (by decide +kernel) ?_
        refine oj_getR' (pc := 32) f_M_99 s_57_52 (by decide +kernel) ?_
        refine oj_bipush (pc := 35) (v := 10) ⟨by decide, by decide⟩ (by decide +kernel) ?_
        refine oj_ld1 (pc := 37) (by decide +kernel) ?_
        refine oj_imul (pc := 38) (by decide +kernel) ?_
        refine oj_ld2 (pc := 39) (by decide +kernel) ?_
        refine oj_iadd (pc := 40) (by decide +kernel) ?_
        refine oj_ld3 (pc := 41) (by decide +kernel) ?_
        refine oj_if_eq (pc := 42) (off := 7) (tgt := 49) (by decide +kernel) (by decide) H (fun _ H => ?_) (fun _ H => ?_)
        · refine oj_ldcw (pc := 49) (v := 1000000) k_M_412 ⟨by decide, by decide⟩ (by decide +kernel) ?_
          exact h52 _ _ _ _ _ H
        · refine oj_iconst (pc := 45) (v := 1) ⟨by decide, by decide⟩ (by decide +kernel) ?_
          refine oj_goto (pc := 46) (off := 6) (tgt := 52) (by decide +kernel) (by decide) ?_
          exact h52 _ _ _ _ _ H
      refine oj_ld2 (pc := 10) (by decide +kernel) ?_
      refine oj_bipush (pc := 11) (v := 10) ⟨by decide, by decide⟩ (by decide +kernel) ?_
      refine oj_icmp_ge (pc := 13) (off := 73) (tgt := 86) (by decide +kernel) (by decide) H (fun _ H => ?_) (fun _ H => ?_)
      · refine oj_le (lv' := [_, _, vu, vu]) ⟨Or.inr rfl, Or.inr rfl, Or.inl rfl, Or.inr rfl, trivial⟩ ?_
        have H := e10 _ H
        exact x10 _ _ H
      · refine oj_ald0 (pc := 16) (by decide +kernel) ?_
        refine oj_ld1 (pc := 17) (by decide +kernel) ?_
        refine oj_ld2 (pc := 18) (by decide +kernel) ?_
        refine of_Vi (pc := 19) (as := [_, _]) v_M_147 o_57 rfl rfl (Nat.le_of_ble_eq_true rfl) (by decide +kernel) (by decide) rfl (c_M_debtOf_0 (okp_bind H)) (fun r M H => ?_)
        refine oj_if_le (pc := 22) (off := 7) (tgt := 29) (by decide +kernel) (by decide) H (fun _ H => ?_) (fun _ H => ?_)
        · refine oj_iconst (pc := 29) (v := 0) ⟨by decide, by decide⟩ (by decide +kernel) ?_
          exact h30 _ _ _ H
        · refine oj_iconst (pc := 25) (v := 1) ⟨by decide, by decide⟩ (by decide +kernel) ?_
          refine oj_goto (pc := 26) (off := 4) (tgt := 30) (by decide +kernel) (by decide) ?_
          exact h30 _ _ _ H
    refine oj_ld1 (pc := 2) (by decide +kernel) ?_
    refine oj_bipush (pc := 3) (v := 10) ⟨by decide, by decide⟩ (by decide +kernel) ?_
    refine oj_icmp_ge (pc := 5) (off := 87) (tgt := 92) (by decide +kernel) (by decide) H (fun _ H => ?_) (fun _ H => ?_)
    · refine oj_le (lv' := [_, vu, vu, vu]) ⟨Or.inr rfl, Or.inl rfl, Or.inr rfl, Or.inr rfl, trivial⟩ ?_
      have H := e2 _ H
      exact x2  _ H
    · refine oj_iconst (pc := 8) (v := 0) ⟨by decide, by decide⟩ (by decide +kernel) ?_
      refine oj_st2 (pc := 9) (by decide +kernel) (by decide +kernel) ?_
      exact h10 _ _ _ _ (okp_bind H)
  refine oj_iconst (pc := 0) (v := 0) ⟨by decide, by decide⟩ (by decide +kernel) ?_
  refine oj_st1 (pc := 1) (by decide +kernel) (by decide +kernel) ?_
  exact h2 _ _ _ (okp_bind H)
theorem c_M_back_0 {l : Launch} {f : Nat} {l1 l2 : Int} {M : oM} {K : Int × oM → Prop} (H : okp (p_M_back f l1 l2 M) K) : oKf l m_M_back 5 [vr 57, vi l1, vi l2] M K := by
  refine oK_intro (lv := [vr 57, vi l1, vi l2, vu]) (by decide +kernel) (Nat.le_of_ble_eq_true rfl) rfl ?_
  have h48 : ∀ (s0 : Int) (M : oM), okp (p_M_back_B48 f s0 M) K → oJ l m_M_back (oEf 5 K) 0 0 48 [vr 57, vu, vu, vu] [vi s0] WD M := by
    intro s0 M H
    refine oj_st3 (pc := 48) (by decide +kernel) (by decide +kernel) ?_
    refine oj_ld3 (pc := 49) (by decide +kernel) ?_
    refine oj_ldcw (pc := 50) (v := 1000000) k_M_412 ⟨by decide, by decide⟩ (by decide +kernel) ?_
    refine oj_icmp_lt (pc := 53) (off := 8) (tgt := 61) (by decide +kernel) (by decide) H (fun _ H => ?_) (fun _ H => ?_)
    · refine oj_ld3 (pc := 61) (by decide +kernel) ?_
      exact oj_iret (pc := 62) (by decide +kernel) rfl rfl (Nat.le_refl _) (Nat.le_refl _) ⟨rfl, H⟩
    · refine oj_bipush (pc := 56) (v := -2) ⟨by decide, by decide⟩ (by decide +kernel) ?_
      refine oj_goto (pc := 58) (off := 4) (tgt := 62) (by decide +kernel) (by decide) ?_
      exact oj_iret (pc := 62) (by decide +kernel) rfl rfl (Nat.le_refl _) (Nat.le_refl _) ⟨rfl, H⟩
  refine oj_ald0 (pc := 0) (by decide +kernel) ?_
  refine oj_ld1 (pc := 1) (by decide +kernel) ?_
  refine of_Vi (pc := 2) (as := [_]) v_M_135 o_57 rfl rfl (Nat.le_of_ble_eq_true rfl) (by decide +kernel) (by decide) rfl (c_M_isPerson_0 (okp_bind H)) (fun r M H => ?_)
  refine oj_if_eq (pc := 5) (off := 12) (tgt := 17) (by decide +kernel) (by decide) H (fun _ H => ?_) (fun _ H => ?_)
  · refine oj_iconst (pc := 17) (v := -1) ⟨by decide, by decide⟩ (by decide +kernel) ?_
    exact oj_iret (pc := 18) (by decide +kernel) rfl rfl (Nat.le_refl _) (Nat.le_refl _) ⟨rfl, H⟩
  · refine oj_ld2 (pc := 8) (by decide +kernel) ?_
    refine oj_iconst (pc := 9) (v := 0) ⟨by decide, by decide⟩ (by decide +kernel) ?_
    refine oj_iconst (pc := 10) (v := 1) ⟨by decide, by decide⟩ (by decide +kernel) ?_
    refine of_Si (pc := 11) (as := [_, _, _]) v_M_123 rfl rfl (Nat.le_of_ble_eq_true rfl) (by decide +kernel) (by decide) rfl (c_M_in_0 (okp_bind H)) (fun r M H => ?_)
    refine oj_if_ne (pc := 14) (off := 5) (tgt := 19) (by decide +kernel) (by decide) H (fun _ H => ?_) (fun _ H => ?_)
    · refine oj_ald0 (pc := 19) (by decide +kernel) ?_
      refine of_Vv (pc := 20) (as := []) v_M_413 o_57 rfl rfl (Nat.le_of_ble_eq_true rfl) (by decide +kernel) (by decide) rfl (c_M_laysBack_0 (okp_bind H)) (fun M H => ?_)
      refine oj_ld2 (pc := 23) (by decide +kernel) ?_
      refine oj_if_ne (pc := 24) (off := 15) (tgt := 39) (by decide +kernel) (by decide) H (fun _ H => ?_) (fun _ H => ?_)
      · refine oj_ald0 (pc := 39) (by decide +kernel) ?_
        refine oj_getR' (pc := 40) f_M_102 s_57_53 (by decide +kernel) ?_
        refine oj_bipush (pc := 43) (v := 11) ⟨by decide, by decide⟩ (by decide +kernel) ?_
        refine oj_ld1 (pc := 45) (by decide +kernel) ?_
        refine oj_imul (pc := 46) (by decide +kernel) ?_
        refine oj_iald (pc := 47) (NN := 100) a_88 rfl (by decide +kernel) H (fun H => ?_)
        refine oj_le (lv' := [_, vu, vu, vu]) ⟨Or.inr rfl, Or.inl rfl, Or.inl rfl, Or.inr rfl, trivial⟩ ?_
        exact h48 _ _ H
      · refine oj_ald0 (pc := 27) (by decide +kernel) ?_
        refine oj_getR' (pc := 28) f_M_99 s_57_52 (by decide +kernel) ?_
        refine oj_bipush (pc := 31) (v := 11) ⟨by decide, by decide⟩ (by decide +kernel) ?_
        refine oj_ld1 (pc := 33) (by decide +kernel) ?_
        refine oj_imul (pc := 34) (by decide +kernel) ?_
        refine oj_iald (pc := 35) (NN := 100) a_87 rfl (by decide +kernel) H (fun H => ?_)
        refine oj_goto (pc := 36) (off := 12) (tgt := 48) (by decide +kernel) (by decide) ?_
        refine oj_le (lv' := [_, vu, vu, vu]) ⟨Or.inr rfl, Or.inl rfl, Or.inl rfl, Or.inr rfl, trivial⟩ ?_
        exact h48 _ _ H
    · refine oj_iconst (pc := 17) (v := -1) ⟨by decide, by decide⟩ (by decide +kernel) ?_
      exact oj_iret (pc := 18) (by decide +kernel) rfl rfl (Nat.le_refl _) (Nat.le_refl _) ⟨rfl, H⟩
theorem c_M_hoursOfRow_0 {l : Launch} {f : Nat} {l1 : Int} {M : oM} {K : Int × oM → Prop} (H : okp (p_M_hoursOfRow f l1 M) K) : oKf l m_M_hoursOfRow 4 [vr 57, vi l1] M K := by
  refine oK_intro (lv := [vr 57, vi l1, vu, vu]) (by decide +kernel) (Nat.le_of_ble_eq_true rfl) rfl ?_
  have h4 : ∀ (g : Nat) (l1 l2 l3 : Int) (M : oM), okp (iter (p_M_hoursOfRow_L4 f l1) g (l2, l3, M)) K → oJ l m_M_hoursOfRow (oEf 4 K) 0 0 4 [vr 57, vi l1, vi l2, vi l3] [] WD M := by
    intro g l1 l2 l3 M H
    have HL := fun hs => iter_J' (Jh := fun s => oJ l m_M_hoursOfRow (oEf 4 K) 0 0 4 [vr 57, vi l1, vi s.1, vi s.2.1] [] WD s.2.2) (G := K) hs g (l2, l3, M) H
    refine HL ?_
    intro K4 s i4 e4 H
    obtain ⟨l2, l3, M⟩ := s
    show oJ l m_M_hoursOfRow (oEf 4 K) 0 0 4 [vr 57, vi l1, vi l2, vi l3] [] WD M
    refine oj_ld3 (pc := 4) (by decide +kernel) ?_
    refine oj_ld1 (pc := 5) (by decide +kernel) ?_
    refine oj_icmp_ge (pc := 6) (off := 33) (tgt := 39) (by decide +kernel) (by decide) H (fun _ H => ?_) (fun _ H => ?_)
    · refine oj_ld2 (pc := 39) (by decide +kernel) ?_
      have H := e4 _ H
      exact oj_iret (pc := 40) (by decide +kernel) rfl rfl (Nat.le_refl _) (Nat.le_refl _) ⟨rfl, H⟩
    · refine oj_ld2 (pc := 9) (by decide +kernel) ?_
      refine oj_ald0 (pc := 10) (by decide +kernel) ?_
      refine oj_ald0 (pc := 11) (by decide +kernel) ?_
      refine oj_getR' (pc := 12) f_M_105 s_57_54 (by decide +kernel) ?_
      refine oj_ld3 (pc := 15) (by decide +kernel) ?_
      refine oj_iald (pc := 16) (NN := 6) a_89 rfl (by decide +kernel) H (fun H => ?_)
      refine oj_ald0 (pc := 17) (by decide +kernel) ?_
      refine oj_getR' (pc := 18) f_M_108 s_57_55 (by decide +kernel) ?_
      refine oj_ald0 (pc := 21) (by decide +kernel) ?_
      refine oj_getR' (pc := 22) f_M_111 s_57_56 (by decide +kernel) ?_
      refine oj_ld3 (pc := 25) (by decide +kernel) ?_
      refine oj_iald (pc := 26) (NN := 6) a_91 rfl (by decide +kernel) H (fun H => ?_)
      refine oj_iald (pc := 27) (NN := 6) a_90 rfl (by decide +kernel) H (fun H => ?_)
      refine of_Vi (pc := 28) (as := [_, _]) v_M_268 o_57 rfl rfl (Nat.le_of_ble_eq_true rfl) (by decide +kernel) (by decide) rfl (c_M_wayOf_0 (okp_bind H)) (fun r M H => ?_)
      refine oj_iadd (pc := 31) (by decide +kernel) ?_
      refine oj_st2 (pc := 32) (by decide +kernel) (by decide +kernel) ?_
      have H := okp_lt H
      refine oj_inc3 (pc := 33) (d := 1) (by decide +kernel) (by decide +kernel) ?_
      have H := okp_lt H
      refine oj_goto (pc := 36) (off := -32) (tgt := 4) (by decide +kernel) (by decide) ?_
      have H := i4 _ H
      exact H
  refine oj_iconst (pc := 0) (v := 0) ⟨by decide, by decide⟩ (by decide +kernel) ?_
  refine oj_st2 (pc := 1) (by decide +kernel) (by decide +kernel) ?_
  refine oj_iconst (pc := 2) (v := 0) ⟨by decide, by decide⟩ (by decide +kernel) ?_
  refine oj_st3 (pc := 3) (by decide +kernel) (by decide +kernel) ?_
  exact h4 _ _ _ _ _ H
theorem c_M_setOffOf_0 {l : Launch} {f : Nat} {l1 : Int} {M : oM} {K : Int × oM → Prop} (H : okp (p_M_setOffOf f l1 M) K) : oKf l m_M_setOffOf 4 [vr 57, vi l1] M K := by
  refine oK_intro (lv := [vr 57, vi l1]) (by decide +kernel) (Nat.le_of_ble_eq_true rfl) rfl ?_
  refine oj_ald0 (pc := 0) (by decide +kernel) ?_
  refine oj_ld1 (pc := 1) (by decide +kernel) ?_
  refine of_Vi (pc := 2) (as := [_]) v_M_349 o_57 rfl rfl (Nat.le_of_ble_eq_true rfl) (by decide +kernel) (by decide) rfl (c_M_getsAll_0 (okp_bind H)) (fun r M H => ?_)
  refine oj_ald0 (pc := 5) (by decide +kernel) ?_
  refine oj_ld1 (pc := 6) (by decide +kernel) ?_
  refine of_Vi (pc := 7) (as := [_]) v_M_150 o_57 rfl rfl (Nat.le_of_ble_eq_true rfl) (by decide +kernel) (by decide) rfl (c_M_owesAll_0 (okp_bind H)) (fun r M H => ?_)
  refine oj_isub (pc := 10) (by decide +kernel) ?_
  exact oj_iret (pc := 11) (by decide +kernel) rfl rfl (Nat.le_refl _) (Nat.le_refl _) ⟨rfl, H⟩
theorem c_M_laysLacks_0 {l : Launch} {f : Nat} {M : oM} {K : Int × oM → Prop} (H : okp (p_M_laysLacks f M) K) : oKf l m_M_laysLacks 5 [vr 57] M K := by
  refine oK_intro (lv := [vr 57, vu, vu, vu, vu]) (by decide +kernel) (Nat.le_of_ble_eq_true rfl) rfl ?_
  have h9 : ∀ (g : Nat) (l1 l2 : Int) (M : oM), okp (iter (p_M_laysLacks_L9 f) g (l1, l2, M)) K → oJ l m_M_laysLacks (oEf 5 K) 0 0 9 [vr 57, vi l1, vi l2, vu, vu] [] WD M := by
    intro g l1 l2 M H
    have HL := fun hs => iter_J' (Jh := fun s => oJ l m_M_laysLacks (oEf 5 K) 0 0 9 [vr 57, vi s.1, vi s.2.1, vu, vu] [] WD s.2.2) (G := K) hs g (l1, l2, M) H
    refine HL ?_
    intro K9 s i9 e9 H
    obtain ⟨l1, l2, M⟩ := s
    show oJ l m_M_laysLacks (oEf 5 K) 0 0 9 [vr 57, vi l1, vi l2, vu, vu] [] WD M
    have x68 : ∀ (l1 l2 l3 : Int) (M : oM), okp (p_M_laysLacks_X68 f l2 l3 (l1, M)) K9 → oJ l m_M_laysLacks (oEf 5 K) 0 0 98 [vr 57, vi l1, vi l2, vu, vu] [] WD M := by
      intro l1 l2 l3 M H
      unfold p_M_laysLacks_X68 at H
      refine oj_inc2 (pc := 98) (d := 1) (by decide +kernel) (by decide +kernel) ?_
      have H := okp_lt H
      refine oj_goto (pc := 101) (off := -92) (tgt := 9) (by decide +kernel) (by decide) ?_
      have H := i9 _ H
      exact H
    have h68 : ∀ (g : Nat) (l1 l2 l3 l4 : Int) (M : oM), okp (iter (p_M_laysLacks_L68 f l2 l3) g (l1, l4, M)) (fun r => okp (p_M_laysLacks_X68 f l2 l3 r) K9) → oJ l m_M_laysLacks (oEf 5 K) 0 0 68 [vr 57, vi l1, vi l2, vi l3, vi l4] [] WD M := by
      intro g l1 l2 l3 l4 M H
      have HL := fun hs => iter_J' (Jh := fun s => oJ l m_M_laysLacks (oEf 5 K) 0 0 68 [vr 57, vi s.1, vi l2, vi l3, vi s.2.1] [] WD s.2.2) (G := (fun r => okp (p_M_laysLacks_X68 f l2 l3 r) K9)) hs g (l1, l4, M) H
      refine HL ?_
      intro K68 s i68 e68 H
      obtain ⟨l1, l4, M⟩ := s
      show oJ l m_M_laysLacks (oEf 5 K) 0 0 68 [vr 57, vi l1, vi l2, vi l3, vi l4] [] WD M
      have h88 : ∀ (l1 l4 : Int) (M : oM), okp (p_M_laysLacks_B88_68 f l1 l2 l3 l4 M) K68 → oJ l m_M_laysLacks (oEf 5 K) 0 0 88 [vr 57, vi l1, vi l2, vi l3, vi l4] [] WD M := by
        intro l1 l4 M H
        refine oj_ld1 (pc := 88) (by decide +kernel) ?_
        refine oj_iconst (pc := 89) (v := 1) ⟨by decide, by decide⟩ (by decide +kernel) ?_
        refine oj_iadd (pc := 90) (by decide +kernel) ?_
        refine oj_st1 (pc := 91) (by decide +kernel) (by decide +kernel) ?_
        have H := okp_lt H
        refine oj_inc4 (pc := 92) (d := 1) (by decide +kernel) (by decide +kernel) ?_
        have H := okp_lt H
        refine oj_goto (pc := 95) (off := -27) (tgt := 68) (by decide +kernel) (by decide) ?_
        have H := i68 _ H
        exact H
      refine oj_ld4 (pc := 68) (by decide +kernel) ?_
      refine oj_ld3 (pc := 70) (by decide +kernel) ?_
      refine oj_ineg (pc := 71) (by decide +kernel) ?_
      refine oj_icmp_ge (pc := 72) (off := 26) (tgt := 98) (by decide +kernel) (by decide) H (fun _ H => ?_) (fun _ H => ?_)
      · refine oj_le (lv' := [_, _, _, vu, vu]) ⟨Or.inr rfl, Or.inr rfl, Or.inr rfl, Or.inl rfl, Or.inl rfl, trivial⟩ ?_
        have H := e68 _ H
        exact x68 _ _ _ _ H
      · refine oj_ld1 (pc := 75) (by decide +kernel) ?_
        refine oj_bipush (pc := 76) (v := 6) ⟨by decide, by decide⟩ (by decide +kernel) ?_
        refine oj_icmp_ge (pc := 78) (off := 10) (tgt := 88) (by decide +kernel) (by decide) H (fun _ H => ?_) (fun _ H => ?_)
        · exact h88 _ _ _ H
        · refine oj_ald0 (pc := 81) (by decide +kernel) ?_
          refine oj_getR' (pc := 82) f_M_108 s_57_55 (by decide +kernel) ?_
          refine oj_ld1 (pc := 85) (by decide +kernel) ?_
          refine oj_ld2 (pc := 86) (by decide +kernel) ?_
          refine oj_iast (pc := 87) (NN := 6) a_90 rfl (by decide +kernel) H (fun H => ?_)
          have H := okp_lt H
          exact h88 _ _ _ H
    have x24 : ∀ (l1 l2 l3 : Int) (M : oM), okp (p_M_laysLacks_X24 f l1 l2 l3 M) K9 → oJ l m_M_laysLacks (oEf 5 K) 0 0 65 [vr 57, vi l1, vi l2, vi l3, vu] [] WD M := by
      intro l1 l2 l3 M H
      unfold p_M_laysLacks_X24 at H
      refine oj_iconst (pc := 65) (v := 0) ⟨by decide, by decide⟩ (by decide +kernel) ?_
      refine oj_st4 (pc := 66) (by decide +kernel) (by decide +kernel) ?_
      exact h68 _ _ _ _ _ _ (okp_bind H)
    have h24 : ∀ (g : Nat) (l1 l2 l3 l4 : Int) (M : oM), okp (iter (p_M_laysLacks_L24 f l1 l2 l3) g (l4, M)) (fun r => okp (p_M_laysLacks_X24 f l1 l2 l3 r) K9) → oJ l m_M_laysLacks (oEf 5 K) 0 0 24 [vr 57, vi l1, vi l2, vi l3, vi l4] [] WD M := by
      intro g l1 l2 l3 l4 M H
      have HL := fun hs => iter_J' (Jh := fun s => oJ l m_M_laysLacks (oEf 5 K) 0 0 24 [vr 57, vi l1, vi l2, vi l3, vi s.1] [] WD s.2) (G := (fun r => okp (p_M_laysLacks_X24 f l1 l2 l3 r) K9)) hs g (l4, M) H
      refine HL ?_
      intro K24 s i24 e24 H
      obtain ⟨l4, M⟩ := s
      show oJ l m_M_laysLacks (oEf 5 K) 0 0 24 [vr 57, vi l1, vi l2, vi l3, vi l4] [] WD M
      have h49 : ∀ (l4 : Int) (M : oM), okp (p_M_laysLacks_B49_24 f l1 l2 l3 l4 M) K24 → oJ l m_M_laysLacks (oEf 5 K) 0 0 49 [vr 57, vi l1, vi l2, vi l3, vi l4] [] WD M := by
        intro l4 M H
        refine oj_ald0 (pc := 49) (by decide +kernel) ?_
        refine oj_ald0 (pc := 50) (by decide +kernel) ?_
        refine oj_getI' (pc := 51) (ki := 58) f_M_416 s_57_58 rfl (by decide +kernel) ?_
        refine oj_iconst (pc := 54) (v := 1) ⟨by decide, by decide⟩ (by decide +kernel) ?_
        refine oj_iadd (pc := 55) (by decide +kernel) ?_
        refine oj_putI' (pc := 56) (ki := 58) f_M_416 s_57_58 rfl (by decide +kernel) ?_
        have H := okp_lt H
        refine oj_inc4 (pc := 59) (d := 1) (by decide +kernel) (by decide +kernel) ?_
        have H := okp_lt H
        refine oj_goto (pc := 62) (off := -38) (tgt := 24) (by decide +kernel) (by decide) ?_
        have H := i24 _ H
        exact H
      refine oj_ld4 (pc := 24) (by decide +kernel) ?_
      refine oj_ld3 (pc := 26) (by decide +kernel) ?_
      refine oj_icmp_ge (pc := 27) (off := 38) (tgt := 65) (by decide +kernel) (by decide) H (fun _ H => ?_) (fun _ H => ?_)
      · refine oj_le (lv' := [_, _, _, _, vu]) ⟨Or.inr rfl, Or.inr rfl, Or.inr rfl, Or.inr rfl, Or.inl rfl, trivial⟩ ?_
        have H := e24 _ H
        exact x24 _ _ _ _ H
      · refine oj_ald0 (pc := 30) (by decide +kernel) ?_
        refine oj_getI' (pc := 31) (ki := 58) f_M_416 s_57_58 rfl (by decide +kernel) ?_
        refine oj_bipush (pc := 34) (v := 6) ⟨by decide, by decide⟩ (by decide +kernel) ?_
        refine oj_icmp_ge (pc := 36) (off := 13) (tgt := 49) (by decide +kernel) (by decide) H (fun _ H => ?_) (fun _ H => ?_)
        · exact h49 _ _ H
        · refine oj_ald0 (pc := 39) (by decide +kernel) ?_
          refine oj_getR' (pc := 40) f_M_105 s_57_54 (by decide +kernel) ?_
          refine oj_ald0 (pc := 43) (by decide +kernel) ?_
          refine oj_getI' (pc := 44) (ki := 58) f_M_416 s_57_58 rfl (by decide +kernel) ?_
          refine oj_ld2 (pc := 47) (by decide +kernel) ?_
          refine oj_iast (pc := 48) (NN := 6) a_89 rfl (by decide +kernel) H (fun H => ?_)
          have H := okp_lt H
          exact h49 _ _ H
    refine oj_ld2 (pc := 9) (by decide +kernel) ?_
    refine oj_bipush (pc := 10) (v := 10) ⟨by decide, by decide⟩ (by decide +kernel) ?_
    refine oj_icmp_ge (pc := 12) (off := 92) (tgt := 104) (by decide +kernel) (by decide) H (fun _ H => ?_) (fun _ H => ?_)
    · have H := e9 _ H
      exact oj_vret (pc := 104) (by decide +kernel) rfl (Nat.le_refl _) (Nat.le_refl _) ⟨rfl, H⟩
    · refine oj_ald0 (pc := 15) (by decide +kernel) ?_
      refine oj_ld2 (pc := 16) (by decide +kernel) ?_
      refine of_Vi (pc := 17) (as := [_]) v_M_419 o_57 rfl rfl (Nat.le_of_ble_eq_true rfl) (by decide +kernel) (by decide) rfl (c_M_setOffOf_0 (okp_bind H)) (fun r M H => ?_)
      refine oj_st3 (pc := 20) (by decide +kernel) (by decide +kernel) ?_
      refine oj_iconst (pc := 21) (v := 0) ⟨by decide, by decide⟩ (by decide +kernel) ?_
      refine oj_st4 (pc := 22) (by decide +kernel) (by decide +kernel) ?_
      exact h24 _ _ _ _ _ _ (okp_bind H)
  refine oj_ald0 (pc := 0) (by decide +kernel) ?_
  refine oj_iconst (pc := 1) (v := 0) ⟨by decide, by decide⟩ (by decide +kernel) ?_
  refine oj_putI' (pc := 2) (ki := 58) f_M_416 s_57_58 rfl (by decide +kernel) ?_
  have H := okp_lt H
  refine oj_iconst (pc := 5) (v := 0) ⟨by decide, by decide⟩ (by decide +kernel) ?_
  refine oj_st1 (pc := 6) (by decide +kernel) (by decide +kernel) ?_
  refine oj_iconst (pc := 7) (v := 0) ⟨by decide, by decide⟩ (by decide +kernel) ?_
  refine oj_st2 (pc := 8) (by decide +kernel) (by decide +kernel) ?_
  exact h9 _ _ _ _ H
theorem c_M_readsRow_0 {l : Launch} {f : Nat} {l1 l2 : Int} {M : oM} {K : Int × oM → Prop} (H : okp (p_M_readsRow f l1 l2 M) K) : oKf l m_M_readsRow 3 [vr 57, vi l1, vi l2] M K := by
  refine oK_intro (lv := [vr 57, vi l1, vi l2, vu, vu, vu]) (by decide +kernel) (Nat.le_of_ble_eq_true rfl) rfl ?_
  have h10 : ∀ (g : Nat) (l2 l3 l4 l5 : Int) (M : oM), okp (iter (p_M_readsRow_L10 f l2) g (l3, l4, l5, M)) K → oJ l m_M_readsRow (oEf 3 K) 0 0 10 [vr 57, vu, vi l2, vi l3, vi l4, vi l5] [] WD M := by
    intro g l2 l3 l4 l5 M H
    have HL := fun hs => iter_J' (Jh := fun s => oJ l m_M_readsRow (oEf 3 K) 0 0 10 [vr 57, vu, vi l2, vi s.1, vi s.2.1, vi s.2.2.1] [] WD s.2.2.2) (G := K) hs g (l3, l4, l5, M) H
    refine HL ?_
    intro K10 s i10 e10 H
    obtain ⟨l3, l4, l5, M⟩ := s
    show oJ l m_M_readsRow (oEf 3 K) 0 0 10 [vr 57, vu, vi l2, vi l3, vi l4, vi l5] [] WD M
    refine oj_ld5 (pc := 10) (by decide +kernel) ?_
    refine oj_if_lt (pc := 12) (off := 54) (tgt := 66) (by decide +kernel) (by decide) H (fun _ H => ?_) (fun _ H => ?_)
    · refine oj_iconst (pc := 66) (v := 1) ⟨by decide, by decide⟩ (by decide +kernel) ?_
      have H := e10 _ H
      exact oj_iret (pc := 67) (by decide +kernel) rfl rfl (Nat.le_refl _) (Nat.le_refl _) ⟨rfl, H⟩
    · refine oj_ald0 (pc := 15) (by decide +kernel) ?_
      refine oj_getR' (pc := 16) f_M_111 s_57_56 (by decide +kernel) ?_
      refine oj_ld5 (pc := 19) (by decide +kernel) ?_
      refine oj_ld3 (pc := 21) (by decide +kernel) ?_
      refine oj_ld2 (pc := 22) (by decide +kernel) ?_
      refine oj_irem (pc := 23) (by decide +kernel) H (fun _ H => ?_)
      refine oj_iast (pc := 24) (NN := 6) a_91 rfl (by decide +kernel) H (fun H => ?_)
      have H := okp_lt H
      refine oj_ld3 (pc := 25) (by decide +kernel) ?_
      refine oj_ld2 (pc := 26) (by decide +kernel) ?_
      refine oj_idiv (pc := 27) (by decide +kernel) H (fun _ H => ?_)
      refine oj_st3 (pc := 28) (by decide +kernel) (by decide +kernel) ?_
      have H := okp_lt H
      refine oj_ld4 (pc := 29) (by decide +kernel) ?_
      refine oj_ald0 (pc := 31) (by decide +kernel) ?_
      refine oj_getR' (pc := 32) f_M_111 s_57_56 (by decide +kernel) ?_
      refine oj_ld5 (pc := 35) (by decide +kernel) ?_
      refine oj_iald (pc := 37) (NN := 6) a_91 rfl (by decide +kernel) H (fun H => ?_)
      refine of_Si (pc := 38) (as := [_, _]) v_M_131 rfl rfl (Nat.le_of_ble_eq_true rfl) (by decide +kernel) (by decide) rfl (c_M_has_0 (okp_bind H)) (fun r M H => ?_)
      refine oj_if_eq (pc := 41) (off := 5) (tgt := 46) (by decide +kernel) (by decide) H (fun _ H => ?_) (fun _ H => ?_)
      · refine oj_ld4 (pc := 46) (by decide +kernel) ?_
        refine oj_iconst (pc := 48) (v := 1) ⟨by decide, by decide⟩ (by decide +kernel) ?_
        refine oj_ald0 (pc := 49) (by decide +kernel) ?_
        refine oj_getR' (pc := 50) f_M_111 s_57_56 (by decide +kernel) ?_
        refine oj_ld5 (pc := 53) (by decide +kernel) ?_
        refine oj_iald (pc := 55) (NN := 6) a_91 rfl (by decide +kernel) H (fun H => ?_)
        refine oj_ishl (pc := 56) (by decide +kernel) ?_
        refine oj_ior (pc := 57) (by decide +kernel) ?_
        refine oj_st4 (pc := 58) (by decide +kernel) (by decide +kernel) ?_
        have H := okp_lt H
        refine oj_inc5 (pc := 60) (d := -1) (by decide +kernel) (by decide +kernel) ?_
        have H := okp_lt H
        refine oj_goto (pc := 63) (off := -53) (tgt := 10) (by decide +kernel) (by decide) ?_
        have H := i10 _ H
        exact H
      · refine oj_iconst (pc := 44) (v := 0) ⟨by decide, by decide⟩ (by decide +kernel) ?_
        have H := e10 _ H
        exact oj_iret (pc := 45) (by decide +kernel) rfl rfl (Nat.le_refl _) (Nat.le_refl _) ⟨rfl, H⟩
  refine oj_ld1 (pc := 0) (by decide +kernel) ?_
  refine oj_st3 (pc := 1) (by decide +kernel) (by decide +kernel) ?_
  refine oj_iconst (pc := 2) (v := 0) ⟨by decide, by decide⟩ (by decide +kernel) ?_
  refine oj_st4 (pc := 3) (by decide +kernel) (by decide +kernel) ?_
  refine oj_ld2 (pc := 5) (by decide +kernel) ?_
  refine oj_iconst (pc := 6) (v := 1) ⟨by decide, by decide⟩ (by decide +kernel) ?_
  refine oj_isub (pc := 7) (by decide +kernel) ?_
  refine oj_st5 (pc := 8) (by decide +kernel) (by decide +kernel) ?_
  have H := okp_lt H
  refine oj_le (lv' := [_, vu, _, _, _, _]) ⟨Or.inr rfl, Or.inl rfl, Or.inr rfl, Or.inr rfl, Or.inr rfl, Or.inr rfl, trivial⟩ ?_
  exact h10 _ _ _ _ _ _ H
theorem c_M_even_0 {l : Launch} {f : Nat} {l1 : Int} {M : oM} {K : Int × oM → Prop} (H : okp (p_M_even f l1 M) K) : oKf l m_M_even 6 [vr 57, vi l1] M K := by
  refine oK_intro (lv := [vr 57, vi l1, vu, vu, vu, vu]) (by decide +kernel) (Nat.le_of_ble_eq_true rfl) rfl ?_
  have h98 : ∀ (g : Nat) (l1 l2 l3 l4 : Int) (M : oM), okp (iter (p_M_even_L98 f l1 l2) g (l3, l4, M)) K → oJ l m_M_even (oEf 6 K) 0 0 98 [vr 57, vi l1, vi l2, vi l3, vi l4, vu] [] WD M := by
    intro g l1 l2 l3 l4 M H
    have HL := fun hs => iter_J' (Jh := fun s => oJ l m_M_even (oEf 6 K) 0 0 98 [vr 57, vi l1, vi l2, vi s.1, vi s.2.1, vu] [] WD s.2.2) (G := K) hs g (l3, l4, M) H
    refine HL ?_
    intro K98 s i98 e98 H
    obtain ⟨l3, l4, M⟩ := s
    show oJ l m_M_even (oEf 6 K) 0 0 98 [vr 57, vi l1, vi l2, vi l3, vi l4, vu] [] WD M
    have h178 : ∀ (l3 l4 : Int) (M : oM), okp (p_M_even_B178_98 f l1 l2 l3 l4 M) K98 → oJ l m_M_even (oEf 6 K) 0 0 178 [vr 57, vi l1, vi l2, vi l3, vi l4, vu] [] WD M := by
      intro l3 l4 M H
      refine oj_inc4 (pc := 178) (d := 1) (by decide +kernel) (by decide +kernel) ?_
      have H := okp_lt H
      refine oj_goto (pc := 181) (off := -83) (tgt := 98) (by decide +kernel) (by decide) ?_
      have H := i98 _ H
      exact H
    have x144 : ∀ (l3 l4 : Int) (M : oM), okp (p_M_even_X144 f l1 l2 l3 l4 M) K98 → oJ l m_M_even (oEf 6 K) 0 0 178 [vr 57, vi l1, vi l2, vi l3, vi l4, vu] [] WD M := by
      intro l3 l4 M H
      unfold p_M_even_X144 at H
      exact h178 _ _ _ H
    have h144 : ∀ (g : Nat) (l3 l4 l5 : Int) (M : oM), okp (iter (p_M_even_L144 f l1 l2 l3 l4) g (l5, M)) (fun r => okp (p_M_even_X144 f l1 l2 l3 l4 r) K98) → oJ l m_M_even (oEf 6 K) 0 0 144 [vr 57, vi l1, vi l2, vi l3, vi l4, vi l5] [] WD M := by
      intro g l3 l4 l5 M H
      have HL := fun hs => iter_J' (Jh := fun s => oJ l m_M_even (oEf 6 K) 0 0 144 [vr 57, vi l1, vi l2, vi l3, vi l4, vi s.1] [] WD s.2) (G := (fun r => okp (p_M_even_X144 f l1 l2 l3 l4 r) K98)) hs g (l5, M) H
      refine HL ?_
      intro K144 s i144 e144 H
      obtain ⟨l5, M⟩ := s
      show oJ l m_M_even (oEf 6 K) 0 0 144 [vr 57, vi l1, vi l2, vi l3, vi l4, vi l5] [] WD M
      refine oj_ld5 (pc := 144) (by decide +kernel) ?_
      refine oj_ald0 (pc := 146) (by decide +kernel) ?_
      refine oj_getI' (pc := 147) (ki := 58) f_M_416 s_57_58 rfl (by decide +kernel) ?_
      refine oj_icmp_ge (pc := 150) (off := 28) (tgt := 178) (by decide +kernel) (by decide) H (fun _ H => ?_) (fun _ H => ?_)
      · refine oj_le (lv' := [_, _, _, _, _, vu]) ⟨Or.inr rfl, Or.inr rfl, Or.inr rfl, Or.inr rfl, Or.inr rfl, Or.inl rfl, trivial⟩ ?_
        have H := e144 _ H
        exact x144 _ _ _ H
      · refine oj_ald0 (pc := 153) (by decide +kernel) ?_
        refine oj_getR' (pc := 154) f_M_114 s_57_57 (by decide +kernel) ?_
        refine oj_ld5 (pc := 157) (by decide +kernel) ?_
        refine oj_ald0 (pc := 159) (by decide +kernel) ?_
        refine oj_getR' (pc := 160) f_M_108 s_57_55 (by decide +kernel) ?_
        refine oj_ald0 (pc := 163) (by decide +kernel) ?_
        refine oj_getR' (pc := 164) f_M_111 s_57_56 (by decide +kernel) ?_
        refine oj_ld5 (pc := 167) (by decide +kernel) ?_
        refine oj_iald (pc := 169) (NN := 6) a_91 rfl (by decide +kernel) H (fun H => ?_)
        refine oj_iald (pc := 170) (NN := 6) a_90 rfl (by decide +kernel) H (fun H => ?_)
        refine oj_iast (pc := 171) (NN := 6) a_92 rfl (by decide +kernel) H (fun H => ?_)
        have H := okp_lt H
        refine oj_inc5 (pc := 172) (d := 1) (by decide +kernel) (by decide +kernel) ?_
        have H := okp_lt H
        refine oj_goto (pc := 175) (off := -31) (tgt := 144) (by decide +kernel) (by decide) ?_
        have H := i144 _ H
        exact H
    refine oj_ld4 (pc := 98) (by decide +kernel) ?_
    refine oj_ld2 (pc := 100) (by decide +kernel) ?_
    refine oj_icmp_ge (pc := 101) (off := 83) (tgt := 184) (by decide +kernel) (by decide) H (fun _ H => ?_) (fun _ H => ?_)
    · refine oj_ld1 (pc := 184) (by decide +kernel) ?_
      refine oj_bipush (pc := 185) (v := 101) ⟨by decide, by decide⟩ (by decide +kernel) ?_
      refine oj_icmp_ne (pc := 187) (off := 7) (tgt := 194) (by decide +kernel) (by decide) H (fun _ H => ?_) (fun _ H => ?_)
      · refine oj_ald0 (pc := 194) (by decide +kernel) ?_
        refine oj_getR' (pc := 195) f_M_114 s_57_57 (by decide +kernel) ?_
        refine oj_ld1 (pc := 198) (by decide +kernel) ?_
        refine oj_iald (pc := 199) (NN := 6) a_92 rfl (by decide +kernel) H (fun H => ?_)
        have H := e98 _ H
        exact oj_iret (pc := 200) (by decide +kernel) rfl rfl (Nat.le_refl _) (Nat.le_refl _) ⟨rfl, H⟩
      · refine oj_ld3 (pc := 190) (by decide +kernel) ?_
        refine oj_goto (pc := 191) (off := 9) (tgt := 200) (by decide +kernel) (by decide) ?_
        have H := e98 _ H
        exact oj_iret (pc := 200) (by decide +kernel) rfl rfl (Nat.le_refl _) (Nat.le_refl _) ⟨rfl, H⟩
    · refine oj_ald0 (pc := 104) (by decide +kernel) ?_
      refine oj_ld4 (pc := 105) (by decide +kernel) ?_
      refine oj_ald0 (pc := 107) (by decide +kernel) ?_
      refine oj_getI' (pc := 108) (ki := 58) f_M_416 s_57_58 rfl (by decide +kernel) ?_
      refine of_Vi (pc := 111) (as := [_, _]) v_M_425 o_57 rfl rfl (Nat.le_of_ble_eq_true rfl) (by decide +kernel) (by decide) rfl (c_M_readsRow_0 (okp_bind H)) (fun r M H => ?_)
      refine oj_if_eq (pc := 114) (off := 64) (tgt := 178) (by decide +kernel) (by decide) H (fun _ H => ?_) (fun _ H => ?_)
      · exact h178 _ _ _ H
      · refine oj_ald0 (pc := 117) (by decide +kernel) ?_
        refine oj_ald0 (pc := 118) (by decide +kernel) ?_
        refine oj_getI' (pc := 119) (ki := 58) f_M_416 s_57_58 rfl (by decide +kernel) ?_
        refine of_Vi (pc := 122) (as := [_]) v_M_428 o_57 rfl rfl (Nat.le_of_ble_eq_true rfl) (by decide +kernel) (by decide) rfl (c_M_hoursOfRow_0 (okp_bind H)) (fun r M H => ?_)
        refine oj_ld3 (pc := 125) (by decide +kernel) ?_
        refine oj_icmp_lt (pc := 126) (off := 6) (tgt := 132) (by decide +kernel) (by decide) H (fun _ H => ?_) (fun _ H => ?_)
        · refine oj_ald0 (pc := 132) (by decide +kernel) ?_
          refine oj_ald0 (pc := 133) (by decide +kernel) ?_
          refine oj_getI' (pc := 134) (ki := 58) f_M_416 s_57_58 rfl (by decide +kernel) ?_
          refine of_Vi (pc := 137) (as := [_]) v_M_428 o_57 rfl rfl (Nat.le_of_ble_eq_true rfl) (by decide +kernel) (by decide) rfl (c_M_hoursOfRow_0 (okp_bind H)) (fun r M H => ?_)
          refine oj_st3 (pc := 140) (by decide +kernel) (by decide +kernel) ?_
          refine oj_iconst (pc := 141) (v := 0) ⟨by decide, by decide⟩ (by decide +kernel) ?_
          refine oj_st5 (pc := 142) (by decide +kernel) (by decide +kernel) ?_
          exact h144 _ _ _ _ _ (okp_bind H)
        · refine oj_goto (pc := 129) (off := 49) (tgt := 178) (by decide +kernel) (by decide) ?_
          exact h178 _ _ _ H
  have x70 : ∀ (l1 l2 : Int) (M : oM), okp (p_M_even_X70 f l1 (l2, M)) K → oJ l m_M_even (oEf 6 K) 0 0 91 [vr 57, vi l1, vi l2, vu, vu, vu] [] WD M := by
    intro l1 l2 M H
    unfold p_M_even_X70 at H
    refine oj_ldcw (pc := 91) (v := 1000000) k_M_412 ⟨by decide, by decide⟩ (by decide +kernel) ?_
    refine oj_st3 (pc := 94) (by decide +kernel) (by decide +kernel) ?_
    refine oj_iconst (pc := 95) (v := 0) ⟨by decide, by decide⟩ (by decide +kernel) ?_
    refine oj_st4 (pc := 96) (by decide +kernel) (by decide +kernel) ?_
    exact h98 _ _ _ _ _ _ H
  have h70 : ∀ (g : Nat) (l1 l2 l3 : Int) (M : oM), okp (iter (p_M_even_L70 f l1) g (l2, l3, M)) (fun r => okp (p_M_even_X70 f l1 r) K) → oJ l m_M_even (oEf 6 K) 0 0 70 [vr 57, vi l1, vi l2, vi l3, vu, vu] [] WD M := by
    intro g l1 l2 l3 M H
    have HL := fun hs => iter_J' (Jh := fun s => oJ l m_M_even (oEf 6 K) 0 0 70 [vr 57, vi l1, vi s.1, vi s.2.1, vu, vu] [] WD s.2.2) (G := (fun r => okp (p_M_even_X70 f l1 r) K)) hs g (l2, l3, M) H
    refine HL ?_
    intro K70 s i70 e70 H
    obtain ⟨l2, l3, M⟩ := s
    show oJ l m_M_even (oEf 6 K) 0 0 70 [vr 57, vi l1, vi l2, vi l3, vu, vu] [] WD M
    refine oj_ld3 (pc := 70) (by decide +kernel) ?_
    refine oj_ald0 (pc := 71) (by decide +kernel) ?_
    refine oj_getI' (pc := 72) (ki := 58) f_M_416 s_57_58 rfl (by decide +kernel) ?_
    refine oj_icmp_ge (pc := 75) (off := 16) (tgt := 91) (by decide +kernel) (by decide) H (fun _ H => ?_) (fun _ H => ?_)
    · refine oj_le (lv' := [_, _, _, vu, vu, vu]) ⟨Or.inr rfl, Or.inr rfl, Or.inr rfl, Or.inl rfl, Or.inr rfl, Or.inr rfl, trivial⟩ ?_
      have H := e70 _ H
      exact x70 _ _ _ H
    · refine oj_ld2 (pc := 78) (by decide +kernel) ?_
      refine oj_ald0 (pc := 79) (by decide +kernel) ?_
      refine oj_getI' (pc := 80) (ki := 58) f_M_416 s_57_58 rfl (by decide +kernel) ?_
      refine oj_imul (pc := 83) (by decide +kernel) ?_
      refine oj_st2 (pc := 84) (by decide +kernel) (by decide +kernel) ?_
      have H := okp_lt H
      refine oj_inc3 (pc := 85) (d := 1) (by decide +kernel) (by decide +kernel) ?_
      have H := okp_lt H
      refine oj_goto (pc := 88) (off := -18) (tgt := 70) (by decide +kernel) (by decide) ?_
      have H := i70 _ H
      exact H
  have h66 : ∀ (l1 : Int) (M : oM), okp (p_M_even_B66 f l1 M) K → oJ l m_M_even (oEf 6 K) 0 0 66 [vr 57, vi l1, vu, vu, vu, vu] [] WD M := by
    intro l1 M H
    refine oj_iconst (pc := 66) (v := 1) ⟨by decide, by decide⟩ (by decide +kernel) ?_
    refine oj_st2 (pc := 67) (by decide +kernel) (by decide +kernel) ?_
    refine oj_iconst (pc := 68) (v := 0) ⟨by decide, by decide⟩ (by decide +kernel) ?_
    refine oj_st3 (pc := 69) (by decide +kernel) (by decide +kernel) ?_
    exact h70 _ _ _ _ _ (okp_bind H)
  have h22 : ∀ (l1 : Int) (M : oM), okp (p_M_even_B22 f l1 M) K → oJ l m_M_even (oEf 6 K) 0 0 22 [vr 57, vi l1, vu, vu, vu, vu] [] WD M := by
    intro l1 M H
    refine oj_ald0 (pc := 22) (by decide +kernel) ?_
    refine of_Vv (pc := 23) (as := []) v_M_422 o_57 rfl rfl (Nat.le_of_ble_eq_true rfl) (by decide +kernel) (by decide) rfl (c_M_laysLacks_0 (okp_bind H)) (fun M H => ?_)
    refine oj_ld1 (pc := 26) (by decide +kernel) ?_
    refine oj_bipush (pc := 27) (v := 100) ⟨by decide, by decide⟩ (by decide +kernel) ?_
    refine oj_icmp_ne (pc := 29) (off := 8) (tgt := 37) (by decide +kernel) (by decide) H (fun _ H => ?_) (fun _ H => ?_)
    · refine oj_ald0 (pc := 37) (by decide +kernel) ?_
      refine oj_getI' (pc := 38) (ki := 58) f_M_416 s_57_58 rfl (by decide +kernel) ?_
      refine oj_bipush (pc := 41) (v := 6) ⟨by decide, by decide⟩ (by decide +kernel) ?_
      refine oj_icmp_le (pc := 43) (off := 6) (tgt := 49) (by decide +kernel) (by decide) H (fun _ H => ?_) (fun _ H => ?_)
      · refine oj_ld1 (pc := 49) (by decide +kernel) ?_
        refine oj_bipush (pc := 50) (v := 100) ⟨by decide, by decide⟩ (by decide +kernel) ?_
        refine oj_icmp_ge (pc := 52) (off := 14) (tgt := 66) (by decide +kernel) (by decide) H (fun _ H => ?_) (fun _ H => ?_)
        · exact h66 _ _ H
        · refine oj_ld1 (pc := 55) (by decide +kernel) ?_
          refine oj_ald0 (pc := 56) (by decide +kernel) ?_
          refine oj_getI' (pc := 57) (ki := 58) f_M_416 s_57_58 rfl (by decide +kernel) ?_
          refine oj_icmp_lt (pc := 60) (off := 6) (tgt := 66) (by decide +kernel) (by decide) H (fun _ H => ?_) (fun _ H => ?_)
          · exact h66 _ _ H
          · refine oj_bipush (pc := 63) (v := -4) ⟨by decide, by decide⟩ (by decide +kernel) ?_
            exact oj_iret (pc := 65) (by decide +kernel) rfl rfl (Nat.le_refl _) (Nat.le_refl _) ⟨rfl, H⟩
      · refine oj_bipush (pc := 46) (v := -3) ⟨by decide, by decide⟩ (by decide +kernel) ?_
        exact oj_iret (pc := 48) (by decide +kernel) rfl rfl (Nat.le_refl _) (Nat.le_refl _) ⟨rfl, H⟩
    · refine oj_ald0 (pc := 32) (by decide +kernel) ?_
      refine oj_getI' (pc := 33) (ki := 58) f_M_416 s_57_58 rfl (by decide +kernel) ?_
      exact oj_iret (pc := 36) (by decide +kernel) rfl rfl (Nat.le_refl _) (Nat.le_refl _) ⟨rfl, H⟩
  refine oj_ld1 (pc := 0) (by decide +kernel) ?_
  refine oj_iconst (pc := 1) (v := 0) ⟨by decide, by decide⟩ (by decide +kernel) ?_
  refine oj_iconst (pc := 2) (v := 5) ⟨by decide, by decide⟩ (by decide +kernel) ?_
  refine of_Si (pc := 3) (as := [_, _, _]) v_M_123 rfl rfl (Nat.le_of_ble_eq_true rfl) (by decide +kernel) (by decide) rfl (c_M_in_0 (okp_bind H)) (fun r M H => ?_)
  refine oj_if_ne (pc := 6) (off := 16) (tgt := 22) (by decide +kernel) (by decide) H (fun _ H => ?_) (fun _ H => ?_)
  · exact h22 _ _ H
  · refine oj_ld1 (pc := 9) (by decide +kernel) ?_
    refine oj_bipush (pc := 10) (v := 100) ⟨by decide, by decide⟩ (by decide +kernel) ?_
    refine oj_bipush (pc := 12) (v := 101) ⟨by decide, by decide⟩ (by decide +kernel) ?_
    refine of_Si (pc := 14) (as := [_, _, _]) v_M_123 rfl rfl (Nat.le_of_ble_eq_true rfl) (by decide +kernel) (by decide) rfl (c_M_in_0 (okp_bind H)) (fun r M H => ?_)
    refine oj_if_ne (pc := 17) (off := 5) (tgt := 22) (by decide +kernel) (by decide) H (fun _ H => ?_) (fun _ H => ?_)
    · exact h22 _ _ H
    · refine oj_iconst (pc := 20) (v := -1) ⟨by decide, by decide⟩ (by decide +kernel) ?_
      exact oj_iret (pc := 21) (by decide +kernel) rfl rfl (Nat.le_refl _) (Nat.le_refl _) ⟨rfl, H⟩
theorem c_M_bits_0 {l : Launch} {f : Nat} {l0 : Int} {M : oM} {K : Int × oM → Prop} (H : okp (p_M_bits f l0 M) K) : oKf l m_M_bits 2 [vi l0] M K := by
  refine oK_intro (lv := [vi l0, vu, vu]) (by decide +kernel) (Nat.le_of_ble_eq_true rfl) rfl ?_
  have h4 : ∀ (g : Nat) (l0 l1 l2 : Int) (M : oM), okp (iter (p_M_bits_L4 f l0) g (l1, l2, M)) K → oJ l m_M_bits (oEf 2 K) 0 0 4 [vi l0, vi l1, vi l2] [] WD M := by
    intro g l0 l1 l2 M H
    have HL := fun hs => iter_J' (Jh := fun s => oJ l m_M_bits (oEf 2 K) 0 0 4 [vi l0, vi s.1, vi s.2.1] [] WD s.2.2) (G := K) hs g (l1, l2, M) H
    refine HL ?_
    intro K4 s i4 e4 H
    obtain ⟨l1, l2, M⟩ := s
    show oJ l m_M_bits (oEf 2 K) 0 0 4 [vi l0, vi l1, vi l2] [] WD M
    refine oj_ld2 (pc := 4) (by decide +kernel) ?_
    refine oj_bipush (pc := 5) (v := 12) ⟨by decide, by decide⟩ (by decide +kernel) ?_
    refine oj_icmp_ge (pc := 7) (off := 17) (tgt := 24) (by decide +kernel) (by decide) H (fun _ H => ?_) (fun _ H => ?_)
    · refine oj_ld1 (pc := 24) (by decide +kernel) ?_
      have H := e4 _ H
      exact oj_iret (pc := 25) (by decide +kernel) rfl rfl (Nat.le_refl _) (Nat.le_refl _) ⟨rfl, H⟩
    · refine oj_ld1 (pc := 10) (by decide +kernel) ?_
      refine oj_ld0 (pc := 11) (by decide +kernel) ?_
      refine oj_ld2 (pc := 12) (by decide +kernel) ?_
      refine oj_ishr (pc := 13) (by decide +kernel) ?_
      refine oj_iconst (pc := 14) (v := 1) ⟨by decide, by decide⟩ (by decide +kernel) ?_
      refine oj_iand (pc := 15) (by decide +kernel) ?_
      refine oj_iadd (pc := 16) (by decide +kernel) ?_
      refine oj_st1 (pc := 17) (by decide +kernel) (by decide +kernel) ?_
      have H := okp_lt H
      refine oj_inc2 (pc := 18) (d := 1) (by decide +kernel) (by decide +kernel) ?_
      have H := okp_lt H
      refine oj_goto (pc := 21) (off := -17) (tgt := 4) (by decide +kernel) (by decide) ?_
      have H := i4 _ H
      exact H
  refine oj_iconst (pc := 0) (v := 0) ⟨by decide, by decide⟩ (by decide +kernel) ?_
  refine oj_st1 (pc := 1) (by decide +kernel) (by decide +kernel) ?_
  refine oj_iconst (pc := 2) (v := 0) ⟨by decide, by decide⟩ (by decide +kernel) ?_
  refine oj_st2 (pc := 3) (by decide +kernel) (by decide +kernel) ?_
  exact h4 _ _ _ _ _ H
theorem c_M_isEven_0 {l : Launch} {f : Nat} {l1 : Int} {M : oM} {K : Int × oM → Prop} (H : okp (p_M_isEven f l1 M) K) : oKf l m_M_isEven 3 [vr 57, vi l1] M K := by
  refine oK_intro (lv := [vr 57, vi l1, vu, vu, vu, vu]) (by decide +kernel) (Nat.le_of_ble_eq_true rfl) rfl ?_
  have h2 : ∀ (g : Nat) (l1 l2 : Int) (M : oM), okp (iter (p_M_isEven_L2 f l1) g (l2, M)) K → oJ l m_M_isEven (oEf 3 K) 0 0 2 [vr 57, vi l1, vi l2, vu, vu, vu] [] WD M := by
    intro g l1 l2 M H
    have HL := fun hs => iter_J' (Jh := fun s => oJ l m_M_isEven (oEf 3 K) 0 0 2 [vr 57, vi l1, vi s.1, vu, vu, vu] [] WD s.2) (G := K) hs g (l2, M) H
    refine HL ?_
    intro K2 s i2 e2 H
    obtain ⟨l2, M⟩ := s
    show oJ l m_M_isEven (oEf 3 K) 0 0 2 [vr 57, vi l1, vi l2, vu, vu, vu] [] WD M
    have x13 : ∀ (l2 l3 : Int) (M : oM), okp (p_M_isEven_X13 f l1 l2 (l3, M)) K2 → oJ l m_M_isEven (oEf 3 K) 0 0 76 [vr 57, vi l1, vi l2, vi l3, vu, vu] [] WD M := by
      intro l2 l3 M H
      refine oj_ld3 (pc := 76) (by decide +kernel) ?_
      refine oj_if_eq (pc := 77) (off := 5) (tgt := 82) (by decide +kernel) (by decide) H (fun _ H => ?_) (fun _ H => ?_)
      · refine oj_inc2 (pc := 82) (d := 1) (by decide +kernel) (by decide +kernel) ?_
        have H := okp_lt H
        refine oj_goto (pc := 85) (off := -83) (tgt := 2) (by decide +kernel) (by decide) ?_
        refine oj_le (lv' := [_, _, _, vu, vu, vu]) ⟨Or.inr rfl, Or.inr rfl, Or.inr rfl, Or.inl rfl, Or.inr rfl, Or.inr rfl, trivial⟩ ?_
        have H := i2 _ H
        exact H
      · refine oj_iconst (pc := 80) (v := 0) ⟨by decide, by decide⟩ (by decide +kernel) ?_
        have H := e2 _ H
        exact oj_iret (pc := 81) (by decide +kernel) rfl rfl (Nat.le_refl _) (Nat.le_refl _) ⟨rfl, H⟩
    have h13 : ∀ (g : Nat) (l2 l3 l4 : Int) (M : oM), okp (iter (p_M_isEven_L13 f l1 l2) g (l3, l4, M)) (fun r => okp (p_M_isEven_X13 f l1 l2 r) K2) → oJ l m_M_isEven (oEf 3 K) 0 0 13 [vr 57, vi l1, vi l2, vi l3, vi l4, vu] [] WD M := by
      intro g l2 l3 l4 M H
      have HL := fun hs => iter_J' (Jh := fun s => oJ l m_M_isEven (oEf 3 K) 0 0 13 [vr 57, vi l1, vi l2, vi s.1, vi s.2.1, vu] [] WD s.2.2) (G := (fun r => okp (p_M_isEven_X13 f l1 l2 r) K2)) hs g (l3, l4, M) H
      refine HL ?_
      intro K13 s i13 e13 H
      obtain ⟨l3, l4, M⟩ := s
      show oJ l m_M_isEven (oEf 3 K) 0 0 13 [vr 57, vi l1, vi l2, vi l3, vi l4, vu] [] WD M
      have h70 : ∀ (l3 l4 : Int) (M : oM), okp (p_M_isEven_B70_13 f l1 l2 l3 l4 M) K13 → oJ l m_M_isEven (oEf 3 K) 0 0 70 [vr 57, vi l1, vi l2, vi l3, vi l4, vu] [] WD M := by
        intro l3 l4 M H
        refine oj_inc4 (pc := 70) (d := 1) (by decide +kernel) (by decide +kernel) ?_
        have H := okp_lt H
        refine oj_goto (pc := 73) (off := -60) (tgt := 13) (by decide +kernel) (by decide) ?_
        have H := i13 _ H
        exact H
      have h54 : ∀ (l3 l4 l5 : Int) (M : oM), okp (p_M_isEven_B54_13 f l1 l2 l3 l4 l5 M) K13 → oJ l m_M_isEven (oEf 3 K) 0 0 54 [vr 57, vi l1, vi l2, vi l3, vi l4, vi l5] [] WD M := by
        intro l3 l4 l5 M H
        refine oj_ald0 (pc := 54) (by decide +kernel) ?_
        refine oj_getR' (pc := 55) f_M_89 s_57_48 (by decide +kernel) ?_
        refine oj_ld4 (pc := 58) (by decide +kernel) ?_
        refine oj_iald (pc := 60) (NN := 12) a_84 rfl (by decide +kernel) H (fun H => ?_)
        refine oj_ld2 (pc := 61) (by decide +kernel) ?_
        refine oj_icmp_ne (pc := 62) (off := 8) (tgt := 70) (by decide +kernel) (by decide) H (fun _ H => ?_) (fun _ H => ?_)
        · refine oj_le (lv' := [_, _, _, _, _, vu]) ⟨Or.inr rfl, Or.inr rfl, Or.inr rfl, Or.inr rfl, Or.inr rfl, Or.inl rfl, trivial⟩ ?_
          exact h70 _ _ _ H
        · refine oj_ld3 (pc := 65) (by decide +kernel) ?_
          refine oj_ld5 (pc := 66) (by decide +kernel) ?_
          refine oj_isub (pc := 68) (by decide +kernel) ?_
          refine oj_st3 (pc := 69) (by decide +kernel) (by decide +kernel) ?_
          have H := okp_lt H
          refine oj_le (lv' := [_, _, _, _, _, vu]) ⟨Or.inr rfl, Or.inr rfl, Or.inr rfl, Or.inr rfl, Or.inr rfl, Or.inl rfl, trivial⟩ ?_
          exact h70 _ _ _ H
      have h36 : ∀ (l3 l4 s0 : Int) (M : oM), okp (p_M_isEven_B36_13 f l1 l2 l3 l4 s0 M) K13 → oJ l m_M_isEven (oEf 3 K) 0 0 36 [vr 57, vi l1, vi l2, vi l3, vi l4, vu] [vi s0] WD M := by
        intro l3 l4 s0 M H
        refine oj_st5 (pc := 36) (by decide +kernel) (by decide +kernel) ?_
        refine oj_ald0 (pc := 38) (by decide +kernel) ?_
        refine oj_getR' (pc := 39) f_M_92 s_57_49 (by decide +kernel) ?_
        refine oj_ld4 (pc := 42) (by decide +kernel) ?_
        refine oj_iald (pc := 44) (NN := 12) a_85 rfl (by decide +kernel) H (fun H => ?_)
        refine oj_ld2 (pc := 45) (by decide +kernel) ?_
        refine oj_icmp_ne (pc := 46) (off := 8) (tgt := 54) (by decide +kernel) (by decide) H (fun _ H => ?_) (fun _ H => ?_)
        · exact h54 _ _ _ _ H
        · refine oj_ld3 (pc := 49) (by decide +kernel) ?_
          refine oj_ld5 (pc := 50) (by decide +kernel) ?_
          refine oj_iadd (pc := 52) (by decide +kernel) ?_
          refine oj_st3 (pc := 53) (by decide +kernel) (by decide +kernel) ?_
          have H := okp_lt H
          exact h54 _ _ _ _ H
      refine oj_ld4 (pc := 13) (by decide +kernel) ?_
      refine oj_ald0 (pc := 15) (by decide +kernel) ?_
      refine oj_getI' (pc := 16) (ki := 50) f_M_400 s_57_50 rfl (by decide +kernel) ?_
      refine oj_icmp_ge (pc := 19) (off := 57) (tgt := 76) (by decide +kernel) (by decide) H (fun _ H => ?_) (fun _ H => ?_)
      · refine oj_le (lv' := [_, _, _, _, vu, vu]) ⟨Or.inr rfl, Or.inr rfl, Or.inr rfl, Or.inr rfl, Or.inl rfl, Or.inr rfl, trivial⟩ ?_
        have H := e13 _ H
        exact x13 _ _ _ H
      · refine oj_ld1 (pc := 22) (by decide +kernel) ?_
        refine oj_ld4 (pc := 23) (by decide +kernel) ?_
        refine of_Si (pc := 25) (as := [_, _]) v_M_131 rfl rfl (Nat.le_of_ble_eq_true rfl) (by decide +kernel) (by decide) rfl (c_M_has_0 (okp_bind H)) (fun r M H => ?_)
        refine oj_if_eq (pc := 28) (off := 7) (tgt := 35) (by decide +kernel) (by decide) H (fun _ H => ?_) (fun _ H => ?_)
        · refine oj_iconst (pc := 35) (v := 1) ⟨by decide, by decide⟩ (by decide +kernel) ?_
          exact h36 _ _ _ _ H
        · refine oj_iconst (pc := 31) (v := -1) ⟨by decide, by decide⟩ (by decide +kernel) ?_
          refine oj_goto (pc := 32) (off := 4) (tgt := 36) (by decide +kernel) (by decide) ?_
          exact h36 _ _ _ _ H
    refine oj_ld2 (pc := 2) (by decide +kernel) ?_
    refine oj_bipush (pc := 3) (v := 10) ⟨by decide, by decide⟩ (by decide +kernel) ?_
    refine oj_icmp_ge (pc := 5) (off := 83) (tgt := 88) (by decide +kernel) (by decide) H (fun _ H => ?_) (fun _ H => ?_)
    · refine oj_iconst (pc := 88) (v := 1) ⟨by decide, by decide⟩ (by decide +kernel) ?_
      have H := e2 _ H
      exact oj_iret (pc := 89) (by decide +kernel) rfl rfl (Nat.le_refl _) (Nat.le_refl _) ⟨rfl, H⟩
    · refine oj_iconst (pc := 8) (v := 0) ⟨by decide, by decide⟩ (by decide +kernel) ?_
      refine oj_st3 (pc := 9) (by decide +kernel) (by decide +kernel) ?_
      refine oj_iconst (pc := 10) (v := 0) ⟨by decide, by decide⟩ (by decide +kernel) ?_
      refine oj_st4 (pc := 11) (by decide +kernel) (by decide +kernel) ?_
      exact h13 _ _ _ _ _ (okp_bind H)
  refine oj_iconst (pc := 0) (v := 0) ⟨by decide, by decide⟩ (by decide +kernel) ?_
  refine oj_st2 (pc := 1) (by decide +kernel) (by decide +kernel) ?_
  exact h2 _ _ _ _ H
theorem c_M_turned_0 {l : Launch} {f : Nat} {l1 : Int} {M : oM} {K : Int × oM → Prop} (H : okp (p_M_turned f l1 M) K) : oKf l m_M_turned 6 [vr 57, vi l1] M K := by
  refine oK_intro (lv := [vr 57, vi l1, vu, vu]) (by decide +kernel) (Nat.le_of_ble_eq_true rfl) rfl ?_
  have h28 : ∀ (g : Nat) (l1 l2 l3 : Int) (M : oM), okp (iter (p_M_turned_L28 f l1) g (l2, l3, M)) K → oJ l m_M_turned (oEf 6 K) 0 0 28 [vr 57, vi l1, vi l2, vi l3] [] WD M := by
    intro g l1 l2 l3 M H
    have HL := fun hs => iter_J' (Jh := fun s => oJ l m_M_turned (oEf 6 K) 0 0 28 [vr 57, vi l1, vi s.1, vi s.2.1] [] WD s.2.2) (G := K) hs g (l2, l3, M) H
    refine HL ?_
    intro K28 s i28 e28 H
    obtain ⟨l2, l3, M⟩ := s
    show oJ l m_M_turned (oEf 6 K) 0 0 28 [vr 57, vi l1, vi l2, vi l3] [] WD M
    have h85 : ∀ (l2 : Int) (M : oM), okp (p_M_turned_B85_28 f l2 M) K28 → oJ l m_M_turned (oEf 6 K) 0 0 85 [vr 57, vu, vi l2, vu] [] WD M := by
      intro l2 M H
      refine oj_ld2 (pc := 85) (by decide +kernel) ?_
      refine oj_goto (pc := 86) (off := 7) (tgt := 93) (by decide +kernel) (by decide) ?_
      have H := e28 _ H
      exact oj_iret (pc := 93) (by decide +kernel) rfl rfl (Nat.le_refl _) (Nat.le_refl _) ⟨rfl, H⟩
    have h68 : ∀ (l2 l3 : Int) (M : oM), okp (p_M_turned_B68_28 f l1 l2 l3 M) K28 → oJ l m_M_turned (oEf 6 K) 0 0 68 [vr 57, vi l1, vi l2, vi l3] [] WD M := by
      intro l2 l3 M H
      refine oj_inc3 (pc := 68) (d := 1) (by decide +kernel) (by decide +kernel) ?_
      have H := okp_lt H
      refine oj_goto (pc := 71) (off := -43) (tgt := 28) (by decide +kernel) (by decide) ?_
      have H := i28 _ H
      exact H
    have h55 : ∀ (l2 l3 : Int) (M : oM), okp (p_M_turned_B55_28 f l1 l2 l3 M) K28 → oJ l m_M_turned (oEf 6 K) 0 0 55 [vr 57, vi l1, vi l2, vi l3] [] WD M := by
      intro l2 l3 M H
      refine oj_ald0 (pc := 55) (by decide +kernel) ?_
      refine oj_ld3 (pc := 56) (by decide +kernel) ?_
      refine of_Vi (pc := 57) (as := [_]) v_M_434 o_57 rfl rfl (Nat.le_of_ble_eq_true rfl) (by decide +kernel) (by decide) rfl (c_M_isEven_0 (okp_bind H)) (fun r M H => ?_)
      refine oj_if_ne (pc := 60) (off := 6) (tgt := 66) (by decide +kernel) (by decide) H (fun _ H => ?_) (fun _ H => ?_)
      · refine oj_ld3 (pc := 66) (by decide +kernel) ?_
        refine oj_st2 (pc := 67) (by decide +kernel) (by decide +kernel) ?_
        exact h68 _ _ _ H
      · refine oj_goto (pc := 63) (off := 5) (tgt := 68) (by decide +kernel) (by decide) ?_
        exact h68 _ _ _ H
    refine oj_ld3 (pc := 28) (by decide +kernel) ?_
    refine oj_iconst (pc := 29) (v := 1) ⟨by decide, by decide⟩ (by decide +kernel) ?_
    refine oj_ald0 (pc := 30) (by decide +kernel) ?_
    refine oj_getI' (pc := 31) (ki := 50) f_M_400 s_57_50 rfl (by decide +kernel) ?_
    refine oj_ishl (pc := 34) (by decide +kernel) ?_
    refine oj_icmp_ge (pc := 35) (off := 39) (tgt := 74) (by decide +kernel) (by decide) H (fun _ H => ?_) (fun _ H => ?_)
    · refine oj_ld1 (pc := 74) (by decide +kernel) ?_
      refine oj_iconst (pc := 75) (v := 1) ⟨by decide, by decide⟩ (by decide +kernel) ?_
      refine oj_icmp_eq (pc := 76) (off := 9) (tgt := 85) (by decide +kernel) (by decide) H (fun _ H => ?_) (fun _ H => ?_)
      · refine oj_le (lv' := [_, vu, _, vu]) ⟨Or.inr rfl, Or.inl rfl, Or.inr rfl, Or.inl rfl, trivial⟩ ?_
        exact h85 _ _ H
      · refine oj_ld2 (pc := 79) (by decide +kernel) ?_
        refine oj_bipush (pc := 80) (v := -2) ⟨by decide, by decide⟩ (by decide +kernel) ?_
        refine oj_icmp_ne (pc := 82) (off := 7) (tgt := 89) (by decide +kernel) (by decide) H (fun _ H => ?_) (fun _ H => ?_)
        · refine oj_ld2 (pc := 89) (by decide +kernel) ?_
          refine of_Si (pc := 90) (as := [_]) v_M_431 rfl rfl (Nat.le_of_ble_eq_true rfl) (by decide +kernel) (by decide) rfl (c_M_bits_0 (okp_bind H)) (fun r M H => ?_)
          have H := e28 _ H
          exact oj_iret (pc := 93) (by decide +kernel) rfl rfl (Nat.le_refl _) (Nat.le_refl _) ⟨rfl, H⟩
        · refine oj_le (lv' := [_, vu, _, vu]) ⟨Or.inr rfl, Or.inl rfl, Or.inr rfl, Or.inl rfl, trivial⟩ ?_
          exact h85 _ _ H
    · refine oj_ld2 (pc := 38) (by decide +kernel) ?_
      refine oj_bipush (pc := 39) (v := -2) ⟨by decide, by decide⟩ (by decide +kernel) ?_
      refine oj_icmp_eq (pc := 41) (off := 14) (tgt := 55) (by decide +kernel) (by decide) H (fun _ H => ?_) (fun _ H => ?_)
      · exact h55 _ _ _ H
      · refine oj_ld3 (pc := 44) (by decide +kernel) ?_
        refine of_Si (pc := 45) (as := [_]) v_M_431 rfl rfl (Nat.le_of_ble_eq_true rfl) (by decide +kernel) (by decide) rfl (c_M_bits_0 (okp_bind H)) (fun r M H => ?_)
        refine oj_ld2 (pc := 48) (by decide +kernel) ?_
        refine of_Si (pc := 49) (as := [_]) v_M_431 rfl rfl (Nat.le_of_ble_eq_true rfl) (by decide +kernel) (by decide) rfl (c_M_bits_0 (okp_bind H)) (fun r M H => ?_)
        refine oj_icmp_ge (pc := 52) (off := 16) (tgt := 68) (by decide +kernel) (by decide) H (fun _ H => ?_) (fun _ H => ?_)
        · exact h68 _ _ _ H
        · exact h55 _ _ _ H
  refine oj_ld1 (pc := 0) (by decide +kernel) ?_
  refine oj_iconst (pc := 1) (v := 0) ⟨by decide, by decide⟩ (by decide +kernel) ?_
  refine oj_iconst (pc := 2) (v := 1) ⟨by decide, by decide⟩ (by decide +kernel) ?_
  refine of_Si (pc := 3) (as := [_, _, _]) v_M_123 rfl rfl (Nat.le_of_ble_eq_true rfl) (by decide +kernel) (by decide) rfl (c_M_in_0 (okp_bind H)) (fun r M H => ?_)
  refine oj_if_ne (pc := 6) (off := 5) (tgt := 11) (by decide +kernel) (by decide) H (fun _ H => ?_) (fun _ H => ?_)
  · refine oj_ald0 (pc := 11) (by decide +kernel) ?_
    refine oj_bipush (pc := 12) (v := 12) ⟨by decide, by decide⟩ (by decide +kernel) ?_
    refine of_Vi (pc := 14) (as := [_]) v_M_403 o_57 rfl rfl (Nat.le_of_ble_eq_true rfl) (by decide +kernel) (by decide) rfl (c_M_laysCoins_0 (okp_bind H)) (fun r M H => ?_)
    refine oj_if_ne (pc := 17) (off := 6) (tgt := 23) (by decide +kernel) (by decide) H (fun _ H => ?_) (fun _ H => ?_)
    · refine oj_bipush (pc := 23) (v := -2) ⟨by decide, by decide⟩ (by decide +kernel) ?_
      refine oj_st2 (pc := 25) (by decide +kernel) (by decide +kernel) ?_
      refine oj_iconst (pc := 26) (v := 0) ⟨by decide, by decide⟩ (by decide +kernel) ?_
      refine oj_st3 (pc := 27) (by decide +kernel) (by decide +kernel) ?_
      exact h28 _ _ _ _ _ H
    · refine oj_bipush (pc := 20) (v := -3) ⟨by decide, by decide⟩ (by decide +kernel) ?_
      exact oj_iret (pc := 22) (by decide +kernel) rfl rfl (Nat.le_refl _) (Nat.le_refl _) ⟨rfl, H⟩
  · refine oj_iconst (pc := 9) (v := -1) ⟨by decide, by decide⟩ (by decide +kernel) ?_
    exact oj_iret (pc := 10) (by decide +kernel) rfl rfl (Nat.le_refl _) (Nat.le_refl _) ⟨rfl, H⟩
theorem c_M_setOff_0 {l : Launch} {f : Nat} {l1 : Int} {M : oM} {K : Int × oM → Prop} (H : okp (p_M_setOff f l1 M) K) : oKf l m_M_setOff 5 [vr 57, vi l1] M K := by
  refine oK_intro (lv := [vr 57, vi l1]) (by decide +kernel) (Nat.le_of_ble_eq_true rfl) rfl ?_
  refine oj_ald0 (pc := 0) (by decide +kernel) ?_
  refine oj_ld1 (pc := 1) (by decide +kernel) ?_
  refine of_Vi (pc := 2) (as := [_]) v_M_135 o_57 rfl rfl (Nat.le_of_ble_eq_true rfl) (by decide +kernel) (by decide) rfl (c_M_isPerson_0 (okp_bind H)) (fun r M H => ?_)
  refine oj_if_eq (pc := 5) (off := 11) (tgt := 16) (by decide +kernel) (by decide) H (fun _ H => ?_) (fun _ H => ?_)
  · refine oj_ldcw (pc := 16) (v := -1000000) k_M_437 ⟨by decide, by decide⟩ (by decide +kernel) ?_
    exact oj_iret (pc := 19) (by decide +kernel) rfl rfl (Nat.le_refl _) (Nat.le_refl _) ⟨rfl, H⟩
  · refine oj_ald0 (pc := 8) (by decide +kernel) ?_
    refine oj_ld1 (pc := 9) (by decide +kernel) ?_
    refine of_Vi (pc := 10) (as := [_]) v_M_419 o_57 rfl rfl (Nat.le_of_ble_eq_true rfl) (by decide +kernel) (by decide) rfl (c_M_setOffOf_0 (okp_bind H)) (fun r M H => ?_)
    refine oj_goto (pc := 13) (off := 6) (tgt := 19) (by decide +kernel) (by decide) ?_
    exact oj_iret (pc := 19) (by decide +kernel) rfl rfl (Nat.le_refl _) (Nat.le_refl _) ⟨rfl, H⟩
theorem c_M_laysGroups_0 {l : Launch} {f : Nat} {M : oM} {K : Int × oM → Prop} (H : okp (p_M_laysGroups f M) K) : oKf l m_M_laysGroups 5 [vr 57] M K := by
  refine oK_intro (lv := [vr 57, vu, vu]) (by decide +kernel) (Nat.le_of_ble_eq_true rfl) rfl ?_
  have h2 : ∀ (g : Nat) (l1 : Int) (M : oM), okp (iter (p_M_laysGroups_L2 f) g (l1, M)) K → oJ l m_M_laysGroups (oEf 5 K) 0 0 2 [vr 57, vi l1, vu] [] WD M := by
    intro g l1 M H
    have HL := fun hs => iter_J' (Jh := fun s => oJ l m_M_laysGroups (oEf 5 K) 0 0 2 [vr 57, vi s.1, vu] [] WD s.2) (G := K) hs g (l1, M) H
    refine HL ?_
    intro K2 s i2 e2 H
    obtain ⟨l1, M⟩ := s
    show oJ l m_M_laysGroups (oEf 5 K) 0 0 2 [vr 57, vi l1, vu] [] WD M
    have h120 : ∀ (l1 : Int) (M : oM), okp (p_M_laysGroups_B120_2 f l1 M) K2 → oJ l m_M_laysGroups (oEf 5 K) 0 0 120 [vr 57, vi l1, vu] [] WD M := by
      intro l1 M H
      refine oj_inc1 (pc := 120) (d := 1) (by decide +kernel) (by decide +kernel) ?_
      have H := okp_lt H
      refine oj_goto (pc := 123) (off := -121) (tgt := 2) (by decide +kernel) (by decide) ?_
      have H := i2 _ H
      exact H
    have x25 : ∀ (l1 : Int) (M : oM), okp (p_M_laysGroups_X25 f l1 M) K2 → oJ l m_M_laysGroups (oEf 5 K) 0 0 93 [vr 57, vi l1, vu] [] WD M := by
      intro l1 M H
      refine oj_ld1 (pc := 93) (by decide +kernel) ?_
      refine oj_if_eq (pc := 94) (off := 26) (tgt := 120) (by decide +kernel) (by decide) H (fun _ H => ?_) (fun _ H => ?_)
      · exact h120 _ _ H
      · refine oj_ald0 (pc := 97) (by decide +kernel) ?_
        refine oj_getR' (pc := 98) f_M_117 s_57_59 (by decide +kernel) ?_
        refine oj_ld1 (pc := 101) (by decide +kernel) ?_
        refine oj_iald (pc := 102) (NN := 1024) a_93 rfl (by decide +kernel) H (fun H => ?_)
        refine oj_if_ne (pc := 103) (off := 17) (tgt := 120) (by decide +kernel) (by decide) H (fun _ H => ?_) (fun _ H => ?_)
        · exact h120 _ _ H
        · refine oj_ald0 (pc := 106) (by decide +kernel) ?_
          refine oj_getR' (pc := 107) f_M_120 s_57_60 (by decide +kernel) ?_
          refine oj_ld1 (pc := 110) (by decide +kernel) ?_
          refine oj_ald0 (pc := 111) (by decide +kernel) ?_
          refine oj_getR' (pc := 112) f_M_120 s_57_60 (by decide +kernel) ?_
          refine oj_ld1 (pc := 115) (by decide +kernel) ?_
          refine oj_iald (pc := 116) (NN := 1024) a_94 rfl (by decide +kernel) H (fun H => ?_)
          refine oj_iconst (pc := 117) (v := 1) ⟨by decide, by decide⟩ (by decide +kernel) ?_
          refine oj_iadd (pc := 118) (by decide +kernel) ?_
          refine oj_iast (pc := 119) (NN := 1024) a_94 rfl (by decide +kernel) H (fun H => ?_)
          have H := okp_lt H
          exact h120 _ _ H
    have h25 : ∀ (g : Nat) (l1 l2 : Int) (M : oM), okp (iter (p_M_laysGroups_L25 f l1) g (l2, M)) (fun r => okp (p_M_laysGroups_X25 f l1 r) K2) → oJ l m_M_laysGroups (oEf 5 K) 0 0 25 [vr 57, vi l1, vi l2] [] WD M := by
      intro g l1 l2 M H
      have HL := fun hs => iter_J' (Jh := fun s => oJ l m_M_laysGroups (oEf 5 K) 0 0 25 [vr 57, vi l1, vi s.1] [] WD s.2) (G := (fun r => okp (p_M_laysGroups_X25 f l1 r) K2)) hs g (l2, M) H
      refine HL ?_
      intro K25 s i25 e25 H
      obtain ⟨l2, M⟩ := s
      show oJ l m_M_laysGroups (oEf 5 K) 0 0 25 [vr 57, vi l1, vi l2] [] WD M
      have h87 : ∀ (l2 : Int) (M : oM), okp (p_M_laysGroups_B87_25 f l1 l2 M) K25 → oJ l m_M_laysGroups (oEf 5 K) 0 0 87 [vr 57, vi l1, vi l2] [] WD M := by
        intro l2 M H
        refine oj_inc2 (pc := 87) (d := 1) (by decide +kernel) (by decide +kernel) ?_
        have H := okp_lt H
        refine oj_goto (pc := 90) (off := -65) (tgt := 25) (by decide +kernel) (by decide) ?_
        have H := i25 _ H
        exact H
      refine oj_ld2 (pc := 25) (by decide +kernel) ?_
      refine oj_bipush (pc := 26) (v := 10) ⟨by decide, by decide⟩ (by decide +kernel) ?_
      refine oj_icmp_ge (pc := 28) (off := 65) (tgt := 93) (by decide +kernel) (by decide) H (fun _ H => ?_) (fun _ H => ?_)
      · refine oj_le (lv' := [_, _, vu]) ⟨Or.inr rfl, Or.inr rfl, Or.inl rfl, trivial⟩ ?_
        have H := e25 _ H
        exact x25 _ _ H
      · refine oj_ld1 (pc := 31) (by decide +kernel) ?_
        refine oj_ld2 (pc := 32) (by decide +kernel) ?_
        refine of_Si (pc := 33) (as := [_, _]) v_M_131 rfl rfl (Nat.le_of_ble_eq_true rfl) (by decide +kernel) (by decide) rfl (c_M_has_0 (okp_bind H)) (fun r M H => ?_)
        refine oj_if_ne (pc := 36) (off := 6) (tgt := 42) (by decide +kernel) (by decide) H (fun _ H => ?_) (fun _ H => ?_)
        · refine oj_ald0 (pc := 42) (by decide +kernel) ?_
          refine oj_getR' (pc := 43) f_M_117 s_57_59 (by decide +kernel) ?_
          refine oj_ld1 (pc := 46) (by decide +kernel) ?_
          refine oj_ald0 (pc := 47) (by decide +kernel) ?_
          refine oj_getR' (pc := 48) f_M_117 s_57_59 (by decide +kernel) ?_
          refine oj_ld1 (pc := 51) (by decide +kernel) ?_
          refine oj_iald (pc := 52) (NN := 1024) a_93 rfl (by decide +kernel) H (fun H => ?_)
          refine oj_ald0 (pc := 53) (by decide +kernel) ?_
          refine oj_ld2 (pc := 54) (by decide +kernel) ?_
          refine of_Vi (pc := 55) (as := [_]) v_M_419 o_57 rfl rfl (Nat.le_of_ble_eq_true rfl) (by decide +kernel) (by decide) rfl (c_M_setOffOf_0 (okp_bind H)) (fun r M H => ?_)
          refine oj_iadd (pc := 58) (by decide +kernel) ?_
          refine oj_iast (pc := 59) (NN := 1024) a_93 rfl (by decide +kernel) H (fun H => ?_)
          have H := okp_lt H
          refine oj_ald0 (pc := 60) (by decide +kernel) ?_
          refine oj_getR' (pc := 61) f_M_120 s_57_60 (by decide +kernel) ?_
          refine oj_ld1 (pc := 64) (by decide +kernel) ?_
          refine oj_ald0 (pc := 65) (by decide +kernel) ?_
          refine oj_getR' (pc := 66) f_M_120 s_57_60 (by decide +kernel) ?_
          refine oj_ld1 (pc := 69) (by decide +kernel) ?_
          refine oj_iald (pc := 70) (NN := 1024) a_94 rfl (by decide +kernel) H (fun H => ?_)
          refine oj_ald0 (pc := 71) (by decide +kernel) ?_
          refine oj_getR' (pc := 72) f_M_120 s_57_60 (by decide +kernel) ?_
          refine oj_ld1 (pc := 75) (by decide +kernel) ?_
          refine oj_iconst (pc := 76) (v := 1) ⟨by decide, by decide⟩ (by decide +kernel) ?_
          refine oj_ld2 (pc := 77) (by decide +kernel) ?_
          refine oj_ishl (pc := 78) (by decide +kernel) ?_
          refine oj_iconst (pc := 79) (v := -1) ⟨by decide, by decide⟩ (by decide +kernel) ?_
          refine oj_ixor (pc := 80) (by decide +kernel) ?_
          refine oj_iand (pc := 81) (by decide +kernel) ?_
          refine oj_iald (pc := 82) (NN := 1024) a_94 rfl (by decide +kernel) H (fun H => ?_)
          refine of_Si (pc := 83) (as := [_, _]) v_M_143 rfl rfl (Nat.le_of_ble_eq_true rfl) (by decide +kernel) (by decide) rfl (c_M_max_0 (okp_bind H)) (fun r M H => ?_)
          refine oj_iast (pc := 86) (NN := 1024) a_94 rfl (by decide +kernel) H (fun H => ?_)
          have H := okp_lt H
          exact h87 _ _ H
        · refine oj_goto (pc := 39) (off := 48) (tgt := 87) (by decide +kernel) (by decide) ?_
          exact h87 _ _ H
    refine oj_ld1 (pc := 2) (by decide +kernel) ?_
    refine oj_sipush (pc := 3) (v := 1024) ⟨by decide, by decide⟩ (by decide +kernel) ?_
    refine oj_icmp_ge (pc := 6) (off := 120) (tgt := 126) (by decide +kernel) (by decide) H (fun _ H => ?_) (fun _ H => ?_)
    · have H := e2 _ H
      exact oj_vret (pc := 126) (by decide +kernel) rfl (Nat.le_refl _) (Nat.le_refl _) ⟨rfl, H⟩
    · refine oj_ald0 (pc := 9) (by decide +kernel) ?_
      refine oj_getR' (pc := 10) f_M_117 s_57_59 (by decide +kernel) ?_
      refine oj_ld1 (pc := 13) (by decide +kernel) ?_
      refine oj_iconst (pc := 14) (v := 0) ⟨by decide, by decide⟩ (by decide +kernel) ?_
      refine oj_iast (pc := 15) (NN := 1024) a_93 rfl (by decide +kernel) H (fun H => ?_)
      have H := okp_lt H
      refine oj_ald0 (pc := 16) (by decide +kernel) ?_
      refine oj_getR' (pc := 17) f_M_120 s_57_60 (by decide +kernel) ?_
      refine oj_ld1 (pc := 20) (by decide +kernel) ?_
      refine oj_iconst (pc := 21) (v := 0) ⟨by decide, by decide⟩ (by decide +kernel) ?_
      refine oj_iast (pc := 22) (NN := 1024) a_94 rfl (by decide +kernel) H (fun H => ?_)
      have H := okp_lt H
      refine oj_iconst (pc := 23) (v := 0) ⟨by decide, by decide⟩ (by decide +kernel) ?_
      refine oj_st2 (pc := 24) (by decide +kernel) (by decide +kernel) ?_
      exact h25 _ _ _ _ (okp_bind H)
  refine oj_iconst (pc := 0) (v := 0) ⟨by decide, by decide⟩ (by decide +kernel) ?_
  refine oj_st1 (pc := 1) (by decide +kernel) (by decide +kernel) ?_
  exact h2 _ _ _ H
theorem c_M_fewest_0 {l : Launch} {f : Nat} {M : oM} {K : Int × oM → Prop} (H : okp (p_M_fewest f M) K) : oKf l m_M_fewest 6 [vr 57] M K := by
  refine oK_intro (lv := [vr 57, vu, vu]) (by decide +kernel) (Nat.le_of_ble_eq_true rfl) rfl ?_
  have h4 : ∀ (g : Nat) (l1 l2 : Int) (M : oM), okp (iter (p_M_fewest_L4 f) g (l1, l2, M)) K → oJ l m_M_fewest (oEf 6 K) 0 0 4 [vr 57, vi l1, vi l2] [] WD M := by
    intro g l1 l2 M H
    have HL := fun hs => iter_J' (Jh := fun s => oJ l m_M_fewest (oEf 6 K) 0 0 4 [vr 57, vi s.1, vi s.2.1] [] WD s.2.2) (G := K) hs g (l1, l2, M) H
    refine HL ?_
    intro K4 s i4 e4 H
    obtain ⟨l1, l2, M⟩ := s
    show oJ l m_M_fewest (oEf 6 K) 0 0 4 [vr 57, vi l1, vi l2] [] WD M
    have h24 : ∀ (l1 l2 : Int) (M : oM), okp (p_M_fewest_B24_4 f l1 l2 M) K4 → oJ l m_M_fewest (oEf 6 K) 0 0 24 [vr 57, vi l1, vi l2] [] WD M := by
      intro l1 l2 M H
      refine oj_inc2 (pc := 24) (d := 1) (by decide +kernel) (by decide +kernel) ?_
      have H := okp_lt H
      refine oj_goto (pc := 27) (off := -23) (tgt := 4) (by decide +kernel) (by decide) ?_
      have H := i4 _ H
      exact H
    refine oj_ld2 (pc := 4) (by decide +kernel) ?_
    refine oj_bipush (pc := 5) (v := 10) ⟨by decide, by decide⟩ (by decide +kernel) ?_
    refine oj_icmp_ge (pc := 7) (off := 23) (tgt := 30) (by decide +kernel) (by decide) H (fun _ H => ?_) (fun _ H => ?_)
    · refine oj_ald0 (pc := 30) (by decide +kernel) ?_
      refine of_Vv (pc := 31) (as := []) v_M_438 o_57 rfl rfl (Nat.le_of_ble_eq_true rfl) (by decide +kernel) (by decide) rfl (c_M_laysGroups_0 (okp_bind H)) (fun M H => ?_)
      refine oj_ld1 (pc := 34) (by decide +kernel) ?_
      refine of_Si (pc := 35) (as := [_]) v_M_431 rfl rfl (Nat.le_of_ble_eq_true rfl) (by decide +kernel) (by decide) rfl (c_M_bits_0 (okp_bind H)) (fun r M H => ?_)
      refine oj_ald0 (pc := 38) (by decide +kernel) ?_
      refine oj_getR' (pc := 39) f_M_120 s_57_60 (by decide +kernel) ?_
      refine oj_ld1 (pc := 42) (by decide +kernel) ?_
      refine oj_iald (pc := 43) (NN := 1024) a_94 rfl (by decide +kernel) H (fun H => ?_)
      refine oj_isub (pc := 44) (by decide +kernel) ?_
      have H := e4 _ H
      exact oj_iret (pc := 45) (by decide +kernel) rfl rfl (Nat.le_refl _) (Nat.le_refl _) ⟨rfl, H⟩
    · refine oj_ald0 (pc := 10) (by decide +kernel) ?_
      refine oj_ld2 (pc := 11) (by decide +kernel) ?_
      refine of_Vi (pc := 12) (as := [_]) v_M_419 o_57 rfl rfl (Nat.le_of_ble_eq_true rfl) (by decide +kernel) (by decide) rfl (c_M_setOffOf_0 (okp_bind H)) (fun r M H => ?_)
      refine oj_if_eq (pc := 15) (off := 9) (tgt := 24) (by decide +kernel) (by decide) H (fun _ H => ?_) (fun _ H => ?_)
      · exact h24 _ _ _ H
      · refine oj_ld1 (pc := 18) (by decide +kernel) ?_
        refine oj_iconst (pc := 19) (v := 1) ⟨by decide, by decide⟩ (by decide +kernel) ?_
        refine oj_ld2 (pc := 20) (by decide +kernel) ?_
        refine oj_ishl (pc := 21) (by decide +kernel) ?_
        refine oj_ior (pc := 22) (by decide +kernel) ?_
        refine oj_st1 (pc := 23) (by decide +kernel) (by decide +kernel) ?_
        have H := okp_lt H
        exact h24 _ _ _ H
  refine oj_iconst (pc := 0) (v := 0) ⟨by decide, by decide⟩ (by decide +kernel) ?_
  refine oj_st1 (pc := 1) (by decide +kernel) (by decide +kernel) ?_
  refine oj_iconst (pc := 2) (v := 0) ⟨by decide, by decide⟩ (by decide +kernel) ?_
  refine oj_st2 (pc := 3) (by decide +kernel) (by decide +kernel) ?_
  exact h4 _ _ _ _ H
theorem c_M_reachOf_0 {l : Launch} {f : Nat} {l1 : Int} {M : oM} {K : Int × oM → Prop} (H : okp (p_M_reachOf f l1 M) K) : oKf l m_M_reachOf 4 [vr 57, vi l1] M K := by
  refine oK_intro (lv := [vr 57, vi l1, vu]) (by decide +kernel) (Nat.le_of_ble_eq_true rfl) rfl ?_
  have h2 : ∀ (g : Nat) (l1 l2 : Int) (M : oM), okp (iter (p_M_reachOf_L2 f l1) g (l2, M)) K → oJ l m_M_reachOf (oEf 4 K) 0 0 2 [vr 57, vi l1, vi l2] [] WD M := by
    intro g l1 l2 M H
    have HL := fun hs => iter_J' (Jh := fun s => oJ l m_M_reachOf (oEf 4 K) 0 0 2 [vr 57, vi l1, vi s.1] [] WD s.2) (G := K) hs g (l2, M) H
    refine HL ?_
    intro K2 s i2 e2 H
    obtain ⟨l2, M⟩ := s
    show oJ l m_M_reachOf (oEf 4 K) 0 0 2 [vr 57, vi l1, vi l2] [] WD M
    refine oj_ld2 (pc := 2) (by decide +kernel) ?_
    refine oj_bipush (pc := 3) (v := 100) ⟨by decide, by decide⟩ (by decide +kernel) ?_
    refine oj_icmp_ge (pc := 5) (off := 23) (tgt := 28) (by decide +kernel) (by decide) H (fun _ H => ?_) (fun _ H => ?_)
    · refine oj_ald0 (pc := 28) (by decide +kernel) ?_
      refine oj_ld1 (pc := 29) (by decide +kernel) ?_
      refine of_Vi (pc := 30) (as := [_]) v_M_388 o_57 rfl rfl (Nat.le_of_ble_eq_true rfl) (by decide +kernel) (by decide) rfl (c_M_reachLeft_0 (okp_bind H)) (fun r M H => ?_)
      have H := e2 _ H
      exact oj_iret (pc := 33) (by decide +kernel) rfl rfl (Nat.le_refl _) (Nat.le_refl _) ⟨rfl, H⟩
    · refine oj_ald0 (pc := 8) (by decide +kernel) ?_
      refine oj_getR' (pc := 9) f_M_83 s_57_46 (by decide +kernel) ?_
      refine oj_ld2 (pc := 12) (by decide +kernel) ?_
      refine oj_ald0 (pc := 13) (by decide +kernel) ?_
      refine oj_getR' (pc := 14) f_M_7 s_57_0 (by decide +kernel) ?_
      refine oj_iconst (pc := 17) (v := 0) ⟨by decide, by decide⟩ (by decide +kernel) ?_
      refine oj_ld2 (pc := 18) (by decide +kernel) ?_
      refine oj_iadd (pc := 19) (by decide +kernel) ?_
      refine oj_iald (pc := 20) (NN := 159) a_58 rfl (by decide +kernel) H (fun H => ?_)
      refine oj_iast (pc := 21) (NN := 100) a_82 rfl (by decide +kernel) H (fun H => ?_)
      have H := okp_lt H
      refine oj_inc2 (pc := 22) (d := 1) (by decide +kernel) (by decide +kernel) ?_
      have H := okp_lt H
      refine oj_goto (pc := 25) (off := -23) (tgt := 2) (by decide +kernel) (by decide) ?_
      have H := i2 _ H
      exact H
  refine oj_iconst (pc := 0) (v := 0) ⟨by decide, by decide⟩ (by decide +kernel) ?_
  refine oj_st2 (pc := 1) (by decide +kernel) (by decide +kernel) ?_
  exact h2 _ _ _ _ H
theorem c_M_ringOf_0 {l : Launch} {f : Nat} {l1 : Int} {M : oM} {K : Int × oM → Prop} (H : okp (p_M_ringOf f l1 M) K) : oKf l m_M_ringOf 5 [vr 57, vi l1] M K := by
  refine oK_intro (lv := [vr 57, vi l1, vu, vu, vu]) (by decide +kernel) (Nat.le_of_ble_eq_true rfl) rfl ?_
  have h11 : ∀ (g : Nat) (l1 l2 l3 l4 : Int) (M : oM), okp (iter (p_M_ringOf_L11 f l1 l3) g (l2, l4, M)) K → oJ l m_M_ringOf (oEf 5 K) 0 0 11 [vr 57, vi l1, vi l2, vi l3, vi l4] [] WD M := by
    intro g l1 l2 l3 l4 M H
    have HL := fun hs => iter_J' (Jh := fun s => oJ l m_M_ringOf (oEf 5 K) 0 0 11 [vr 57, vi l1, vi s.1, vi l3, vi s.2.1] [] WD s.2.2) (G := K) hs g (l2, l4, M) H
    refine HL ?_
    intro K11 s i11 e11 H
    obtain ⟨l2, l4, M⟩ := s
    show oJ l m_M_ringOf (oEf 5 K) 0 0 11 [vr 57, vi l1, vi l2, vi l3, vi l4] [] WD M
    have h56 : ∀ (l2 l4 : Int) (M : oM), okp (p_M_ringOf_B56_11 f l1 l2 l3 l4 M) K11 → oJ l m_M_ringOf (oEf 5 K) 0 0 56 [vr 57, vi l1, vi l2, vi l3, vi l4] [] WD M := by
      intro l2 l4 M H
      refine oj_inc4 (pc := 56) (d := 1) (by decide +kernel) (by decide +kernel) ?_
      have H := okp_lt H
      refine oj_goto (pc := 59) (off := -48) (tgt := 11) (by decide +kernel) (by decide) ?_
      have H := i11 _ H
      exact H
    refine oj_ld4 (pc := 11) (by decide +kernel) ?_
    refine oj_bipush (pc := 13) (v := 10) ⟨by decide, by decide⟩ (by decide +kernel) ?_
    refine oj_icmp_ge (pc := 15) (off := 47) (tgt := 62) (by decide +kernel) (by decide) H (fun _ H => ?_) (fun _ H => ?_)
    · refine oj_ld2 (pc := 62) (by decide +kernel) ?_
      have H := e11 _ H
      exact oj_iret (pc := 63) (by decide +kernel) rfl rfl (Nat.le_refl _) (Nat.le_refl _) ⟨rfl, H⟩
    · refine oj_ald0 (pc := 18) (by decide +kernel) ?_
      refine oj_ld4 (pc := 19) (by decide +kernel) ?_
      refine of_Vi (pc := 21) (as := [_]) v_M_135 o_57 rfl rfl (Nat.le_of_ble_eq_true rfl) (by decide +kernel) (by decide) rfl (c_M_isPerson_0 (okp_bind H)) (fun r M H => ?_)
      refine oj_if_eq (pc := 24) (off := 32) (tgt := 56) (by decide +kernel) (by decide) H (fun _ H => ?_) (fun _ H => ?_)
      · exact h56 _ _ _ H
      · refine oj_ld3 (pc := 27) (by decide +kernel) ?_
        refine oj_ld4 (pc := 28) (by decide +kernel) ?_
        refine of_Si (pc := 30) (as := [_, _]) v_M_131 rfl rfl (Nat.le_of_ble_eq_true rfl) (by decide +kernel) (by decide) rfl (c_M_has_0 (okp_bind H)) (fun r M H => ?_)
        refine oj_if_eq (pc := 33) (off := 23) (tgt := 56) (by decide +kernel) (by decide) H (fun _ H => ?_) (fun _ H => ?_)
        · exact h56 _ _ _ H
        · refine oj_ald0 (pc := 36) (by decide +kernel) ?_
          refine oj_ld4 (pc := 37) (by decide +kernel) ?_
          refine of_Vi (pc := 39) (as := [_]) v_M_441 o_57 rfl rfl (Nat.le_of_ble_eq_true rfl) (by decide +kernel) (by decide) rfl (c_M_reachOf_0 (okp_bind H)) (fun r M H => ?_)
          refine oj_ld1 (pc := 42) (by decide +kernel) ?_
          refine of_Si (pc := 43) (as := [_, _]) v_M_131 rfl rfl (Nat.le_of_ble_eq_true rfl) (by decide +kernel) (by decide) rfl (c_M_has_0 (okp_bind H)) (fun r M H => ?_)
          refine oj_if_eq (pc := 46) (off := 10) (tgt := 56) (by decide +kernel) (by decide) H (fun _ H => ?_) (fun _ H => ?_)
          · exact h56 _ _ _ H
          · refine oj_ld2 (pc := 49) (by decide +kernel) ?_
            refine oj_iconst (pc := 50) (v := 1) ⟨by decide, by decide⟩ (by decide +kernel) ?_
            refine oj_ld4 (pc := 51) (by decide +kernel) ?_
            refine oj_ishl (pc := 53) (by decide +kernel) ?_
            refine oj_ior (pc := 54) (by decide +kernel) ?_
            refine oj_st2 (pc := 55) (by decide +kernel) (by decide +kernel) ?_
            have H := okp_lt H
            exact h56 _ _ _ H
  refine oj_iconst (pc := 0) (v := 0) ⟨by decide, by decide⟩ (by decide +kernel) ?_
  refine oj_st2 (pc := 1) (by decide +kernel) (by decide +kernel) ?_
  refine oj_ald0 (pc := 2) (by decide +kernel) ?_
  refine oj_ld1 (pc := 3) (by decide +kernel) ?_
  refine of_Vi (pc := 4) (as := [_]) v_M_441 o_57 rfl rfl (Nat.le_of_ble_eq_true rfl) (by decide +kernel) (by decide) rfl (c_M_reachOf_0 (okp_bind H)) (fun r M H => ?_)
  refine oj_st3 (pc := 7) (by decide +kernel) (by decide +kernel) ?_
  refine oj_iconst (pc := 8) (v := 0) ⟨by decide, by decide⟩ (by decide +kernel) ?_
  refine oj_st4 (pc := 9) (by decide +kernel) (by decide +kernel) ?_
  exact h11 _ _ _ _ _ _ H
theorem c_M_rings_0 {l : Launch} {f : Nat} {l1 : Int} {M : oM} {K : Int × oM → Prop} (H : okp (p_M_rings f l1 M) K) : oKf l m_M_rings 6 [vr 57, vi l1] M K := by
  refine oK_intro (lv := [vr 57, vi l1, vu, vu, vu]) (by decide +kernel) (Nat.le_of_ble_eq_true rfl) rfl ?_
  have h34 : ∀ (g : Nat) (l2 l3 l4 : Int) (M : oM), okp (iter (p_M_rings_L34 f) g (l2, l3, l4, M)) K → oJ l m_M_rings (oEf 6 K) 0 0 34 [vr 57, vu, vi l2, vi l3, vi l4] [] WD M := by
    intro g l2 l3 l4 M H
    have HL := fun hs => iter_J' (Jh := fun s => oJ l m_M_rings (oEf 6 K) 0 0 34 [vr 57, vu, vi s.1, vi s.2.1, vi s.2.2.1] [] WD s.2.2.2) (G := K) hs g (l2, l3, l4, M) H
    refine HL ?_
    intro K34 s i34 e34 H
    obtain ⟨l2, l3, l4, M⟩ := s
    show oJ l m_M_rings (oEf 6 K) 0 0 34 [vr 57, vu, vi l2, vi l3, vi l4] [] WD M
    have h68 : ∀ (l2 l3 l4 : Int) (M : oM), okp (p_M_rings_B68_34 f l2 l3 l4 M) K34 → oJ l m_M_rings (oEf 6 K) 0 0 68 [vr 57, vu, vi l2, vi l3, vi l4] [] WD M := by
      intro l2 l3 l4 M H
      refine oj_inc4 (pc := 68) (d := 1) (by decide +kernel) (by decide +kernel) ?_
      have H := okp_lt H
      refine oj_goto (pc := 71) (off := -37) (tgt := 34) (by decide +kernel) (by decide) ?_
      have H := i34 _ H
      exact H
    refine oj_ld4 (pc := 34) (by decide +kernel) ?_
    refine oj_bipush (pc := 36) (v := 10) ⟨by decide, by decide⟩ (by decide +kernel) ?_
    refine oj_icmp_ge (pc := 38) (off := 36) (tgt := 74) (by decide +kernel) (by decide) H (fun _ H => ?_) (fun _ H => ?_)
    · refine oj_ld3 (pc := 74) (by decide +kernel) ?_
      have H := e34 _ H
      exact oj_iret (pc := 75) (by decide +kernel) rfl rfl (Nat.le_refl _) (Nat.le_refl _) ⟨rfl, H⟩
    · refine oj_ld2 (pc := 41) (by decide +kernel) ?_
      refine oj_ld4 (pc := 42) (by decide +kernel) ?_
      refine of_Si (pc := 44) (as := [_, _]) v_M_131 rfl rfl (Nat.le_of_ble_eq_true rfl) (by decide +kernel) (by decide) rfl (c_M_has_0 (okp_bind H)) (fun r M H => ?_)
      refine oj_if_ne (pc := 47) (off := 6) (tgt := 53) (by decide +kernel) (by decide) H (fun _ H => ?_) (fun _ H => ?_)
      · refine oj_ld2 (pc := 53) (by decide +kernel) ?_
        refine oj_ald0 (pc := 54) (by decide +kernel) ?_
        refine oj_ld4 (pc := 55) (by decide +kernel) ?_
        refine of_Vi (pc := 57) (as := [_]) v_M_444 o_57 rfl rfl (Nat.le_of_ble_eq_true rfl) (by decide +kernel) (by decide) rfl (c_M_ringOf_0 (okp_bind H)) (fun r M H => ?_)
        refine oj_iconst (pc := 60) (v := -1) ⟨by decide, by decide⟩ (by decide +kernel) ?_
        refine oj_ixor (pc := 61) (by decide +kernel) ?_
        refine oj_iand (pc := 62) (by decide +kernel) ?_
        refine oj_st2 (pc := 63) (by decide +kernel) (by decide +kernel) ?_
        have H := okp_lt H
        refine oj_ld3 (pc := 64) (by decide +kernel) ?_
        refine oj_iconst (pc := 65) (v := 1) ⟨by decide, by decide⟩ (by decide +kernel) ?_
        refine oj_iadd (pc := 66) (by decide +kernel) ?_
        refine oj_st3 (pc := 67) (by decide +kernel) (by decide +kernel) ?_
        have H := okp_lt H
        exact h68 _ _ _ _ H
      · refine oj_goto (pc := 50) (off := 18) (tgt := 68) (by decide +kernel) (by decide) ?_
        exact h68 _ _ _ _ H
  refine oj_ld1 (pc := 0) (by decide +kernel) ?_
  refine oj_bipush (pc := 1) (v := 100) ⟨by decide, by decide⟩ (by decide +kernel) ?_
  refine oj_icmp_eq (pc := 3) (off := 21) (tgt := 24) (by decide +kernel) (by decide) H (fun _ H => ?_) (fun _ H => ?_)
  · refine oj_ald0 (pc := 24) (by decide +kernel) ?_
    refine oj_getI' (pc := 25) (ki := 5) f_M_127 s_57_5 rfl (by decide +kernel) ?_
    refine oj_st2 (pc := 28) (by decide +kernel) (by decide +kernel) ?_
    have H := okp_lt H
    refine oj_iconst (pc := 29) (v := 0) ⟨by decide, by decide⟩ (by decide +kernel) ?_
    refine oj_st3 (pc := 30) (by decide +kernel) (by decide +kernel) ?_
    refine oj_iconst (pc := 31) (v := 0) ⟨by decide, by decide⟩ (by decide +kernel) ?_
    refine oj_st4 (pc := 32) (by decide +kernel) (by decide +kernel) ?_
    refine oj_le (lv' := [_, vu, _, _, _]) ⟨Or.inr rfl, Or.inl rfl, Or.inr rfl, Or.inr rfl, Or.inr rfl, trivial⟩ ?_
    exact h34 _ _ _ _ _ H
  · refine oj_ald0 (pc := 6) (by decide +kernel) ?_
    refine oj_ld1 (pc := 7) (by decide +kernel) ?_
    refine of_Vi (pc := 8) (as := [_]) v_M_135 o_57 rfl rfl (Nat.le_of_ble_eq_true rfl) (by decide +kernel) (by decide) rfl (c_M_isPerson_0 (okp_bind H)) (fun r M H => ?_)
    refine oj_if_eq (pc := 11) (off := 11) (tgt := 22) (by decide +kernel) (by decide) H (fun _ H => ?_) (fun _ H => ?_)
    · refine oj_iconst (pc := 22) (v := -1) ⟨by decide, by decide⟩ (by decide +kernel) ?_
      exact oj_iret (pc := 23) (by decide +kernel) rfl rfl (Nat.le_refl _) (Nat.le_refl _) ⟨rfl, H⟩
    · refine oj_ald0 (pc := 14) (by decide +kernel) ?_
      refine oj_ld1 (pc := 15) (by decide +kernel) ?_
      refine of_Vi (pc := 16) (as := [_]) v_M_444 o_57 rfl rfl (Nat.le_of_ble_eq_true rfl) (by decide +kernel) (by decide) rfl (c_M_ringOf_0 (okp_bind H)) (fun r M H => ?_)
      refine oj_goto (pc := 19) (off := 4) (tgt := 23) (by decide +kernel) (by decide) ?_
      exact oj_iret (pc := 23) (by decide +kernel) rfl rfl (Nat.le_refl _) (Nat.le_refl _) ⟨rfl, H⟩
theorem c_M_off_0 {l : Launch} {f : Nat} {M : oM} {K : Int × oM → Prop} (H : okp (p_M_off f M) K) : oKf l m_M_off 5 [vr 57] M K := by
  refine oK_intro (lv := [vr 57]) (by decide +kernel) (Nat.le_of_ble_eq_true rfl) rfl ?_
  refine oj_ald0 (pc := 0) (by decide +kernel) ?_
  refine oj_getR' (pc := 1) f_M_7 s_57_0 (by decide +kernel) ?_
  refine oj_sipush (pc := 4) (v := 151) ⟨by decide, by decide⟩ (by decide +kernel) ?_
  refine oj_iald (pc := 7) (NN := 159) a_58 rfl (by decide +kernel) H (fun H => ?_)
  refine oj_if_ge (pc := 8) (off := 8) (tgt := 16) (by decide +kernel) (by decide) H (fun _ H => ?_) (fun _ H => ?_)
  · refine oj_ald0 (pc := 16) (by decide +kernel) ?_
    refine oj_getI' (pc := 17) (ki := 5) f_M_127 s_57_5 rfl (by decide +kernel) ?_
    refine oj_ald0 (pc := 20) (by decide +kernel) ?_
    refine oj_ald0 (pc := 21) (by decide +kernel) ?_
    refine oj_getR' (pc := 22) f_M_7 s_57_0 (by decide +kernel) ?_
    refine oj_sipush (pc := 25) (v := 151) ⟨by decide, by decide⟩ (by decide +kernel) ?_
    refine oj_iald (pc := 28) (NN := 159) a_58 rfl (by decide +kernel) H (fun H => ?_)
    refine of_Vi (pc := 29) (as := [_]) v_M_441 o_57 rfl rfl (Nat.le_of_ble_eq_true rfl) (by decide +kernel) (by decide) rfl (c_M_reachOf_0 (okp_bind H)) (fun r M H => ?_)
    refine oj_iconst (pc := 32) (v := -1) ⟨by decide, by decide⟩ (by decide +kernel) ?_
    refine oj_ixor (pc := 33) (by decide +kernel) ?_
    refine oj_iand (pc := 34) (by decide +kernel) ?_
    exact oj_iret (pc := 35) (by decide +kernel) rfl rfl (Nat.le_refl _) (Nat.le_refl _) ⟨rfl, H⟩
  · refine oj_bipush (pc := 11) (v := -2) ⟨by decide, by decide⟩ (by decide +kernel) ?_
    refine oj_goto (pc := 13) (off := 22) (tgt := 35) (by decide +kernel) (by decide) ?_
    exact oj_iret (pc := 35) (by decide +kernel) rfl rfl (Nat.le_refl _) (Nat.le_refl _) ⟨rfl, H⟩
theorem c_M_when_0 {l : Launch} {f : Nat} {l1 l2 : Int} {M : oM} {K : Int × oM → Prop} (H : okp (p_M_when f l1 l2 M) K) : oKf l m_M_when 9 [vr 57, vi l1, vi l2] M K := by
  refine oK_intro (lv := [vr 57, vi l1, vi l2, vu, vu]) (by decide +kernel) (Nat.le_of_ble_eq_true rfl) rfl ?_
  have h56 : ∀ (g : Nat) (l1 l2 l3 l4 : Int) (M : oM), okp (iter (p_M_when_L56 f l1 l2) g (l3, l4, M)) K → oJ l m_M_when (oEf 9 K) 0 0 56 [vr 57, vi l1, vi l2, vi l3, vi l4] [] WD M := by
    intro g l1 l2 l3 l4 M H
    have HL := fun hs => iter_J' (Jh := fun s => oJ l m_M_when (oEf 9 K) 0 0 56 [vr 57, vi l1, vi l2, vi s.1, vi s.2.1] [] WD s.2.2) (G := K) hs g (l3, l4, M) H
    refine HL ?_
    intro K56 s i56 e56 H
    obtain ⟨l3, l4, M⟩ := s
    show oJ l m_M_when (oEf 9 K) 0 0 56 [vr 57, vi l1, vi l2, vi l3, vi l4] [] WD M
    have h103 : ∀ (l3 : Int) (M : oM), okp (p_M_when_B103_56 f l3 M) K56 → oJ l m_M_when (oEf 9 K) 0 0 103 [vr 57, vu, vu, vi l3, vu] [] WD M := by
      intro l3 M H
      refine oj_ald0 (pc := 103) (by decide +kernel) ?_
      refine oj_getR' (pc := 104) f_M_13 s_57_1 (by decide +kernel) ?_
      refine oj_ald0 (pc := 107) (by decide +kernel) ?_
      refine oj_getR' (pc := 108) f_M_7 s_57_0 (by decide +kernel) ?_
      refine of_Sv (pc := 111) (as := [_, _]) v_M_345 rfl rfl (Nat.le_of_ble_eq_true rfl) (by decide +kernel) (by decide) rfl (c_M_copies_1 (okp_bind H)) (fun M H => ?_)
      refine oj_ld3 (pc := 114) (by decide +kernel) ?_
      have H := e56 _ H
      exact oj_iret (pc := 115) (by decide +kernel) rfl rfl (Nat.le_refl _) (Nat.le_refl _) ⟨rfl, H⟩
    have h97 : ∀ (l3 l4 : Int) (M : oM), okp (p_M_when_B97_56 f l1 l2 l3 l4 M) K56 → oJ l m_M_when (oEf 9 K) 0 0 97 [vr 57, vi l1, vi l2, vi l3, vi l4] [] WD M := by
      intro l3 l4 M H
      refine oj_inc4 (pc := 97) (d := 1) (by decide +kernel) (by decide +kernel) ?_
      have H := okp_lt H
      refine oj_goto (pc := 100) (off := -44) (tgt := 56) (by decide +kernel) (by decide) ?_
      have H := i56 _ H
      exact H
    refine oj_ld4 (pc := 56) (by decide +kernel) ?_
    refine oj_ld2 (pc := 58) (by decide +kernel) ?_
    refine oj_icmp_gt (pc := 59) (off := 44) (tgt := 103) (by decide +kernel) (by decide) H (fun _ H => ?_) (fun _ H => ?_)
    · refine oj_le (lv' := [_, vu, vu, _, vu]) ⟨Or.inr rfl, Or.inl rfl, Or.inl rfl, Or.inr rfl, Or.inl rfl, trivial⟩ ?_
      exact h103 _ _ H
    · refine oj_ald0 (pc := 62) (by decide +kernel) ?_
      refine oj_getR' (pc := 63) f_M_7 s_57_0 (by decide +kernel) ?_
      refine oj_sipush (pc := 66) (v := 156) ⟨by decide, by decide⟩ (by decide +kernel) ?_
      refine oj_iald (pc := 69) (NN := 159) a_58 rfl (by decide +kernel) H (fun H => ?_)
      refine oj_sipush (pc := 70) (v := 9999) ⟨by decide, by decide⟩ (by decide +kernel) ?_
      refine oj_icmp_ge (pc := 73) (off := 30) (tgt := 103) (by decide +kernel) (by decide) H (fun _ H => ?_) (fun _ H => ?_)
      · refine oj_le (lv' := [_, vu, vu, _, vu]) ⟨Or.inr rfl, Or.inl rfl, Or.inl rfl, Or.inr rfl, Or.inl rfl, trivial⟩ ?_
        exact h103 _ _ H
      · refine oj_ld3 (pc := 76) (by decide +kernel) ?_
        refine oj_bipush (pc := 77) (v := -2) ⟨by decide, by decide⟩ (by decide +kernel) ?_
        refine oj_icmp_ne (pc := 79) (off := 24) (tgt := 103) (by decide +kernel) (by decide) H (fun _ H => ?_) (fun _ H => ?_)
        · refine oj_le (lv' := [_, vu, vu, _, vu]) ⟨Or.inr rfl, Or.inl rfl, Or.inl rfl, Or.inr rfl, Or.inl rfl, trivial⟩ ?_
          exact h103 _ _ H
        · refine oj_ald0 (pc := 82) (by decide +kernel) ?_
          refine of_Vv (pc := 83) (as := []) v_M_339 o_57 rfl rfl (Nat.le_of_ble_eq_true rfl) (by decide +kernel) (by decide) rfl (c_M_hourGoes_0 (okp_bind H)) (fun M H => ?_)
          refine oj_ald0 (pc := 86) (by decide +kernel) ?_
          refine oj_getI' (pc := 87) (ki := 35) f_M_321 s_57_35 rfl (by decide +kernel) ?_
          refine oj_ld1 (pc := 90) (by decide +kernel) ?_
          refine oj_icmp_ne (pc := 91) (off := 6) (tgt := 97) (by decide +kernel) (by decide) H (fun _ H => ?_) (fun _ H => ?_)
          · exact h97 _ _ _ H
          · refine oj_ld4 (pc := 94) (by decide +kernel) ?_
            refine oj_st3 (pc := 96) (by decide +kernel) (by decide +kernel) ?_
            exact h97 _ _ _ H
  refine oj_ald0 (pc := 0) (by decide +kernel) ?_
  refine oj_ld1 (pc := 1) (by decide +kernel) ?_
  refine of_Vi (pc := 2) (as := [_]) v_M_135 o_57 rfl rfl (Nat.le_of_ble_eq_true rfl) (by decide +kernel) (by decide) rfl (c_M_isPerson_0 (okp_bind H)) (fun r M H => ?_)
  refine oj_if_eq (pc := 5) (off := 14) (tgt := 19) (by decide +kernel) (by decide) H (fun _ H => ?_) (fun _ H => ?_)
  · refine oj_iconst (pc := 19) (v := -1) ⟨by decide, by decide⟩ (by decide +kernel) ?_
    exact oj_iret (pc := 20) (by decide +kernel) rfl rfl (Nat.le_refl _) (Nat.le_refl _) ⟨rfl, H⟩
  · refine oj_ld2 (pc := 8) (by decide +kernel) ?_
    refine oj_iconst (pc := 9) (v := 1) ⟨by decide, by decide⟩ (by decide +kernel) ?_
    refine oj_sipush (pc := 10) (v := 240) ⟨by decide, by decide⟩ (by decide +kernel) ?_
    refine of_Si (pc := 13) (as := [_, _, _]) v_M_123 rfl rfl (Nat.le_of_ble_eq_true rfl) (by decide +kernel) (by decide) rfl (c_M_in_0 (okp_bind H)) (fun r M H => ?_)
    refine oj_if_ne (pc := 16) (off := 5) (tgt := 21) (by decide +kernel) (by decide) H (fun _ H => ?_) (fun _ H => ?_)
    · refine oj_ald0 (pc := 21) (by decide +kernel) ?_
      refine oj_getR' (pc := 22) f_M_7 s_57_0 (by decide +kernel) ?_
      refine oj_sipush (pc := 25) (v := 151) ⟨by decide, by decide⟩ (by decide +kernel) ?_
      refine oj_iald (pc := 28) (NN := 159) a_58 rfl (by decide +kernel) H (fun H => ?_)
      refine oj_ld1 (pc := 29) (by decide +kernel) ?_
      refine oj_icmp_ne (pc := 30) (off := 5) (tgt := 35) (by decide +kernel) (by decide) H (fun _ H => ?_) (fun _ H => ?_)
      · refine oj_ald0 (pc := 35) (by decide +kernel) ?_
        refine oj_getR' (pc := 36) f_M_7 s_57_0 (by decide +kernel) ?_
        refine oj_ald0 (pc := 39) (by decide +kernel) ?_
        refine oj_getR' (pc := 40) f_M_13 s_57_1 (by decide +kernel) ?_
        refine of_Sv (pc := 43) (as := [_, _]) v_M_345 rfl rfl (Nat.le_of_ble_eq_true rfl) (by decide +kernel) (by decide) rfl (c_M_copies_0 (okp_bind H)) (fun M H => ?_)
        refine oj_ald0 (pc := 46) (by decide +kernel) ?_
        refine of_Vv (pc := 47) (as := []) v_M_336 o_57 rfl rfl (Nat.le_of_ble_eq_true rfl) (by decide +kernel) (by decide) rfl (c_M_begins_0 (okp_bind H)) (fun M H => ?_)
        refine oj_bipush (pc := 50) (v := -2) ⟨by decide, by decide⟩ (by decide +kernel) ?_
        refine oj_st3 (pc := 52) (by decide +kernel) (by decide +kernel) ?_
        refine oj_iconst (pc := 53) (v := 1) ⟨by decide, by decide⟩ (by decide +kernel) ?_
        refine oj_st4 (pc := 54) (by decide +kernel) (by decide +kernel) ?_
        exact h56 _ _ _ _ _ _ H
      · refine oj_iconst (pc := 33) (v := 0) ⟨by decide, by decide⟩ (by decide +kernel) ?_
        exact oj_iret (pc := 34) (by decide +kernel) rfl rfl (Nat.le_refl _) (Nat.le_refl _) ⟨rfl, H⟩
    · refine oj_iconst (pc := 19) (v := -1) ⟨by decide, by decide⟩ (by decide +kernel) ?_
      exact oj_iret (pc := 20) (by decide +kernel) rfl rfl (Nat.le_refl _) (Nat.le_refl _) ⟨rfl, H⟩
theorem c_M_wedding_0 {l : Launch} {f : Nat} {l1 l2 l3 : Int} {M : oM} {K : Int × oM → Prop} (H : okp (p_M_wedding f l1 l2 l3 M) K) : oKf l m_M_wedding 9 [vr 57, vi l1, vi l2, vi l3] M K := by
  refine oK_intro (lv := [vr 57, vi l1, vi l2, vi l3, vu, vu, vu, vu]) (by decide +kernel) (Nat.le_of_ble_eq_true rfl) rfl ?_
  have h47 : ∀ (g : Nat) (l1 l2 l3 l4 l5 l6 : Int) (M : oM), okp (iter (p_M_wedding_L47 f l1 l2 l3) g (l4, l5, l6, M)) K → oJ l m_M_wedding (oEf 9 K) 0 0 47 [vr 57, vi l1, vi l2, vi l3, vi l4, vi l5, vi l6, vu] [] WD M := by
    intro g l1 l2 l3 l4 l5 l6 M H
    have HL := fun hs => iter_J' (Jh := fun s => oJ l m_M_wedding (oEf 9 K) 0 0 47 [vr 57, vi l1, vi l2, vi l3, vi s.1, vi s.2.1, vi s.2.2.1, vu] [] WD s.2.2.2) (G := K) hs g (l4, l5, l6, M) H
    refine HL ?_
    intro K47 s i47 e47 H
    obtain ⟨l4, l5, l6, M⟩ := s
    show oJ l m_M_wedding (oEf 9 K) 0 0 47 [vr 57, vi l1, vi l2, vi l3, vi l4, vi l5, vi l6, vu] [] WD M
    have h148 : ∀ (l4 : Int) (M : oM), okp (p_M_wedding_B148_47 f l4 M) K47 → oJ l m_M_wedding (oEf 9 K) 0 0 148 [vr 57, vu, vu, vu, vi l4, vu, vu, vu] [] WD M := by
      intro l4 M H
      refine oj_ald0 (pc := 148) (by decide +kernel) ?_
      refine oj_getR' (pc := 149) f_M_13 s_57_1 (by decide +kernel) ?_
      refine oj_ald0 (pc := 152) (by decide +kernel) ?_
      refine oj_getR' (pc := 153) f_M_7 s_57_0 (by decide +kernel) ?_
      refine of_Sv (pc := 156) (as := [_, _]) v_M_345 rfl rfl (Nat.le_of_ble_eq_true rfl) (by decide +kernel) (by decide) rfl (c_M_copies_1 (okp_bind H)) (fun M H => ?_)
      refine oj_ld4 (pc := 159) (by decide +kernel) ?_
      have H := e47 _ H
      exact oj_iret (pc := 161) (by decide +kernel) rfl rfl (Nat.le_refl _) (Nat.le_refl _) ⟨rfl, H⟩
    have h142 : ∀ (l4 l5 l6 : Int) (M : oM), okp (p_M_wedding_B142_47 f l1 l2 l3 l4 l5 l6 M) K47 → oJ l m_M_wedding (oEf 9 K) 0 0 142 [vr 57, vi l1, vi l2, vi l3, vi l4, vi l5, vi l6, vu] [] WD M := by
      intro l4 l5 l6 M H
      refine oj_inc6 (pc := 142) (d := 1) (by decide +kernel) (by decide +kernel) ?_
      have H := okp_lt H
      refine oj_goto (pc := 145) (off := -98) (tgt := 47) (by decide +kernel) (by decide) ?_
      have H := i47 _ H
      exact H
    have h120 : ∀ (l4 l5 l6 l7 : Int) (M : oM), okp (p_M_wedding_B120_47 f l1 l2 l3 l4 l5 l6 l7 M) K47 → oJ l m_M_wedding (oEf 9 K) 0 0 120 [vr 57, vi l1, vi l2, vi l3, vi l4, vi l5, vi l6, vi l7] [] WD M := by
      intro l4 l5 l6 l7 M H
      refine oj_ld5 (pc := 120) (by decide +kernel) ?_
      refine oj_ld1 (pc := 122) (by decide +kernel) ?_
      refine of_Si (pc := 123) (as := [_, _]) v_M_131 rfl rfl (Nat.le_of_ble_eq_true rfl) (by decide +kernel) (by decide) rfl (c_M_has_0 (okp_bind H)) (fun r M H => ?_)
      refine oj_if_eq (pc := 126) (off := 16) (tgt := 142) (by decide +kernel) (by decide) H (fun _ H => ?_) (fun _ H => ?_)
      · refine oj_le (lv' := [_, _, _, _, _, _, _, vu]) ⟨Or.inr rfl, Or.inr rfl, Or.inr rfl, Or.inr rfl, Or.inr rfl, Or.inr rfl, Or.inr rfl, Or.inl rfl, trivial⟩ ?_
        exact h142 _ _ _ _ H
      · refine oj_ld5 (pc := 129) (by decide +kernel) ?_
        refine oj_ld2 (pc := 131) (by decide +kernel) ?_
        refine of_Si (pc := 132) (as := [_, _]) v_M_131 rfl rfl (Nat.le_of_ble_eq_true rfl) (by decide +kernel) (by decide) rfl (c_M_has_0 (okp_bind H)) (fun r M H => ?_)
        refine oj_if_eq (pc := 135) (off := 7) (tgt := 142) (by decide +kernel) (by decide) H (fun _ H => ?_) (fun _ H => ?_)
        · refine oj_le (lv' := [_, _, _, _, _, _, _, vu]) ⟨Or.inr rfl, Or.inr rfl, Or.inr rfl, Or.inr rfl, Or.inr rfl, Or.inr rfl, Or.inr rfl, Or.inl rfl, trivial⟩ ?_
          exact h142 _ _ _ _ H
        · refine oj_ld7 (pc := 138) (by decide +kernel) ?_
          refine oj_st4 (pc := 140) (by decide +kernel) (by decide +kernel) ?_
          refine oj_le (lv' := [_, _, _, _, _, _, _, vu]) ⟨Or.inr rfl, Or.inr rfl, Or.inr rfl, Or.inr rfl, Or.inr rfl, Or.inr rfl, Or.inr rfl, Or.inl rfl, trivial⟩ ?_
          exact h142 _ _ _ _ H
    have h98 : ∀ (l4 l5 l6 l7 : Int) (M : oM), okp (p_M_wedding_B98_47 f l1 l2 l3 l4 l5 l6 l7 M) K47 → oJ l m_M_wedding (oEf 9 K) 0 0 98 [vr 57, vi l1, vi l2, vi l3, vi l4, vi l5, vi l6, vi l7] [] WD M := by
      intro l4 l5 l6 l7 M H
      refine oj_ald0 (pc := 98) (by decide +kernel) ?_
      refine of_Vv (pc := 99) (as := []) v_M_339 o_57 rfl rfl (Nat.le_of_ble_eq_true rfl) (by decide +kernel) (by decide) rfl (c_M_hourGoes_0 (okp_bind H)) (fun M H => ?_)
      refine oj_ald0 (pc := 102) (by decide +kernel) ?_
      refine oj_getI' (pc := 103) (ki := 35) f_M_321 s_57_35 rfl (by decide +kernel) ?_
      refine oj_if_lt (pc := 106) (off := 14) (tgt := 120) (by decide +kernel) (by decide) H (fun _ H => ?_) (fun _ H => ?_)
      · exact h120 _ _ _ _ _ H
      · refine oj_ld5 (pc := 109) (by decide +kernel) ?_
        refine oj_iconst (pc := 111) (v := 1) ⟨by decide, by decide⟩ (by decide +kernel) ?_
        refine oj_ald0 (pc := 112) (by decide +kernel) ?_
        refine oj_getI' (pc := 113) (ki := 35) f_M_321 s_57_35 rfl (by decide +kernel) ?_
        refine oj_ishl (pc := 116) (by decide +kernel) ?_
        refine oj_ior (pc := 117) (by decide +kernel) ?_
        refine oj_st5 (pc := 118) (by decide +kernel) (by decide +kernel) ?_
        have H := okp_lt H
        exact h120 _ _ _ _ _ H
    refine oj_ld6 (pc := 47) (by decide +kernel) ?_
    refine oj_ld3 (pc := 49) (by decide +kernel) ?_
    refine oj_icmp_ge (pc := 50) (off := 98) (tgt := 148) (by decide +kernel) (by decide) H (fun _ H => ?_) (fun _ H => ?_)
    · refine oj_le (lv' := [_, vu, vu, vu, _, vu, vu, vu]) ⟨Or.inr rfl, Or.inl rfl, Or.inl rfl, Or.inl rfl, Or.inr rfl, Or.inl rfl, Or.inl rfl, Or.inr rfl, trivial⟩ ?_
      exact h148 _ _ H
    · refine oj_ald0 (pc := 53) (by decide +kernel) ?_
      refine oj_getR' (pc := 54) f_M_7 s_57_0 (by decide +kernel) ?_
      refine oj_sipush (pc := 57) (v := 156) ⟨by decide, by decide⟩ (by decide +kernel) ?_
      refine oj_iald (pc := 60) (NN := 159) a_58 rfl (by decide +kernel) H (fun H => ?_)
      refine oj_sipush (pc := 61) (v := 9999) ⟨by decide, by decide⟩ (by decide +kernel) ?_
      refine oj_icmp_ge (pc := 64) (off := 84) (tgt := 148) (by decide +kernel) (by decide) H (fun _ H => ?_) (fun _ H => ?_)
      · refine oj_le (lv' := [_, vu, vu, vu, _, vu, vu, vu]) ⟨Or.inr rfl, Or.inl rfl, Or.inl rfl, Or.inl rfl, Or.inr rfl, Or.inl rfl, Or.inl rfl, Or.inr rfl, trivial⟩ ?_
        exact h148 _ _ H
      · refine oj_ld4 (pc := 67) (by decide +kernel) ?_
        refine oj_bipush (pc := 69) (v := -2) ⟨by decide, by decide⟩ (by decide +kernel) ?_
        refine oj_icmp_ne (pc := 71) (off := 77) (tgt := 148) (by decide +kernel) (by decide) H (fun _ H => ?_) (fun _ H => ?_)
        · refine oj_le (lv' := [_, vu, vu, vu, _, vu, vu, vu]) ⟨Or.inr rfl, Or.inl rfl, Or.inl rfl, Or.inl rfl, Or.inr rfl, Or.inl rfl, Or.inl rfl, Or.inr rfl, trivial⟩ ?_
          exact h148 _ _ H
        · refine oj_ald0 (pc := 74) (by decide +kernel) ?_
          refine oj_getR' (pc := 75) f_M_7 s_57_0 (by decide +kernel) ?_
          refine oj_sipush (pc := 78) (v := 156) ⟨by decide, by decide⟩ (by decide +kernel) ?_
          refine oj_iald (pc := 81) (NN := 159) a_58 rfl (by decide +kernel) H (fun H => ?_)
          refine oj_st7 (pc := 82) (by decide +kernel) (by decide +kernel) ?_
          have H := okp_lt H
          refine oj_ald0 (pc := 84) (by decide +kernel) ?_
          refine oj_getR' (pc := 85) f_M_7 s_57_0 (by decide +kernel) ?_
          refine oj_sipush (pc := 88) (v := 155) ⟨by decide, by decide⟩ (by decide +kernel) ?_
          refine oj_iald (pc := 91) (NN := 159) a_58 rfl (by decide +kernel) H (fun H => ?_)
          refine oj_if_ne (pc := 92) (off := 6) (tgt := 98) (by decide +kernel) (by decide) H (fun _ H => ?_) (fun _ H => ?_)
          · exact h98 _ _ _ _ _ H
          · refine oj_iconst (pc := 95) (v := 0) ⟨by decide, by decide⟩ (by decide +kernel) ?_
            refine oj_st5 (pc := 96) (by decide +kernel) (by decide +kernel) ?_
            exact h98 _ _ _ _ _ H
  refine oj_ald0 (pc := 0) (by decide +kernel) ?_
  refine oj_ld1 (pc := 1) (by decide +kernel) ?_
  refine oj_ld2 (pc := 2) (by decide +kernel) ?_
  refine of_Vi (pc := 3) (as := [_, _]) v_M_153 o_57 rfl rfl (Nat.le_of_ble_eq_true rfl) (by decide +kernel) (by decide) rfl (c_M_areTwo_0 (okp_bind H)) (fun r M H => ?_)
  refine oj_if_eq (pc := 6) (off := 14) (tgt := 20) (by decide +kernel) (by decide) H (fun _ H => ?_) (fun _ H => ?_)
  · refine oj_iconst (pc := 20) (v := -1) ⟨by decide, by decide⟩ (by decide +kernel) ?_
    exact oj_iret (pc := 21) (by decide +kernel) rfl rfl (Nat.le_refl _) (Nat.le_refl _) ⟨rfl, H⟩
  · refine oj_ld3 (pc := 9) (by decide +kernel) ?_
    refine oj_iconst (pc := 10) (v := 1) ⟨by decide, by decide⟩ (by decide +kernel) ?_
    refine oj_sipush (pc := 11) (v := 240) ⟨by decide, by decide⟩ (by decide +kernel) ?_
    refine of_Si (pc := 14) (as := [_, _, _]) v_M_123 rfl rfl (Nat.le_of_ble_eq_true rfl) (by decide +kernel) (by decide) rfl (c_M_in_0 (okp_bind H)) (fun r M H => ?_)
    refine oj_if_ne (pc := 17) (off := 5) (tgt := 22) (by decide +kernel) (by decide) H (fun _ H => ?_) (fun _ H => ?_)
    · refine oj_ald0 (pc := 22) (by decide +kernel) ?_
      refine oj_getR' (pc := 23) f_M_7 s_57_0 (by decide +kernel) ?_
      refine oj_ald0 (pc := 26) (by decide +kernel) ?_
      refine oj_getR' (pc := 27) f_M_13 s_57_1 (by decide +kernel) ?_
      refine of_Sv (pc := 30) (as := [_, _]) v_M_345 rfl rfl (Nat.le_of_ble_eq_true rfl) (by decide +kernel) (by decide) rfl (c_M_copies_0 (okp_bind H)) (fun M H => ?_)
      refine oj_ald0 (pc := 33) (by decide +kernel) ?_
      refine of_Vv (pc := 34) (as := []) v_M_336 o_57 rfl rfl (Nat.le_of_ble_eq_true rfl) (by decide +kernel) (by decide) rfl (c_M_begins_0 (okp_bind H)) (fun M H => ?_)
      refine oj_bipush (pc := 37) (v := -2) ⟨by decide, by decide⟩ (by decide +kernel) ?_
      refine oj_st4 (pc := 39) (by decide +kernel) (by decide +kernel) ?_
      refine oj_iconst (pc := 41) (v := 0) ⟨by decide, by decide⟩ (by decide +kernel) ?_
      refine oj_st5 (pc := 42) (by decide +kernel) (by decide +kernel) ?_
      refine oj_iconst (pc := 44) (v := 0) ⟨by decide, by decide⟩ (by decide +kernel) ?_
      refine oj_st6 (pc := 45) (by decide +kernel) (by decide +kernel) ?_
      exact h47 _ _ _ _ _ _ _ _ H
    · refine oj_iconst (pc := 20) (v := -1) ⟨by decide, by decide⟩ (by decide +kernel) ?_
      exact oj_iret (pc := 21) (by decide +kernel) rfl rfl (Nat.le_refl _) (Nat.le_refl _) ⟨rfl, H⟩
theorem c_M_longest_0 {l : Launch} {f : Nat} {M : oM} {K : Int × oM → Prop} (H : okp (p_M_longest f M) K) : oKf l m_M_longest 4 [vr 57] M K := by
  refine oK_intro (lv := [vr 57, vu, vu, vu]) (by decide +kernel) (Nat.le_of_ble_eq_true rfl) rfl ?_
  have h7 : ∀ (g : Nat) (l1 l2 l3 : Int) (M : oM), okp (iter (p_M_longest_L7 f) g (l1, l2, l3, M)) K → oJ l m_M_longest (oEf 4 K) 0 0 7 [vr 57, vi l1, vi l2, vi l3] [] WD M := by
    intro g l1 l2 l3 M H
    have HL := fun hs => iter_J' (Jh := fun s => oJ l m_M_longest (oEf 4 K) 0 0 7 [vr 57, vi s.1, vi s.2.1, vi s.2.2.1] [] WD s.2.2.2) (G := K) hs g (l1, l2, l3, M) H
    refine HL ?_
    intro K7 s i7 e7 H
    obtain ⟨l1, l2, l3, M⟩ := s
    show oJ l m_M_longest (oEf 4 K) 0 0 7 [vr 57, vi l1, vi l2, vi l3] [] WD M
    have h49 : ∀ (l1 l2 l3 : Int) (M : oM), okp (p_M_longest_B49_7 f l1 l2 l3 M) K7 → oJ l m_M_longest (oEf 4 K) 0 0 49 [vr 57, vi l1, vi l2, vi l3] [] WD M := by
      intro l1 l2 l3 M H
      refine oj_inc3 (pc := 49) (d := 1) (by decide +kernel) (by decide +kernel) ?_
      have H := okp_lt H
      refine oj_goto (pc := 52) (off := -45) (tgt := 7) (by decide +kernel) (by decide) ?_
      have H := i7 _ H
      exact H
    refine oj_ld3 (pc := 7) (by decide +kernel) ?_
    refine oj_bipush (pc := 8) (v := 10) ⟨by decide, by decide⟩ (by decide +kernel) ?_
    refine oj_icmp_ge (pc := 10) (off := 45) (tgt := 55) (by decide +kernel) (by decide) H (fun _ H => ?_) (fun _ H => ?_)
    · refine oj_ld1 (pc := 55) (by decide +kernel) ?_
      have H := e7 _ H
      exact oj_iret (pc := 56) (by decide +kernel) rfl rfl (Nat.le_refl _) (Nat.le_refl _) ⟨rfl, H⟩
    · refine oj_ald0 (pc := 13) (by decide +kernel) ?_
      refine oj_ld3 (pc := 14) (by decide +kernel) ?_
      refine of_Vi (pc := 15) (as := [_]) v_M_135 o_57 rfl rfl (Nat.le_of_ble_eq_true rfl) (by decide +kernel) (by decide) rfl (c_M_isPerson_0 (okp_bind H)) (fun r M H => ?_)
      refine oj_if_eq (pc := 18) (off := 31) (tgt := 49) (by decide +kernel) (by decide) H (fun _ H => ?_) (fun _ H => ?_)
      · exact h49 _ _ _ _ H
      · refine oj_ald0 (pc := 21) (by decide +kernel) ?_
        refine oj_getR' (pc := 22) f_M_7 s_57_0 (by decide +kernel) ?_
        refine oj_bipush (pc := 25) (v := 100) ⟨by decide, by decide⟩ (by decide +kernel) ?_
        refine oj_ld3 (pc := 27) (by decide +kernel) ?_
        refine oj_iadd (pc := 28) (by decide +kernel) ?_
        refine oj_iald (pc := 29) (NN := 159) a_58 rfl (by decide +kernel) H (fun H => ?_)
        refine oj_ld2 (pc := 30) (by decide +kernel) ?_
        refine oj_icmp_gt (pc := 31) (off := 6) (tgt := 37) (by decide +kernel) (by decide) H (fun _ H => ?_) (fun _ H => ?_)
        · refine oj_ald0 (pc := 37) (by decide +kernel) ?_
          refine oj_getR' (pc := 38) f_M_7 s_57_0 (by decide +kernel) ?_
          refine oj_bipush (pc := 41) (v := 100) ⟨by decide, by decide⟩ (by decide +kernel) ?_
          refine oj_ld3 (pc := 43) (by decide +kernel) ?_
          refine oj_iadd (pc := 44) (by decide +kernel) ?_
          refine oj_iald (pc := 45) (NN := 159) a_58 rfl (by decide +kernel) H (fun H => ?_)
          refine oj_st2 (pc := 46) (by decide +kernel) (by decide +kernel) ?_
          have H := okp_lt H
          refine oj_ld3 (pc := 47) (by decide +kernel) ?_
          refine oj_st1 (pc := 48) (by decide +kernel) (by decide +kernel) ?_
          exact h49 _ _ _ _ H
        · refine oj_goto (pc := 34) (off := 15) (tgt := 49) (by decide +kernel) (by decide) ?_
          exact h49 _ _ _ _ H
  refine oj_bipush (pc := 0) (v := -2) ⟨by decide, by decide⟩ (by decide +kernel) ?_
  refine oj_st1 (pc := 2) (by decide +kernel) (by decide +kernel) ?_
  refine oj_iconst (pc := 3) (v := 0) ⟨by decide, by decide⟩ (by decide +kernel) ?_
  refine oj_st2 (pc := 4) (by decide +kernel) (by decide +kernel) ?_
  refine oj_iconst (pc := 5) (v := 0) ⟨by decide, by decide⟩ (by decide +kernel) ?_
  refine oj_st3 (pc := 6) (by decide +kernel) (by decide +kernel) ?_
  exact h7 _ _ _ _ _ H
theorem c_M_chalk_0 {l : Launch} {f : Nat} {l1 : Int} {M : oM} {K : Int × oM → Prop} (H : okp (p_M_chalk f l1 M) K) : oKf l m_M_chalk 3 [vr 57, vi l1] M K := by
  refine oK_intro (lv := [vr 57, vi l1]) (by decide +kernel) (Nat.le_of_ble_eq_true rfl) rfl ?_
  refine oj_ld1 (pc := 0) (by decide +kernel) ?_
  refine oj_iconst (pc := 1) (v := 0) ⟨by decide, by decide⟩ (by decide +kernel) ?_
  refine oj_ald0 (pc := 2) (by decide +kernel) ?_
  refine oj_getR' (pc := 3) f_M_7 s_57_0 (by decide +kernel) ?_
  refine oj_sipush (pc := 6) (v := 150) ⟨by decide, by decide⟩ (by decide +kernel) ?_
  refine oj_iald (pc := 9) (NN := 159) a_58 rfl (by decide +kernel) H (fun H => ?_)
  refine oj_iconst (pc := 10) (v := 1) ⟨by decide, by decide⟩ (by decide +kernel) ?_
  refine oj_isub (pc := 11) (by decide +kernel) ?_
  refine of_Si (pc := 12) (as := [_, _, _]) v_M_123 rfl rfl (Nat.le_of_ble_eq_true rfl) (by decide +kernel) (by decide) rfl (c_M_in_0 (okp_bind H)) (fun r M H => ?_)
  refine oj_if_eq (pc := 15) (off := 15) (tgt := 30) (by decide +kernel) (by decide) H (fun _ H => ?_) (fun _ H => ?_)
  · refine oj_iconst (pc := 30) (v := -1) ⟨by decide, by decide⟩ (by decide +kernel) ?_
    exact oj_iret (pc := 31) (by decide +kernel) rfl rfl (Nat.le_refl _) (Nat.le_refl _) ⟨rfl, H⟩
  · refine oj_ald0 (pc := 18) (by decide +kernel) ?_
    refine oj_getR' (pc := 19) f_M_7 s_57_0 (by decide +kernel) ?_
    refine oj_bipush (pc := 22) (v := 110) ⟨by decide, by decide⟩ (by decide +kernel) ?_
    refine oj_ld1 (pc := 24) (by decide +kernel) ?_
    refine oj_iadd (pc := 25) (by decide +kernel) ?_
    refine oj_iald (pc := 26) (NN := 159) a_58 rfl (by decide +kernel) H (fun H => ?_)
    refine oj_goto (pc := 27) (off := 4) (tgt := 31) (by decide +kernel) (by decide) ?_
    exact oj_iret (pc := 31) (by decide +kernel) rfl rfl (Nat.le_refl _) (Nat.le_refl _) ⟨rfl, H⟩
theorem c_M_hoursOf_0 {l : Launch} {f : Nat} {l1 : Int} {M : oM} {K : Int × oM → Prop} (H : okp (p_M_hoursOf f l1 M) K) : oKf l m_M_hoursOf 4 [vr 57, vi l1] M K := by
  refine oK_intro (lv := [vr 57, vi l1, vu, vu]) (by decide +kernel) (Nat.le_of_ble_eq_true rfl) rfl ?_
  have h4 : ∀ (g : Nat) (l1 l2 l3 : Int) (M : oM), okp (iter (p_M_hoursOf_L4 f l1) g (l2, l3, M)) K → oJ l m_M_hoursOf (oEf 4 K) 0 0 4 [vr 57, vi l1, vi l2, vi l3] [] WD M := by
    intro g l1 l2 l3 M H
    have HL := fun hs => iter_J' (Jh := fun s => oJ l m_M_hoursOf (oEf 4 K) 0 0 4 [vr 57, vi l1, vi s.1, vi s.2.1] [] WD s.2.2) (G := K) hs g (l2, l3, M) H
    refine HL ?_
    intro K4 s i4 e4 H
    obtain ⟨l2, l3, M⟩ := s
    show oJ l m_M_hoursOf (oEf 4 K) 0 0 4 [vr 57, vi l1, vi l2, vi l3] [] WD M
    have h41 : ∀ (l3 s0 s1 : Int) (M : oM), okp (p_M_hoursOf_B41_4 f l1 l3 s0 s1 M) K4 → oJ l m_M_hoursOf (oEf 4 K) 0 0 41 [vr 57, vi l1, vu, vi l3] [vi s1, vi s0] WD M := by
      intro l3 s0 s1 M H
      refine oj_iadd (pc := 41) (by decide +kernel) ?_
      refine oj_st2 (pc := 42) (by decide +kernel) (by decide +kernel) ?_
      have H := okp_lt H
      refine oj_inc3 (pc := 43) (d := 1) (by decide +kernel) (by decide +kernel) ?_
      have H := okp_lt H
      refine oj_goto (pc := 46) (off := -42) (tgt := 4) (by decide +kernel) (by decide) ?_
      have H := i4 _ H
      exact H
    refine oj_ld3 (pc := 4) (by decide +kernel) ?_
    refine oj_ald0 (pc := 5) (by decide +kernel) ?_
    refine oj_getI' (pc := 6) (ki := 50) f_M_400 s_57_50 rfl (by decide +kernel) ?_
    refine oj_icmp_ge (pc := 9) (off := 40) (tgt := 49) (by decide +kernel) (by decide) H (fun _ H => ?_) (fun _ H => ?_)
    · refine oj_ld2 (pc := 49) (by decide +kernel) ?_
      have H := e4 _ H
      exact oj_iret (pc := 50) (by decide +kernel) rfl rfl (Nat.le_refl _) (Nat.le_refl _) ⟨rfl, H⟩
    · refine oj_ld2 (pc := 12) (by decide +kernel) ?_
      refine oj_ld1 (pc := 13) (by decide +kernel) ?_
      refine oj_ld3 (pc := 14) (by decide +kernel) ?_
      refine of_Si (pc := 15) (as := [_, _]) v_M_131 rfl rfl (Nat.le_of_ble_eq_true rfl) (by decide +kernel) (by decide) rfl (c_M_has_0 (okp_bind H)) (fun r M H => ?_)
      refine oj_if_eq (pc := 18) (off := 22) (tgt := 40) (by decide +kernel) (by decide) H (fun _ H => ?_) (fun _ H => ?_)
      · refine oj_iconst (pc := 40) (v := 0) ⟨by decide, by decide⟩ (by decide +kernel) ?_
        refine oj_le (lv' := [_, _, vu, _]) ⟨Or.inr rfl, Or.inr rfl, Or.inl rfl, Or.inr rfl, trivial⟩ ?_
        exact h41 _ _ _ _ H
      · refine oj_ald0 (pc := 21) (by decide +kernel) ?_
        refine oj_ald0 (pc := 22) (by decide +kernel) ?_
        refine oj_getR' (pc := 23) f_M_89 s_57_48 (by decide +kernel) ?_
        refine oj_ld3 (pc := 26) (by decide +kernel) ?_
        refine oj_iald (pc := 27) (NN := 12) a_84 rfl (by decide +kernel) H (fun H => ?_)
        refine oj_ald0 (pc := 28) (by decide +kernel) ?_
        refine oj_getR' (pc := 29) f_M_92 s_57_49 (by decide +kernel) ?_
        refine oj_ld3 (pc := 32) (by decide +kernel) ?_
        refine oj_iald (pc := 33) (NN := 12) a_85 rfl (by decide +kernel) H (fun H => ?_)
        refine of_Vi (pc := 34) (as := [_, _]) v_M_268 o_57 rfl rfl (Nat.le_of_ble_eq_true rfl) (by decide +kernel) (by decide) rfl (c_M_wayOf_0 (okp_bind H)) (fun r M H => ?_)
        refine oj_goto (pc := 37) (off := 4) (tgt := 41) (by decide +kernel) (by decide) ?_
        refine oj_le (lv' := [_, _, vu, _]) ⟨Or.inr rfl, Or.inr rfl, Or.inl rfl, Or.inr rfl, trivial⟩ ?_
        exact h41 _ _ _ _ H
  refine oj_iconst (pc := 0) (v := 0) ⟨by decide, by decide⟩ (by decide +kernel) ?_
  refine oj_st2 (pc := 1) (by decide +kernel) (by decide +kernel) ?_
  refine oj_iconst (pc := 2) (v := 0) ⟨by decide, by decide⟩ (by decide +kernel) ?_
  refine oj_st3 (pc := 3) (by decide +kernel) (by decide +kernel) ?_
  exact h4 _ _ _ _ _ H
theorem c_M_isRowOf_0 {l : Launch} {f : Nat} {l1 l2 : Int} {M : oM} {K : Int × oM → Prop} (H : okp (p_M_isRowOf f l1 l2 M) K) : oKf l m_M_isRowOf 5 [vr 57, vi l1, vi l2] M K := by
  refine oK_intro (lv := [vr 57, vi l1, vi l2, vu]) (by decide +kernel) (Nat.le_of_ble_eq_true rfl) rfl ?_
  have h23 : ∀ (g : Nat) (l1 l2 l3 : Int) (M : oM), okp (iter (p_M_isRowOf_L23 f l1 l2) g (l3, M)) K → oJ l m_M_isRowOf (oEf 5 K) 0 0 23 [vr 57, vi l1, vi l2, vi l3] [] WD M := by
    intro g l1 l2 l3 M H
    have HL := fun hs => iter_J' (Jh := fun s => oJ l m_M_isRowOf (oEf 5 K) 0 0 23 [vr 57, vi l1, vi l2, vi s.1] [] WD s.2) (G := K) hs g (l3, M) H
    refine HL ?_
    intro K23 s i23 e23 H
    obtain ⟨l3, M⟩ := s
    show oJ l m_M_isRowOf (oEf 5 K) 0 0 23 [vr 57, vi l1, vi l2, vi l3] [] WD M
    have h78 : ∀ (l3 : Int) (M : oM), okp (p_M_isRowOf_B78_23 f l1 l2 l3 M) K23 → oJ l m_M_isRowOf (oEf 5 K) 0 0 78 [vr 57, vi l1, vi l2, vi l3] [] WD M := by
      intro l3 M H
      refine oj_inc3 (pc := 78) (d := 1) (by decide +kernel) (by decide +kernel) ?_
      have H := okp_lt H
      refine oj_goto (pc := 81) (off := -58) (tgt := 23) (by decide +kernel) (by decide) ?_
      have H := i23 _ H
      exact H
    refine oj_ld3 (pc := 23) (by decide +kernel) ?_
    refine oj_ald0 (pc := 24) (by decide +kernel) ?_
    refine oj_getI' (pc := 25) (ki := 50) f_M_400 s_57_50 rfl (by decide +kernel) ?_
    refine oj_icmp_ge (pc := 28) (off := 56) (tgt := 84) (by decide +kernel) (by decide) H (fun _ H => ?_) (fun _ H => ?_)
    · refine oj_ald0 (pc := 84) (by decide +kernel) ?_
      refine oj_ld2 (pc := 85) (by decide +kernel) ?_
      refine of_Vi (pc := 86) (as := [_]) v_M_391 o_57 rfl rfl (Nat.le_of_ble_eq_true rfl) (by decide +kernel) (by decide) rfl (c_M_isRow_0 (okp_bind H)) (fun r M H => ?_)
      refine oj_zret (pc := 89) (f := _) (K := _) (by decide +kernel) rfl (Nat.le_refl _) (Nat.le_refl _) H (fun H => ?_)
      have H := e23 _ H
      exact ⟨rfl, H⟩
    · refine oj_ld1 (pc := 31) (by decide +kernel) ?_
      refine oj_ld3 (pc := 32) (by decide +kernel) ?_
      refine of_Si (pc := 33) (as := [_, _]) v_M_131 rfl rfl (Nat.le_of_ble_eq_true rfl) (by decide +kernel) (by decide) rfl (c_M_has_0 (okp_bind H)) (fun r M H => ?_)
      refine oj_if_eq (pc := 36) (off := 42) (tgt := 78) (by decide +kernel) (by decide) H (fun _ H => ?_) (fun _ H => ?_)
      · exact h78 _ _ H
      · refine oj_ald0 (pc := 39) (by decide +kernel) ?_
        refine oj_getR' (pc := 40) f_M_83 s_57_46 (by decide +kernel) ?_
        refine oj_bipush (pc := 43) (v := 10) ⟨by decide, by decide⟩ (by decide +kernel) ?_
        refine oj_ald0 (pc := 45) (by decide +kernel) ?_
        refine oj_getR' (pc := 46) f_M_89 s_57_48 (by decide +kernel) ?_
        refine oj_ld3 (pc := 49) (by decide +kernel) ?_
        refine oj_iald (pc := 50) (NN := 12) a_84 rfl (by decide +kernel) H (fun H => ?_)
        refine oj_imul (pc := 51) (by decide +kernel) ?_
        refine oj_ald0 (pc := 52) (by decide +kernel) ?_
        refine oj_getR' (pc := 53) f_M_92 s_57_49 (by decide +kernel) ?_
        refine oj_ld3 (pc := 56) (by decide +kernel) ?_
        refine oj_iald (pc := 57) (NN := 12) a_85 rfl (by decide +kernel) H (fun H => ?_)
        refine oj_iadd (pc := 58) (by decide +kernel) ?_
        refine oj_ald0 (pc := 59) (by decide +kernel) ?_
        refine oj_ald0 (pc := 60) (by decide +kernel) ?_
        refine oj_getR' (pc := 61) f_M_89 s_57_48 (by decide +kernel) ?_
        refine oj_ld3 (pc := 64) (by decide +kernel) ?_
        refine oj_iald (pc := 65) (NN := 12) a_84 rfl (by decide +kernel) H (fun H => ?_)
        refine oj_ald0 (pc := 66) (by decide +kernel) ?_
        refine oj_getR' (pc := 67) f_M_92 s_57_49 (by decide +kernel) ?_
        refine oj_ld3 (pc := 70) (by decide +kernel) ?_
        refine oj_iald (pc := 71) (NN := 12) a_85 rfl (by decide +kernel) H (fun H => ?_)
        refine of_Vi (pc := 72) (as := [_, _]) v_M_385 o_57 rfl rfl (Nat.le_of_ble_eq_true rfl) (by decide +kernel) (by decide) rfl (c_M_leftOf_0 (okp_bind H)) (fun r M H => ?_)
        refine oj_iconst (pc := 75) (v := 1) ⟨by decide, by decide⟩ (by decide +kernel) ?_
        refine oj_iadd (pc := 76) (by decide +kernel) ?_
        refine oj_iast (pc := 77) (NN := 100) a_82 rfl (by decide +kernel) H (fun H => ?_)
        have H := okp_lt H
        exact h78 _ _ H
  have x2 : ∀ (l1 l2 : Int) (M : oM), okp (p_M_isRowOf_X2 f l1 l2 M) K → oJ l m_M_isRowOf (oEf 5 K) 0 0 21 [vr 57, vi l1, vi l2, vu] [] WD M := by
    intro l1 l2 M H
    unfold p_M_isRowOf_X2 at H
    refine oj_iconst (pc := 21) (v := 0) ⟨by decide, by decide⟩ (by decide +kernel) ?_
    refine oj_st3 (pc := 22) (by decide +kernel) (by decide +kernel) ?_
    exact h23 _ _ _ _ _ H
  have h2 : ∀ (g : Nat) (l1 l2 l3 : Int) (M : oM), okp (iter (p_M_isRowOf_L2 f l1 l2) g (l3, M)) (fun r => okp (p_M_isRowOf_X2 f l1 l2 r) K) → oJ l m_M_isRowOf (oEf 5 K) 0 0 2 [vr 57, vi l1, vi l2, vi l3] [] WD M := by
    intro g l1 l2 l3 M H
    have HL := fun hs => iter_J' (Jh := fun s => oJ l m_M_isRowOf (oEf 5 K) 0 0 2 [vr 57, vi l1, vi l2, vi s.1] [] WD s.2) (G := (fun r => okp (p_M_isRowOf_X2 f l1 l2 r) K)) hs g (l3, M) H
    refine HL ?_
    intro K2 s i2 e2 H
    obtain ⟨l3, M⟩ := s
    show oJ l m_M_isRowOf (oEf 5 K) 0 0 2 [vr 57, vi l1, vi l2, vi l3] [] WD M
    refine oj_ld3 (pc := 2) (by decide +kernel) ?_
    refine oj_bipush (pc := 3) (v := 100) ⟨by decide, by decide⟩ (by decide +kernel) ?_
    refine oj_icmp_ge (pc := 5) (off := 16) (tgt := 21) (by decide +kernel) (by decide) H (fun _ H => ?_) (fun _ H => ?_)
    · refine oj_le (lv' := [_, _, _, vu]) ⟨Or.inr rfl, Or.inr rfl, Or.inr rfl, Or.inl rfl, trivial⟩ ?_
      have H := e2 _ H
      exact x2 _ _ _ H
    · refine oj_ald0 (pc := 8) (by decide +kernel) ?_
      refine oj_getR' (pc := 9) f_M_83 s_57_46 (by decide +kernel) ?_
      refine oj_ld3 (pc := 12) (by decide +kernel) ?_
      refine oj_iconst (pc := 13) (v := 0) ⟨by decide, by decide⟩ (by decide +kernel) ?_
      refine oj_iast (pc := 14) (NN := 100) a_82 rfl (by decide +kernel) H (fun H => ?_)
      have H := okp_lt H
      refine oj_inc3 (pc := 15) (d := 1) (by decide +kernel) (by decide +kernel) ?_
      have H := okp_lt H
      refine oj_goto (pc := 18) (off := -16) (tgt := 2) (by decide +kernel) (by decide) ?_
      have H := i2 _ H
      exact H
  refine oj_iconst (pc := 0) (v := 0) ⟨by decide, by decide⟩ (by decide +kernel) ?_
  refine oj_st3 (pc := 1) (by decide +kernel) (by decide +kernel) ?_
  exact h2 _ _ _ _ _ (okp_bind H)
